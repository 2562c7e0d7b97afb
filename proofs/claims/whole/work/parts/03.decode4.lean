theorem dX12_often_63 : decode cX12_often 63 = .ok (.aload_n 0, 1) := by decide +kernel
theorem dX12_often_64 : decode cX12_often 64 = .ok (.iload_n 1, 1) := by decide +kernel
theorem dX12_often_65 : decode cX12_often 65 = .ok (.iload_n 2, 1) := by decide +kernel
theorem dX12_often_66 : decode cX12_often 66 = .ok (.iload_n 3, 1) := by decide +kernel
theorem dX12_often_67 : decode cX12_often 67 = .ok (.invokevirtual 89, 3) := by decide +kernel
theorem dX12_often_70 : decode cX12_often 70 = .ok (.ifCond .ne 9, 3) := by decide +kernel
theorem dX12_often_73 : decode cX12_often 73 = .ok (.aload_n 0, 1) := by decide +kernel
theorem dX12_often_74 : decode cX12_often 74 = .ok (.iconst 2, 1) := by decide +kernel
theorem dX12_often_75 : decode cX12_often 75 = .ok (.invokevirtual 75, 3) := by decide +kernel
theorem dX12_often_78 : decode cX12_often 78 = .ok (.ireturn, 1) := by decide +kernel
theorem dX12_often_79 : decode cX12_often 79 = .ok (.iconst 0, 1) := by decide +kernel
theorem dX12_often_80 : decode cX12_often 80 = .ok (.istore 5, 2) := by decide +kernel
theorem dX12_often_82 : decode cX12_often 82 = .ok (.iconst 0, 1) := by decide +kernel
theorem dX12_often_83 : decode cX12_often 83 = .ok (.istore 6, 2) := by decide +kernel
theorem dX12_often_85 : decode cX12_often 85 = .ok (.iload 6, 2) := by decide +kernel
theorem dX12_often_87 : decode cX12_often 87 = .ok (.iload_n 3, 1) := by decide +kernel
theorem dX12_often_88 : decode cX12_often 88 = .ok (.if_icmp .ge 47, 3) := by decide +kernel
theorem dX12_often_91 : decode cX12_often 91 = .ok (.aload_n 0, 1) := by decide +kernel
theorem dX12_often_92 : decode cX12_often 92 = .ok (.getfield 16, 3) := by decide +kernel
theorem dX12_often_95 : decode cX12_often 95 = .ok (.bipush 40, 2) := by decide +kernel
theorem dX12_often_97 : decode cX12_often 97 = .ok (.iload_n 1, 1) := by decide +kernel
theorem dX12_often_98 : decode cX12_often 98 = .ok (.imul, 1) := by decide +kernel
theorem dX12_often_99 : decode cX12_often 99 = .ok (.iload_n 2, 1) := by decide +kernel
theorem dX12_often_100 : decode cX12_often 100 = .ok (.iadd, 1) := by decide +kernel
theorem dX12_often_101 : decode cX12_often 101 = .ok (.iload 6, 2) := by decide +kernel
theorem dX12_often_103 : decode cX12_often 103 = .ok (.iadd, 1) := by decide +kernel
theorem dX12_often_104 : decode cX12_often 104 = .ok (.iaload, 1) := by decide +kernel
theorem dX12_often_105 : decode cX12_often 105 = .ok (.istore 7, 2) := by decide +kernel
theorem dX12_often_107 : decode cX12_often 107 = .ok (.iload 7, 2) := by decide +kernel
theorem dX12_often_109 : decode cX12_often 109 = .ok (.iconst 1, 1) := by decide +kernel
theorem dX12_often_110 : decode cX12_often 110 = .ok (.iconst 4, 1) := by decide +kernel
theorem dX12_often_111 : decode cX12_often 111 = .ok (.invokestatic 66, 3) := by decide +kernel
theorem dX12_often_114 : decode cX12_often 114 = .ok (.ifCond .ne 6, 3) := by decide +kernel
theorem dX12_often_117 : decode cX12_often 117 = .ok (.ldc 74, 2) := by decide +kernel
theorem dX12_often_119 : decode cX12_often 119 = .ok (.ireturn, 1) := by decide +kernel
theorem dX12_often_120 : decode cX12_often 120 = .ok (.iload 5, 2) := by decide +kernel
theorem dX12_often_122 : decode cX12_often 122 = .ok (.iload 7, 2) := by decide +kernel
theorem dX12_often_124 : decode cX12_often 124 = .ok (.iconst 1, 1) := by decide +kernel
theorem dX12_often_125 : decode cX12_often 125 = .ok (.isub, 1) := by decide +kernel
theorem dX12_often_126 : decode cX12_often 126 = .ok (.iadd, 1) := by decide +kernel
theorem dX12_often_127 : decode cX12_often 127 = .ok (.istore 5, 2) := by decide +kernel
theorem dX12_often_129 : decode cX12_often 129 = .ok (.iinc 6 1, 3) := by decide +kernel
theorem dX12_often_132 : decode cX12_often 132 = .ok (.goto (-47), 3) := by decide +kernel
theorem dX12_often_135 : decode cX12_often 135 = .ok (.iconst 0, 1) := by decide +kernel
theorem dX12_often_136 : decode cX12_often 136 = .ok (.istore 6, 2) := by decide +kernel
theorem dX12_often_138 : decode cX12_often 138 = .ok (.iconst 0, 1) := by decide +kernel
theorem dX12_often_139 : decode cX12_often 139 = .ok (.istore 7, 2) := by decide +kernel
theorem dX12_often_141 : decode cX12_often 141 = .ok (.iload 7, 2) := by decide +kernel
theorem dX12_often_143 : decode cX12_often 143 = .ok (.aload_n 0, 1) := by decide +kernel
theorem dX12_often_144 : decode cX12_often 144 = .ok (.getfield 25, 3) := by decide +kernel
theorem dX12_often_147 : decode cX12_often 147 = .ok (.iconst 1, 1) := by decide +kernel
theorem dX12_often_148 : decode cX12_often 148 = .ok (.iaload, 1) := by decide +kernel
theorem dX12_often_149 : decode cX12_often 149 = .ok (.if_icmp .ge 56, 3) := by decide +kernel
theorem dX12_often_152 : decode cX12_often 152 = .ok (.iload 6, 2) := by decide +kernel
theorem dX12_often_154 : decode cX12_often 154 = .ok (.aload_n 0, 1) := by decide +kernel
theorem dX12_often_155 : decode cX12_often 155 = .ok (.getfield 25, 3) := by decide +kernel
theorem dX12_often_158 : decode cX12_often 158 = .ok (.iconst 2, 1) := by decide +kernel
theorem dX12_often_159 : decode cX12_often 159 = .ok (.iaload, 1) := by decide +kernel
theorem dX12_often_160 : decode cX12_often 160 = .ok (.iload 7, 2) := by decide +kernel
theorem dX12_often_162 : decode cX12_often 162 = .ok (.invokestatic 160, 3) := by decide +kernel
theorem dX12_often_165 : decode cX12_often 165 = .ok (.ifCond .eq 30, 3) := by decide +kernel
theorem dX12_often_168 : decode cX12_often 168 = .ok (.iload 4, 2) := by decide +kernel
theorem dX12_often_170 : decode cX12_often 170 = .ok (.iload 7, 2) := by decide +kernel
theorem dX12_often_172 : decode cX12_often 172 = .ok (.invokestatic 160, 3) := by decide +kernel
theorem dX12_often_175 : decode cX12_often 175 = .ok (.ifCond .ne 20, 3) := by decide +kernel
theorem dX12_often_178 : decode cX12_often 178 = .ok (.aload_n 0, 1) := by decide +kernel
theorem dX12_often_179 : decode cX12_often 179 = .ok (.getfield 25, 3) := by decide +kernel
theorem dX12_often_182 : decode cX12_often 182 = .ok (.iload 7, 2) := by decide +kernel
theorem dX12_often_184 : decode cX12_often 184 = .ok (.invokestatic 141, 3) := by decide +kernel
theorem dX12_often_187 : decode cX12_often 187 = .ok (.iconst 4, 1) := by decide +kernel
theorem dX12_often_188 : decode cX12_often 188 = .ok (.if_icmp .eq 7, 3) := by decide +kernel
theorem dX12_often_191 : decode cX12_often 191 = .ok (.iconst 1, 1) := by decide +kernel
theorem dX12_often_192 : decode cX12_often 192 = .ok (.goto 4, 3) := by decide +kernel
theorem dX12_often_195 : decode cX12_often 195 = .ok (.iconst 0, 1) := by decide +kernel
theorem dX12_often_196 : decode cX12_often 196 = .ok (.iadd, 1) := by decide +kernel
theorem dX12_often_197 : decode cX12_often 197 = .ok (.istore 6, 2) := by decide +kernel
theorem dX12_often_199 : decode cX12_often 199 = .ok (.iinc 7 1, 3) := by decide +kernel
theorem dX12_often_202 : decode cX12_often 202 = .ok (.goto (-61), 3) := by decide +kernel
theorem dX12_often_205 : decode cX12_often 205 = .ok (.iconst 1, 1) := by decide +kernel
theorem dX12_often_206 : decode cX12_often 206 = .ok (.istore 7, 2) := by decide +kernel
theorem dX12_often_208 : decode cX12_often 208 = .ok (.iconst 0, 1) := by decide +kernel
theorem dX12_often_209 : decode cX12_often 209 = .ok (.istore 8, 2) := by decide +kernel
theorem dX12_often_211 : decode cX12_often 211 = .ok (.iload 8, 2) := by decide +kernel
theorem dX12_often_213 : decode cX12_often 213 = .ok (.iload 5, 2) := by decide +kernel
theorem dX12_often_215 : decode cX12_often 215 = .ok (.if_icmp .ge 24, 3) := by decide +kernel
theorem dX12_often_218 : decode cX12_often 218 = .ok (.iload 7, 2) := by decide +kernel
theorem dX12_often_220 : decode cX12_often 220 = .ok (.ifCond .le 19, 3) := by decide +kernel
theorem dX12_often_223 : decode cX12_often 223 = .ok (.iload 7, 2) := by decide +kernel
theorem dX12_often_225 : decode cX12_often 225 = .ok (.iload 6, 2) := by decide +kernel
theorem dX12_often_227 : decode cX12_often 227 = .ok (.iload 8, 2) := by decide +kernel
theorem dX12_often_229 : decode cX12_often 229 = .ok (.isub, 1) := by decide +kernel
theorem dX12_often_230 : decode cX12_often 230 = .ok (.imul, 1) := by decide +kernel
theorem dX12_often_231 : decode cX12_often 231 = .ok (.istore 7, 2) := by decide +kernel
theorem dX12_often_233 : decode cX12_often 233 = .ok (.iinc 8 1, 3) := by decide +kernel
theorem dX12_often_236 : decode cX12_often 236 = .ok (.goto (-25), 3) := by decide +kernel
theorem dX12_often_239 : decode cX12_often 239 = .ok (.aload_n 0, 1) := by decide +kernel
theorem dX12_often_240 : decode cX12_often 240 = .ok (.iload 7, 2) := by decide +kernel
theorem dX12_often_242 : decode cX12_often 242 = .ok (.invokevirtual 79, 3) := by decide +kernel
theorem dX12_often_245 : decode cX12_often 245 = .ok (.ireturn, 1) := by decide +kernel
theorem dX12_goes_0 : decode cX12_goes 0 = .ok (.iconst 0, 1) := by decide +kernel
theorem dX12_goes_1 : decode cX12_goes 1 = .ok (.istore_n 3, 1) := by decide +kernel
theorem dX12_goes_2 : decode cX12_goes 2 = .ok (.iload_n 3, 1) := by decide +kernel
theorem dX12_goes_3 : decode cX12_goes 3 = .ok (.bipush 124, 2) := by decide +kernel
theorem dX12_goes_5 : decode cX12_goes 5 = .ok (.if_icmp .ge 21, 3) := by decide +kernel
theorem dX12_goes_8 : decode cX12_goes 8 = .ok (.aload_n 0, 1) := by decide +kernel
theorem dX12_goes_9 : decode cX12_goes 9 = .ok (.getfield 31, 3) := by decide +kernel
theorem dX12_goes_12 : decode cX12_goes 12 = .ok (.iload_n 3, 1) := by decide +kernel
theorem dX12_goes_13 : decode cX12_goes 13 = .ok (.aload_n 0, 1) := by decide +kernel
theorem dX12_goes_14 : decode cX12_goes 14 = .ok (.getfield 25, 3) := by decide +kernel
theorem dX12_goes_17 : decode cX12_goes 17 = .ok (.iload_n 3, 1) := by decide +kernel
theorem dX12_goes_18 : decode cX12_goes 18 = .ok (.iaload, 1) := by decide +kernel
theorem dX12_goes_19 : decode cX12_goes 19 = .ok (.iastore, 1) := by decide +kernel
theorem dX12_goes_20 : decode cX12_goes 20 = .ok (.iinc 3 1, 3) := by decide +kernel
theorem dX12_goes_23 : decode cX12_goes 23 = .ok (.goto (-21), 3) := by decide +kernel
theorem dX12_goes_26 : decode cX12_goes 26 = .ok (.aload_n 0, 1) := by decide +kernel
theorem dX12_goes_27 : decode cX12_goes 27 = .ok (.iconst 0, 1) := by decide +kernel
theorem dX12_goes_28 : decode cX12_goes 28 = .ok (.putfield 234, 3) := by decide +kernel
theorem dX12_goes_31 : decode cX12_goes 31 = .ok (.iload_n 2, 1) := by decide +kernel
theorem dX12_goes_32 : decode cX12_goes 32 = .ok (.i2l, 1) := by decide +kernel
theorem dX12_goes_33 : decode cX12_goes 33 = .ok (.lstore_n 3, 1) := by decide +kernel
theorem dX12_goes_34 : decode cX12_goes 34 = .ok (.iconst 0, 1) := by decide +kernel
theorem dX12_goes_35 : decode cX12_goes 35 = .ok (.istore 5, 2) := by decide +kernel
theorem dX12_goes_37 : decode cX12_goes 37 = .ok (.iload 5, 2) := by decide +kernel
theorem dX12_goes_39 : decode cX12_goes 39 = .ok (.iload_n 1, 1) := by decide +kernel
theorem dX12_goes_40 : decode cX12_goes 40 = .ok (.if_icmp .ge 88, 3) := by decide +kernel
theorem dX12_goes_43 : decode cX12_goes 43 = .ok (.aload_n 0, 1) := by decide +kernel
theorem dX12_goes_44 : decode cX12_goes 44 = .ok (.getfield 31, 3) := by decide +kernel
theorem dX12_goes_47 : decode cX12_goes 47 = .ok (.iconst 4, 1) := by decide +kernel
theorem dX12_goes_48 : decode cX12_goes 48 = .ok (.iaload, 1) := by decide +kernel
theorem dX12_goes_49 : decode cX12_goes 49 = .ok (.ifCond .ne 22, 3) := by decide +kernel
theorem dX12_goes_52 : decode cX12_goes 52 = .ok (.aload_n 0, 1) := by decide +kernel
theorem dX12_goes_53 : decode cX12_goes 53 = .ok (.getfield 31, 3) := by decide +kernel
theorem dX12_goes_56 : decode cX12_goes 56 = .ok (.lload_n 3, 1) := by decide +kernel
theorem dX12_goes_57 : decode cX12_goes 57 = .ok (.invokestatic 175, 3) := by decide +kernel
theorem dX12_goes_60 : decode cX12_goes 60 = .ok (.lstore_n 3, 1) := by decide +kernel
theorem dX12_goes_61 : decode cX12_goes 61 = .ok (.aload_n 0, 1) := by decide +kernel
theorem dX12_goes_62 : decode cX12_goes 62 = .ok (.dup, 1) := by decide +kernel
theorem dX12_goes_63 : decode cX12_goes 63 = .ok (.getfield 234, 3) := by decide +kernel
theorem dX12_goes_66 : decode cX12_goes 66 = .ok (.iconst 1, 1) := by decide +kernel
theorem dX12_goes_67 : decode cX12_goes 67 = .ok (.iadd, 1) := by decide +kernel
theorem dX12_goes_68 : decode cX12_goes 68 = .ok (.putfield 234, 3) := by decide +kernel
theorem dX12_goes_71 : decode cX12_goes 71 = .ok (.aload_n 0, 1) := by decide +kernel
theorem dX12_goes_72 : decode cX12_goes 72 = .ok (.getfield 31, 3) := by decide +kernel
theorem dX12_goes_75 : decode cX12_goes 75 = .ok (.aload_n 0, 1) := by decide +kernel
theorem dX12_goes_76 : decode cX12_goes 76 = .ok (.getfield 57, 3) := by decide +kernel
theorem dX12_goes_79 : decode cX12_goes 79 = .ok (.aload_n 0, 1) := by decide +kernel
theorem dX12_goes_80 : decode cX12_goes 80 = .ok (.getfield 31, 3) := by decide +kernel
theorem dX12_goes_83 : decode cX12_goes 83 = .ok (.iconst 2, 1) := by decide +kernel
theorem dX12_goes_84 : decode cX12_goes 84 = .ok (.iaload, 1) := by decide +kernel
theorem dX12_goes_85 : decode cX12_goes 85 = .ok (.aload_n 0, 1) := by decide +kernel
theorem dX12_goes_86 : decode cX12_goes 86 = .ok (.getfield 31, 3) := by decide +kernel
theorem dX12_goes_89 : decode cX12_goes 89 = .ok (.iconst 3, 1) := by decide +kernel
theorem dX12_goes_90 : decode cX12_goes 90 = .ok (.iaload, 1) := by decide +kernel
theorem dX12_goes_91 : decode cX12_goes 91 = .ok (.invokestatic 197, 3) := by decide +kernel
theorem dX12_goes_94 : decode cX12_goes 94 = .ok (.istore 6, 2) := by decide +kernel
theorem dX12_goes_96 : decode cX12_goes 96 = .ok (.iload 6, 2) := by decide +kernel
theorem dX12_goes_98 : decode cX12_goes 98 = .ok (.ldc 60, 2) := by decide +kernel
theorem dX12_goes_100 : decode cX12_goes 100 = .ok (.if_icmp .eq 15, 3) := by decide +kernel
theorem dX12_goes_103 : decode cX12_goes 103 = .ok (.aload_n 0, 1) := by decide +kernel
theorem dX12_goes_104 : decode cX12_goes 104 = .ok (.getfield 31, 3) := by decide +kernel
theorem dX12_goes_107 : decode cX12_goes 107 = .ok (.iload 6, 2) := by decide +kernel
theorem dX12_goes_109 : decode cX12_goes 109 = .ok (.invokestatic 182, 3) := by decide +kernel
theorem dX12_goes_112 : decode cX12_goes 112 = .ok (.goto 13, 3) := by decide +kernel
theorem dX12_goes_115 : decode cX12_goes 115 = .ok (.aload_n 0, 1) := by decide +kernel
theorem dX12_goes_116 : decode cX12_goes 116 = .ok (.getfield 31, 3) := by decide +kernel
theorem dX12_goes_119 : decode cX12_goes 119 = .ok (.invokestatic 186, 3) := by decide +kernel
theorem dX12_goes_122 : decode cX12_goes 122 = .ok (.iinc 5 1, 3) := by decide +kernel
theorem dX12_goes_125 : decode cX12_goes 125 = .ok (.goto (-88), 3) := by decide +kernel
theorem dX12_goes_128 : decode cX12_goes 128 = .ok (.return_, 1) := by decide +kernel
theorem dX12_gone_0 : decode cX12_gone 0 = .ok (.aload_n 0, 1) := by decide +kernel
theorem dX12_gone_1 : decode cX12_gone 1 = .ok (.invokevirtual 168, 3) := by decide +kernel
theorem dX12_gone_4 : decode cX12_gone 4 = .ok (.ifCond .ne 6, 3) := by decide +kernel
theorem dX12_gone_7 : decode cX12_gone 7 = .ok (.ldc 145, 2) := by decide +kernel
theorem dX12_gone_9 : decode cX12_gone 9 = .ok (.ireturn, 1) := by decide +kernel
theorem dX12_gone_10 : decode cX12_gone 10 = .ok (.iload_n 1, 1) := by decide +kernel
theorem dX12_gone_11 : decode cX12_gone 11 = .ok (.invokestatic 70, 3) := by decide +kernel
theorem dX12_gone_14 : decode cX12_gone 14 = .ok (.ifCond .eq 41, 3) := by decide +kernel
theorem dX12_gone_17 : decode cX12_gone 17 = .ok (.iload_n 2, 1) := by decide +kernel
theorem dX12_gone_18 : decode cX12_gone 18 = .ok (.iconst 1, 1) := by decide +kernel
theorem dX12_gone_19 : decode cX12_gone 19 = .ok (.bipush 20, 2) := by decide +kernel
theorem dX12_gone_21 : decode cX12_gone 21 = .ok (.invokestatic 66, 3) := by decide +kernel
theorem dX12_gone_24 : decode cX12_gone 24 = .ok (.ifCond .eq 31, 3) := by decide +kernel
theorem dX12_gone_27 : decode cX12_gone 27 = .ok (.iload_n 3, 1) := by decide +kernel
theorem dX12_gone_28 : decode cX12_gone 28 = .ok (.iconst 1, 1) := by decide +kernel
theorem dX12_gone_29 : decode cX12_gone 29 = .ok (.ldc 171, 2) := by decide +kernel
theorem dX12_gone_31 : decode cX12_gone 31 = .ok (.invokestatic 66, 3) := by decide +kernel
theorem dX12_gone_34 : decode cX12_gone 34 = .ok (.ifCond .eq 21, 3) := by decide +kernel
theorem dX12_gone_37 : decode cX12_gone 37 = .ok (.iload 4, 2) := by decide +kernel
theorem dX12_gone_39 : decode cX12_gone 39 = .ok (.bipush (-2), 2) := by decide +kernel
theorem dX12_gone_41 : decode cX12_gone 41 = .ok (.aload_n 0, 1) := by decide +kernel
theorem dX12_gone_42 : decode cX12_gone 42 = .ok (.getfield 25, 3) := by decide +kernel
theorem dX12_gone_45 : decode cX12_gone 45 = .ok (.iconst 1, 1) := by decide +kernel
theorem dX12_gone_46 : decode cX12_gone 46 = .ok (.iaload, 1) := by decide +kernel
theorem dX12_gone_47 : decode cX12_gone 47 = .ok (.iconst 1, 1) := by decide +kernel
theorem dX12_gone_48 : decode cX12_gone 48 = .ok (.isub, 1) := by decide +kernel
theorem dX12_gone_49 : decode cX12_gone 49 = .ok (.invokestatic 66, 3) := by decide +kernel
theorem dX12_gone_52 : decode cX12_gone 52 = .ok (.ifCond .ne 6, 3) := by decide +kernel
theorem dX12_gone_55 : decode cX12_gone 55 = .ok (.ldc 74, 2) := by decide +kernel
theorem dX12_gone_57 : decode cX12_gone 57 = .ok (.ireturn, 1) := by decide +kernel
theorem dX12_gone_58 : decode cX12_gone 58 = .ok (.aload_n 0, 1) := by decide +kernel
theorem dX12_gone_59 : decode cX12_gone 59 = .ok (.iload_n 1, 1) := by decide +kernel
theorem dX12_gone_60 : decode cX12_gone 60 = .ok (.invokevirtual 209, 3) := by decide +kernel
theorem dX12_gone_63 : decode cX12_gone 63 = .ok (.istore 5, 2) := by decide +kernel
theorem dX12_gone_65 : decode cX12_gone 65 = .ok (.iload 5, 2) := by decide +kernel
theorem dX12_gone_67 : decode cX12_gone 67 = .ok (.ifCond .eq 6, 3) := by decide +kernel
theorem dX12_gone_70 : decode cX12_gone 70 = .ok (.iload 5, 2) := by decide +kernel
theorem dX12_gone_72 : decode cX12_gone 72 = .ok (.ireturn, 1) := by decide +kernel
theorem dX12_gone_73 : decode cX12_gone 73 = .ok (.aload_n 0, 1) := by decide +kernel
theorem dX12_gone_74 : decode cX12_gone 74 = .ok (.iconst 0, 1) := by decide +kernel
theorem dX12_gone_75 : decode cX12_gone 75 = .ok (.putfield 61, 3) := by decide +kernel
theorem dX12_gone_78 : decode cX12_gone 78 = .ok (.aload_n 0, 1) := by decide +kernel
theorem dX12_gone_79 : decode cX12_gone 79 = .ok (.iload_n 2, 1) := by decide +kernel
theorem dX12_gone_80 : decode cX12_gone 80 = .ok (.iload_n 3, 1) := by decide +kernel
theorem dX12_gone_81 : decode cX12_gone 81 = .ok (.invokevirtual 237, 3) := by decide +kernel
theorem dX12_gone_84 : decode cX12_gone 84 = .ok (.iload 4, 2) := by decide +kernel
theorem dX12_gone_86 : decode cX12_gone 86 = .ok (.iconst (-1), 1) := by decide +kernel
theorem dX12_gone_87 : decode cX12_gone 87 = .ok (.if_icmp .ne 10, 3) := by decide +kernel
theorem dX12_gone_90 : decode cX12_gone 90 = .ok (.aload_n 0, 1) := by decide +kernel
theorem dX12_gone_91 : decode cX12_gone 91 = .ok (.getfield 234, 3) := by decide +kernel
theorem dX12_gone_94 : decode cX12_gone 94 = .ok (.goto 34, 3) := by decide +kernel
theorem dX12_gone_97 : decode cX12_gone 97 = .ok (.iload 4, 2) := by decide +kernel
theorem dX12_gone_99 : decode cX12_gone 99 = .ok (.bipush (-2), 2) := by decide +kernel
theorem dX12_gone_101 : decode cX12_gone 101 = .ok (.if_icmp .ne 12, 3) := by decide +kernel
theorem dX12_gone_104 : decode cX12_gone 104 = .ok (.aload_n 0, 1) := by decide +kernel
theorem dX12_gone_105 : decode cX12_gone 105 = .ok (.getfield 31, 3) := by decide +kernel
theorem dX12_gone_108 : decode cX12_gone 108 = .ok (.iconst 2, 1) := by decide +kernel
theorem dX12_gone_109 : decode cX12_gone 109 = .ok (.iaload, 1) := by decide +kernel
theorem dX12_gone_110 : decode cX12_gone 110 = .ok (.goto 18, 3) := by decide +kernel
theorem dX12_gone_113 : decode cX12_gone 113 = .ok (.aload_n 0, 1) := by decide +kernel
theorem dX12_gone_114 : decode cX12_gone 114 = .ok (.getfield 31, 3) := by decide +kernel
theorem dX12_gone_117 : decode cX12_gone 117 = .ok (.bipush 6, 2) := by decide +kernel
theorem dX12_gone_119 : decode cX12_gone 119 = .ok (.bipush 6, 2) := by decide +kernel
theorem dX12_gone_121 : decode cX12_gone 121 = .ok (.iload 4, 2) := by decide +kernel
theorem dX12_gone_123 : decode cX12_gone 123 = .ok (.imul, 1) := by decide +kernel
theorem dX12_gone_124 : decode cX12_gone 124 = .ok (.iadd, 1) := by decide +kernel
theorem dX12_gone_125 : decode cX12_gone 125 = .ok (.iconst 4, 1) := by decide +kernel
theorem dX12_gone_126 : decode cX12_gone 126 = .ok (.iadd, 1) := by decide +kernel
theorem dX12_gone_127 : decode cX12_gone 127 = .ok (.iaload, 1) := by decide +kernel
theorem dX12_gone_128 : decode cX12_gone 128 = .ok (.ireturn, 1) := by decide +kernel
theorem dX12_image_0 : decode cX12_image 0 = .ok (.iload_n 1, 1) := by decide +kernel
theorem dX12_image_1 : decode cX12_image 1 = .ok (.iconst 0, 1) := by decide +kernel
theorem dX12_image_2 : decode cX12_image 2 = .ok (.iconst 1, 1) := by decide +kernel
theorem dX12_image_3 : decode cX12_image 3 = .ok (.invokestatic 66, 3) := by decide +kernel
theorem dX12_image_6 : decode cX12_image 6 = .ok (.ifCond .ne 6, 3) := by decide +kernel
theorem dX12_image_9 : decode cX12_image 9 = .ok (.ldc 74, 2) := by decide +kernel
theorem dX12_image_11 : decode cX12_image 11 = .ok (.ireturn, 1) := by decide +kernel
theorem dX12_image_12 : decode cX12_image 12 = .ok (.aload_n 0, 1) := by decide +kernel
theorem dX12_image_13 : decode cX12_image 13 = .ok (.invokevirtual 168, 3) := by decide +kernel
theorem dX12_image_16 : decode cX12_image 16 = .ok (.ifCond .ne 6, 3) := by decide +kernel
theorem dX12_image_19 : decode cX12_image 19 = .ok (.ldc 145, 2) := by decide +kernel
theorem dX12_image_21 : decode cX12_image 21 = .ok (.ireturn, 1) := by decide +kernel
theorem dX12_image_22 : decode cX12_image 22 = .ok (.iconst 0, 1) := by decide +kernel
theorem dX12_image_23 : decode cX12_image 23 = .ok (.istore_n 2, 1) := by decide +kernel
theorem dX12_image_24 : decode cX12_image 24 = .ok (.iload_n 2, 1) := by decide +kernel
theorem dX12_image_25 : decode cX12_image 25 = .ok (.bipush 124, 2) := by decide +kernel
theorem dX12_image_27 : decode cX12_image 27 = .ok (.if_icmp .ge 26, 3) := by decide +kernel
theorem dX12_image_30 : decode cX12_image 30 = .ok (.aload_n 0, 1) := by decide +kernel
theorem dX12_image_31 : decode cX12_image 31 = .ok (.getfield 37, 3) := by decide +kernel
theorem dX12_image_34 : decode cX12_image 34 = .ok (.bipush 124, 2) := by decide +kernel
theorem dX12_image_36 : decode cX12_image 36 = .ok (.iload_n 1, 1) := by decide +kernel
theorem dX12_image_37 : decode cX12_image 37 = .ok (.imul, 1) := by decide +kernel
theorem dX12_image_38 : decode cX12_image 38 = .ok (.iload_n 2, 1) := by decide +kernel
theorem dX12_image_39 : decode cX12_image 39 = .ok (.iadd, 1) := by decide +kernel
theorem dX12_image_40 : decode cX12_image 40 = .ok (.aload_n 0, 1) := by decide +kernel
theorem dX12_image_41 : decode cX12_image 41 = .ok (.getfield 25, 3) := by decide +kernel
theorem dX12_image_44 : decode cX12_image 44 = .ok (.iload_n 2, 1) := by decide +kernel
theorem dX12_image_45 : decode cX12_image 45 = .ok (.iaload, 1) := by decide +kernel
theorem dX12_image_46 : decode cX12_image 46 = .ok (.iastore, 1) := by decide +kernel
theorem dX12_image_47 : decode cX12_image 47 = .ok (.iinc 2 1, 3) := by decide +kernel
theorem dX12_image_50 : decode cX12_image 50 = .ok (.goto (-26), 3) := by decide +kernel
theorem dX12_image_53 : decode cX12_image 53 = .ok (.aload_n 0, 1) := by decide +kernel
theorem dX12_image_54 : decode cX12_image 54 = .ok (.getfield 40, 3) := by decide +kernel
theorem dX12_image_57 : decode cX12_image 57 = .ok (.iload_n 1, 1) := by decide +kernel
theorem dX12_image_58 : decode cX12_image 58 = .ok (.iconst 1, 1) := by decide +kernel
theorem dX12_image_59 : decode cX12_image 59 = .ok (.bastore, 1) := by decide +kernel
theorem dX12_image_60 : decode cX12_image 60 = .ok (.iconst 1, 1) := by decide +kernel
theorem dX12_image_61 : decode cX12_image 61 = .ok (.ireturn, 1) := by decide +kernel
theorem dX12_restore_0 : decode cX12_restore 0 = .ok (.iload_n 1, 1) := by decide +kernel
theorem dX12_restore_1 : decode cX12_restore 1 = .ok (.iconst 0, 1) := by decide +kernel
theorem dX12_restore_2 : decode cX12_restore 2 = .ok (.iconst 1, 1) := by decide +kernel
theorem dX12_restore_3 : decode cX12_restore 3 = .ok (.invokestatic 66, 3) := by decide +kernel
theorem dX12_restore_6 : decode cX12_restore 6 = .ok (.ifCond .ne 6, 3) := by decide +kernel
theorem dX12_restore_9 : decode cX12_restore 9 = .ok (.ldc 74, 2) := by decide +kernel
theorem dX12_restore_11 : decode cX12_restore 11 = .ok (.ireturn, 1) := by decide +kernel
theorem dX12_restore_12 : decode cX12_restore 12 = .ok (.aload_n 0, 1) := by decide +kernel
theorem dX12_restore_13 : decode cX12_restore 13 = .ok (.getfield 40, 3) := by decide +kernel
theorem dX12_restore_16 : decode cX12_restore 16 = .ok (.iload_n 1, 1) := by decide +kernel
theorem dX12_restore_17 : decode cX12_restore 17 = .ok (.baload, 1) := by decide +kernel
theorem dX12_restore_18 : decode cX12_restore 18 = .ok (.ifCond .ne 6, 3) := by decide +kernel
theorem dX12_restore_21 : decode cX12_restore 21 = .ok (.ldc 145, 2) := by decide +kernel
theorem dX12_restore_23 : decode cX12_restore 23 = .ok (.ireturn, 1) := by decide +kernel
theorem dX12_restore_24 : decode cX12_restore 24 = .ok (.iconst 0, 1) := by decide +kernel
theorem dX12_restore_25 : decode cX12_restore 25 = .ok (.istore_n 2, 1) := by decide +kernel
theorem dX12_restore_26 : decode cX12_restore 26 = .ok (.iload_n 2, 1) := by decide +kernel
theorem dX12_restore_27 : decode cX12_restore 27 = .ok (.bipush 124, 2) := by decide +kernel
theorem dX12_restore_29 : decode cX12_restore 29 = .ok (.if_icmp .ge 26, 3) := by decide +kernel
theorem dX12_restore_32 : decode cX12_restore 32 = .ok (.aload_n 0, 1) := by decide +kernel
theorem dX12_restore_33 : decode cX12_restore 33 = .ok (.getfield 25, 3) := by decide +kernel
theorem dX12_restore_36 : decode cX12_restore 36 = .ok (.iload_n 2, 1) := by decide +kernel
theorem dX12_restore_37 : decode cX12_restore 37 = .ok (.aload_n 0, 1) := by decide +kernel
theorem dX12_restore_38 : decode cX12_restore 38 = .ok (.getfield 37, 3) := by decide +kernel
theorem dX12_restore_41 : decode cX12_restore 41 = .ok (.bipush 124, 2) := by decide +kernel
theorem dX12_restore_43 : decode cX12_restore 43 = .ok (.iload_n 1, 1) := by decide +kernel
theorem dX12_restore_44 : decode cX12_restore 44 = .ok (.imul, 1) := by decide +kernel
theorem dX12_restore_45 : decode cX12_restore 45 = .ok (.iload_n 2, 1) := by decide +kernel
theorem dX12_restore_46 : decode cX12_restore 46 = .ok (.iadd, 1) := by decide +kernel
theorem dX12_restore_47 : decode cX12_restore 47 = .ok (.iaload, 1) := by decide +kernel
theorem dX12_restore_48 : decode cX12_restore 48 = .ok (.iastore, 1) := by decide +kernel
theorem dX12_restore_49 : decode cX12_restore 49 = .ok (.iinc 2 1, 3) := by decide +kernel
theorem dX12_restore_52 : decode cX12_restore 52 = .ok (.goto (-26), 3) := by decide +kernel
theorem dX12_restore_55 : decode cX12_restore 55 = .ok (.aload_n 0, 1) := by decide +kernel
theorem dX12_restore_56 : decode cX12_restore 56 = .ok (.iconst 0, 1) := by decide +kernel
theorem dX12_restore_57 : decode cX12_restore 57 = .ok (.putfield 138, 3) := by decide +kernel
theorem dX12_restore_60 : decode cX12_restore 60 = .ok (.iconst 1, 1) := by decide +kernel
theorem dX12_restore_61 : decode cX12_restore 61 = .ok (.ireturn, 1) := by decide +kernel
theorem dX12_kind_0 : decode cX12_kind 0 = .ok (.aload_n 0, 1) := by decide +kernel
theorem dX12_kind_1 : decode cX12_kind 1 = .ok (.iload_n 1, 1) := by decide +kernel
theorem dX12_kind_2 : decode cX12_kind 2 = .ok (.invokevirtual 179, 3) := by decide +kernel
theorem dX12_kind_5 : decode cX12_kind 5 = .ok (.ifCond .eq 14, 3) := by decide +kernel
theorem dX12_kind_8 : decode cX12_kind 8 = .ok (.aload_n 0, 1) := by decide +kernel
theorem dX12_kind_9 : decode cX12_kind 9 = .ok (.getfield 25, 3) := by decide +kernel
theorem dX12_kind_12 : decode cX12_kind 12 = .ok (.iload_n 1, 1) := by decide +kernel
theorem dX12_kind_13 : decode cX12_kind 13 = .ok (.invokestatic 141, 3) := by decide +kernel
theorem dX12_kind_16 : decode cX12_kind 16 = .ok (.goto 5, 3) := by decide +kernel
theorem dX12_kind_19 : decode cX12_kind 19 = .ok (.ldc 74, 2) := by decide +kernel
theorem dX12_kind_21 : decode cX12_kind 21 = .ok (.ireturn, 1) := by decide +kernel
theorem dX12_as_0 : decode cX12_as 0 = .ok (.aload_n 0, 1) := by decide +kernel
theorem dX12_as_1 : decode cX12_as 1 = .ok (.iload_n 1, 1) := by decide +kernel
theorem dX12_as_2 : decode cX12_as 2 = .ok (.invokevirtual 179, 3) := by decide +kernel
theorem dX12_as_5 : decode cX12_as 5 = .ok (.ifCond .eq 12, 3) := by decide +kernel
theorem dX12_as_8 : decode cX12_as 8 = .ok (.iload_n 2, 1) := by decide +kernel
theorem dX12_as_9 : decode cX12_as 9 = .ok (.iconst 0, 1) := by decide +kernel
theorem dX12_as_10 : decode cX12_as 10 = .ok (.iconst 5, 1) := by decide +kernel
theorem dX12_as_11 : decode cX12_as 11 = .ok (.invokestatic 66, 3) := by decide +kernel
theorem dX12_as_14 : decode cX12_as 14 = .ok (.ifCond .ne 6, 3) := by decide +kernel
theorem dX12_as_17 : decode cX12_as 17 = .ok (.ldc 74, 2) := by decide +kernel
theorem dX12_as_19 : decode cX12_as 19 = .ok (.ireturn, 1) := by decide +kernel
theorem dX12_as_20 : decode cX12_as 20 = .ok (.aload_n 0, 1) := by decide +kernel
theorem dX12_as_21 : decode cX12_as 21 = .ok (.getfield 25, 3) := by decide +kernel
theorem dX12_as_24 : decode cX12_as 24 = .ok (.iload_n 1, 1) := by decide +kernel
theorem dX12_as_25 : decode cX12_as 25 = .ok (.invokestatic 141, 3) := by decide +kernel
theorem dX12_as_28 : decode cX12_as 28 = .ok (.istore_n 3, 1) := by decide +kernel
theorem dX12_as_29 : decode cX12_as 29 = .ok (.iload_n 2, 1) := by decide +kernel
theorem dX12_as_30 : decode cX12_as 30 = .ok (.ifCond .eq 28, 3) := by decide +kernel
theorem dX12_as_33 : decode cX12_as 33 = .ok (.iload_n 2, 1) := by decide +kernel
theorem dX12_as_34 : decode cX12_as 34 = .ok (.iload_n 3, 1) := by decide +kernel
theorem dX12_as_35 : decode cX12_as 35 = .ok (.if_icmp .eq 23, 3) := by decide +kernel
theorem dX12_as_38 : decode cX12_as 38 = .ok (.iload_n 2, 1) := by decide +kernel
theorem dX12_as_39 : decode cX12_as 39 = .ok (.iconst 1, 1) := by decide +kernel
theorem dX12_as_40 : decode cX12_as 40 = .ok (.if_icmp .ne 8, 3) := by decide +kernel
theorem dX12_as_43 : decode cX12_as 43 = .ok (.iload_n 3, 1) := by decide +kernel
theorem dX12_as_44 : decode cX12_as 44 = .ok (.iconst 4, 1) := by decide +kernel
theorem dX12_as_45 : decode cX12_as 45 = .ok (.if_icmp .lt 13, 3) := by decide +kernel
theorem dX12_as_48 : decode cX12_as 48 = .ok (.iload_n 2, 1) := by decide +kernel
theorem dX12_as_49 : decode cX12_as 49 = .ok (.iconst 4, 1) := by decide +kernel
theorem dX12_as_50 : decode cX12_as 50 = .ok (.if_icmp .ne 12, 3) := by decide +kernel
theorem dX12_as_53 : decode cX12_as 53 = .ok (.iload_n 3, 1) := by decide +kernel
theorem dX12_as_54 : decode cX12_as 54 = .ok (.iconst 5, 1) := by decide +kernel
theorem dX12_as_55 : decode cX12_as 55 = .ok (.if_icmp .ne 7, 3) := by decide +kernel
theorem dX12_as_58 : decode cX12_as 58 = .ok (.iconst 1, 1) := by decide +kernel
theorem dX12_as_59 : decode cX12_as 59 = .ok (.goto 4, 3) := by decide +kernel
theorem dX12_as_62 : decode cX12_as 62 = .ok (.iconst 0, 1) := by decide +kernel
theorem dX12_as_63 : decode cX12_as 63 = .ok (.istore 4, 2) := by decide +kernel
theorem dX12_as_65 : decode cX12_as 65 = .ok (.iload 4, 2) := by decide +kernel
theorem dX12_as_67 : decode cX12_as 67 = .ok (.ifCond .eq 11, 3) := by decide +kernel
theorem dX12_as_70 : decode cX12_as 70 = .ok (.aload_n 0, 1) := by decide +kernel
theorem dX12_as_71 : decode cX12_as 71 = .ok (.iload_n 1, 1) := by decide +kernel
theorem dX12_as_72 : decode cX12_as 72 = .ok (.invokevirtual 79, 3) := by decide +kernel
theorem dX12_as_75 : decode cX12_as 75 = .ok (.goto 8, 3) := by decide +kernel
theorem dX12_as_78 : decode cX12_as 78 = .ok (.aload_n 0, 1) := by decide +kernel
theorem dX12_as_79 : decode cX12_as 79 = .ok (.iconst 3, 1) := by decide +kernel
theorem dX12_as_80 : decode cX12_as 80 = .ok (.invokevirtual 75, 3) := by decide +kernel
theorem dX12_as_83 : decode cX12_as 83 = .ok (.ireturn, 1) := by decide +kernel
theorem dX12_begins_0 : decode cX12_begins 0 = .ok (.aload_n 0, 1) := by decide +kernel
theorem dX12_begins_1 : decode cX12_begins 1 = .ok (.getfield 241, 3) := by decide +kernel
theorem dX12_begins_4 : decode cX12_begins 4 = .ok (.bipush 16, 2) := by decide +kernel
theorem dX12_begins_6 : decode cX12_begins 6 = .ok (.if_icmp .ge 23, 3) := by decide +kernel
theorem dX12_begins_9 : decode cX12_begins 9 = .ok (.aload_n 0, 1) := by decide +kernel
theorem dX12_begins_10 : decode cX12_begins 10 = .ok (.getfield 44, 3) := by decide +kernel
theorem dX12_begins_13 : decode cX12_begins 13 = .ok (.aload_n 0, 1) := by decide +kernel
theorem dX12_begins_14 : decode cX12_begins 14 = .ok (.getfield 241, 3) := by decide +kernel
theorem dX12_begins_17 : decode cX12_begins 17 = .ok (.iload_n 1, 1) := by decide +kernel
theorem dX12_begins_18 : decode cX12_begins 18 = .ok (.iastore, 1) := by decide +kernel
theorem dX12_begins_19 : decode cX12_begins 19 = .ok (.aload_n 0, 1) := by decide +kernel
theorem dX12_begins_20 : decode cX12_begins 20 = .ok (.dup, 1) := by decide +kernel
theorem dX12_begins_21 : decode cX12_begins 21 = .ok (.getfield 241, 3) := by decide +kernel
theorem dX12_begins_24 : decode cX12_begins 24 = .ok (.iconst 1, 1) := by decide +kernel
theorem dX12_begins_25 : decode cX12_begins 25 = .ok (.iadd, 1) := by decide +kernel
theorem dX12_begins_26 : decode cX12_begins 26 = .ok (.putfield 241, 3) := by decide +kernel
theorem dX12_begins_29 : decode cX12_begins 29 = .ok (.return_, 1) := by decide +kernel
theorem dX12_farmersMark_0 : decode cX12_farmersMark 0 = .ok (.aload_n 0, 1) := by decide +kernel
theorem dX12_farmersMark_1 : decode cX12_farmersMark 1 = .ok (.getfield 25, 3) := by decide +kernel
theorem dX12_farmersMark_4 : decode cX12_farmersMark 4 = .ok (.iload_n 1, 1) := by decide +kernel
theorem dX12_farmersMark_5 : decode cX12_farmersMark 5 = .ok (.invokestatic 141, 3) := by decide +kernel
theorem dX12_farmersMark_8 : decode cX12_farmersMark 8 = .ok (.istore_n 2, 1) := by decide +kernel
theorem dX12_farmersMark_9 : decode cX12_farmersMark 9 = .ok (.iload_n 2, 1) := by decide +kernel
theorem dX12_farmersMark_10 : decode cX12_farmersMark 10 = .ok (.iconst 1, 1) := by decide +kernel
theorem dX12_farmersMark_11 : decode cX12_farmersMark 11 = .ok (.if_icmp .eq 19, 3) := by decide +kernel
theorem dX12_farmersMark_14 : decode cX12_farmersMark 14 = .ok (.aload_n 0, 1) := by decide +kernel
theorem dX12_farmersMark_15 : decode cX12_farmersMark 15 = .ok (.iload_n 2, 1) := by decide +kernel
theorem dX12_farmersMark_16 : decode cX12_farmersMark 16 = .ok (.iconst 2, 1) := by decide +kernel
theorem dX12_farmersMark_17 : decode cX12_farmersMark 17 = .ok (.if_icmp .ne 8, 3) := by decide +kernel
theorem dX12_farmersMark_20 : decode cX12_farmersMark 20 = .ok (.bipush 24, 2) := by decide +kernel
theorem dX12_farmersMark_22 : decode cX12_farmersMark 22 = .ok (.goto 5, 3) := by decide +kernel
theorem dX12_farmersMark_25 : decode cX12_farmersMark 25 = .ok (.bipush 22, 2) := by decide +kernel
theorem dX12_farmersMark_27 : decode cX12_farmersMark 27 = .ok (.invokevirtual 244, 3) := by decide +kernel
theorem dX12_farmersMark_30 : decode cX12_farmersMark 30 = .ok (.aload_n 0, 1) := by decide +kernel
theorem dX12_farmersMark_31 : decode cX12_farmersMark 31 = .ok (.bipush 21, 2) := by decide +kernel
theorem dX12_farmersMark_33 : decode cX12_farmersMark 33 = .ok (.invokevirtual 244, 3) := by decide +kernel
theorem dX12_farmersMark_36 : decode cX12_farmersMark 36 = .ok (.aload_n 0, 1) := by decide +kernel
theorem dX12_farmersMark_37 : decode cX12_farmersMark 37 = .ok (.bipush 20, 2) := by decide +kernel
theorem dX12_farmersMark_39 : decode cX12_farmersMark 39 = .ok (.invokevirtual 244, 3) := by decide +kernel
theorem dX12_farmersMark_42 : decode cX12_farmersMark 42 = .ok (.iload_n 1, 1) := by decide +kernel
theorem dX12_farmersMark_43 : decode cX12_farmersMark 43 = .ok (.aload_n 0, 1) := by decide +kernel
theorem dX12_farmersMark_44 : decode cX12_farmersMark 44 = .ok (.getfield 25, 3) := by decide +kernel
theorem dX12_farmersMark_47 : decode cX12_farmersMark 47 = .ok (.bipush 6, 2) := by decide +kernel
theorem dX12_farmersMark_49 : decode cX12_farmersMark 49 = .ok (.bipush 6, 2) := by decide +kernel
theorem dX12_farmersMark_51 : decode cX12_farmersMark 51 = .ok (.iload_n 1, 1) := by decide +kernel
theorem dX12_farmersMark_52 : decode cX12_farmersMark 52 = .ok (.imul, 1) := by decide +kernel
theorem dX12_farmersMark_53 : decode cX12_farmersMark 53 = .ok (.iadd, 1) := by decide +kernel
theorem dX12_farmersMark_54 : decode cX12_farmersMark 54 = .ok (.iconst 5, 1) := by decide +kernel
theorem dX12_farmersMark_55 : decode cX12_farmersMark 55 = .ok (.iadd, 1) := by decide +kernel
theorem dX12_farmersMark_56 : decode cX12_farmersMark 56 = .ok (.iaload, 1) := by decide +kernel
theorem dX12_farmersMark_57 : decode cX12_farmersMark 57 = .ok (.iadd, 1) := by decide +kernel
theorem dX12_farmersMark_58 : decode cX12_farmersMark 58 = .ok (.istore_n 3, 1) := by decide +kernel
theorem dX12_farmersMark_59 : decode cX12_farmersMark 59 = .ok (.iload_n 2, 1) := by decide +kernel
theorem dX12_farmersMark_60 : decode cX12_farmersMark 60 = .ok (.iconst 2, 1) := by decide +kernel
theorem dX12_farmersMark_61 : decode cX12_farmersMark 61 = .ok (.if_icmp .ne 9, 3) := by decide +kernel
theorem dX12_farmersMark_64 : decode cX12_farmersMark 64 = .ok (.iconst 2, 1) := by decide +kernel
theorem dX12_farmersMark_65 : decode cX12_farmersMark 65 = .ok (.iload_n 3, 1) := by decide +kernel
theorem dX12_farmersMark_66 : decode cX12_farmersMark 66 = .ok (.imul, 1) := by decide +kernel
theorem dX12_farmersMark_67 : decode cX12_farmersMark 67 = .ok (.goto 17, 3) := by decide +kernel
theorem dX12_farmersMark_70 : decode cX12_farmersMark 70 = .ok (.iload_n 2, 1) := by decide +kernel
theorem dX12_farmersMark_71 : decode cX12_farmersMark 71 = .ok (.iconst 3, 1) := by decide +kernel
theorem dX12_farmersMark_72 : decode cX12_farmersMark 72 = .ok (.if_icmp .ne 11, 3) := by decide +kernel
theorem dX12_farmersMark_75 : decode cX12_farmersMark 75 = .ok (.iload_n 3, 1) := by decide +kernel
theorem dX12_farmersMark_76 : decode cX12_farmersMark 76 = .ok (.sipush 1000, 3) := by decide +kernel
theorem dX12_farmersMark_79 : decode cX12_farmersMark 79 = .ok (.isub, 1) := by decide +kernel
theorem dX12_farmersMark_80 : decode cX12_farmersMark 80 = .ok (.goto 4, 3) := by decide +kernel
theorem dX12_farmersMark_83 : decode cX12_farmersMark 83 = .ok (.iload_n 3, 1) := by decide +kernel
theorem dX12_farmersMark_84 : decode cX12_farmersMark 84 = .ok (.ireturn, 1) := by decide +kernel
theorem dX12_widowsSize_0 : decode cX12_widowsSize 0 = .ok (.aload_n 0, 1) := by decide +kernel
theorem dX12_widowsSize_1 : decode cX12_widowsSize 1 = .ok (.getfield 25, 3) := by decide +kernel
theorem dX12_widowsSize_4 : decode cX12_widowsSize 4 = .ok (.iload_n 1, 1) := by decide +kernel
theorem dX12_widowsSize_5 : decode cX12_widowsSize 5 = .ok (.invokestatic 141, 3) := by decide +kernel
theorem dX12_widowsSize_8 : decode cX12_widowsSize 8 = .ok (.iconst 5, 1) := by decide +kernel
theorem dX12_widowsSize_9 : decode cX12_widowsSize 9 = .ok (.if_icmp .ne 7, 3) := by decide +kernel
theorem dX12_widowsSize_12 : decode cX12_widowsSize 12 = .ok (.iconst 1, 1) := by decide +kernel
theorem dX12_widowsSize_13 : decode cX12_widowsSize 13 = .ok (.goto 4, 3) := by decide +kernel
theorem dX12_widowsSize_16 : decode cX12_widowsSize 16 = .ok (.iconst 0, 1) := by decide +kernel
theorem dX12_widowsSize_17 : decode cX12_widowsSize 17 = .ok (.istore_n 2, 1) := by decide +kernel
theorem dX12_widowsSize_18 : decode cX12_widowsSize 18 = .ok (.iload_n 2, 1) := by decide +kernel
theorem dX12_widowsSize_19 : decode cX12_widowsSize 19 = .ok (.ifCond .eq 9, 3) := by decide +kernel
theorem dX12_widowsSize_22 : decode cX12_widowsSize 22 = .ok (.aload_n 0, 1) := by decide +kernel
theorem dX12_widowsSize_23 : decode cX12_widowsSize 23 = .ok (.bipush 14, 2) := by decide +kernel
theorem dX12_widowsSize_25 : decode cX12_widowsSize 25 = .ok (.invokevirtual 244, 3) := by decide +kernel
theorem dX12_widowsSize_28 : decode cX12_widowsSize 28 = .ok (.aload_n 0, 1) := by decide +kernel
theorem dX12_widowsSize_29 : decode cX12_widowsSize 29 = .ok (.bipush 13, 2) := by decide +kernel
theorem dX12_widowsSize_31 : decode cX12_widowsSize 31 = .ok (.invokevirtual 244, 3) := by decide +kernel
theorem dX12_widowsSize_34 : decode cX12_widowsSize 34 = .ok (.aload_n 0, 1) := by decide +kernel
theorem dX12_widowsSize_35 : decode cX12_widowsSize 35 = .ok (.bipush 10, 2) := by decide +kernel
theorem dX12_widowsSize_37 : decode cX12_widowsSize 37 = .ok (.invokevirtual 244, 3) := by decide +kernel
theorem dX12_widowsSize_40 : decode cX12_widowsSize 40 = .ok (.aload_n 0, 1) := by decide +kernel
theorem dX12_widowsSize_41 : decode cX12_widowsSize 41 = .ok (.getfield 25, 3) := by decide +kernel
theorem dX12_widowsSize_44 : decode cX12_widowsSize 44 = .ok (.bipush 6, 2) := by decide +kernel
theorem dX12_widowsSize_46 : decode cX12_widowsSize 46 = .ok (.bipush 6, 2) := by decide +kernel
theorem dX12_widowsSize_48 : decode cX12_widowsSize 48 = .ok (.iload_n 1, 1) := by decide +kernel
theorem dX12_widowsSize_49 : decode cX12_widowsSize 49 = .ok (.imul, 1) := by decide +kernel
theorem dX12_widowsSize_50 : decode cX12_widowsSize 50 = .ok (.iadd, 1) := by decide +kernel
theorem dX12_widowsSize_51 : decode cX12_widowsSize 51 = .ok (.iconst 4, 1) := by decide +kernel
theorem dX12_widowsSize_52 : decode cX12_widowsSize 52 = .ok (.iadd, 1) := by decide +kernel
theorem dX12_widowsSize_53 : decode cX12_widowsSize 53 = .ok (.iaload, 1) := by decide +kernel
theorem dX12_widowsSize_54 : decode cX12_widowsSize 54 = .ok (.bipush 100, 2) := by decide +kernel
theorem dX12_widowsSize_56 : decode cX12_widowsSize 56 = .ok (.isub, 1) := by decide +kernel
theorem dX12_widowsSize_57 : decode cX12_widowsSize 57 = .ok (.istore_n 3, 1) := by decide +kernel
theorem dX12_widowsSize_58 : decode cX12_widowsSize 58 = .ok (.iload_n 2, 1) := by decide +kernel
theorem dX12_widowsSize_59 : decode cX12_widowsSize 59 = .ok (.ifCond .eq 9, 3) := by decide +kernel
theorem dX12_widowsSize_62 : decode cX12_widowsSize 62 = .ok (.iconst 2, 1) := by decide +kernel
theorem dX12_widowsSize_63 : decode cX12_widowsSize 63 = .ok (.iload_n 3, 1) := by decide +kernel
theorem dX12_widowsSize_64 : decode cX12_widowsSize 64 = .ok (.imul, 1) := by decide +kernel
theorem dX12_widowsSize_65 : decode cX12_widowsSize 65 = .ok (.goto 4, 3) := by decide +kernel
theorem dX12_widowsSize_68 : decode cX12_widowsSize 68 = .ok (.iload_n 3, 1) := by decide +kernel
theorem dX12_widowsSize_69 : decode cX12_widowsSize 69 = .ok (.ireturn, 1) := by decide +kernel
theorem dX12_farmersSize_0 : decode cX12_farmersSize 0 = .ok (.aload_n 0, 1) := by decide +kernel
theorem dX12_farmersSize_1 : decode cX12_farmersSize 1 = .ok (.getfield 25, 3) := by decide +kernel
theorem dX12_farmersSize_4 : decode cX12_farmersSize 4 = .ok (.iload_n 1, 1) := by decide +kernel
theorem dX12_farmersSize_5 : decode cX12_farmersSize 5 = .ok (.invokestatic 141, 3) := by decide +kernel
theorem dX12_farmersSize_8 : decode cX12_farmersSize 8 = .ok (.iconst 2, 1) := by decide +kernel
theorem dX12_farmersSize_9 : decode cX12_farmersSize 9 = .ok (.if_icmp .ne 7, 3) := by decide +kernel
theorem dX12_farmersSize_12 : decode cX12_farmersSize 12 = .ok (.iconst 1, 1) := by decide +kernel
theorem dX12_farmersSize_13 : decode cX12_farmersSize 13 = .ok (.goto 4, 3) := by decide +kernel
theorem dX12_farmersSize_16 : decode cX12_farmersSize 16 = .ok (.iconst 0, 1) := by decide +kernel
theorem dX12_farmersSize_17 : decode cX12_farmersSize 17 = .ok (.istore_n 2, 1) := by decide +kernel
theorem dX12_farmersSize_18 : decode cX12_farmersSize 18 = .ok (.iload_n 2, 1) := by decide +kernel
theorem dX12_farmersSize_19 : decode cX12_farmersSize 19 = .ok (.ifCond .eq 9, 3) := by decide +kernel
theorem dX12_farmersSize_22 : decode cX12_farmersSize 22 = .ok (.aload_n 0, 1) := by decide +kernel
theorem dX12_farmersSize_23 : decode cX12_farmersSize 23 = .ok (.bipush 12, 2) := by decide +kernel
theorem dX12_farmersSize_25 : decode cX12_farmersSize 25 = .ok (.invokevirtual 244, 3) := by decide +kernel
theorem dX12_farmersSize_28 : decode cX12_farmersSize 28 = .ok (.aload_n 0, 1) := by decide +kernel
theorem dX12_farmersSize_29 : decode cX12_farmersSize 29 = .ok (.bipush 11, 2) := by decide +kernel
theorem dX12_farmersSize_31 : decode cX12_farmersSize 31 = .ok (.invokevirtual 244, 3) := by decide +kernel
theorem dX12_farmersSize_34 : decode cX12_farmersSize 34 = .ok (.aload_n 0, 1) := by decide +kernel
theorem dX12_farmersSize_35 : decode cX12_farmersSize 35 = .ok (.bipush 10, 2) := by decide +kernel
theorem dX12_farmersSize_37 : decode cX12_farmersSize 37 = .ok (.invokevirtual 244, 3) := by decide +kernel
theorem dX12_farmersSize_40 : decode cX12_farmersSize 40 = .ok (.aload_n 0, 1) := by decide +kernel
theorem dX12_farmersSize_41 : decode cX12_farmersSize 41 = .ok (.getfield 25, 3) := by decide +kernel
theorem dX12_farmersSize_44 : decode cX12_farmersSize 44 = .ok (.bipush 6, 2) := by decide +kernel
theorem dX12_farmersSize_46 : decode cX12_farmersSize 46 = .ok (.bipush 6, 2) := by decide +kernel
theorem dX12_farmersSize_48 : decode cX12_farmersSize 48 = .ok (.iload_n 1, 1) := by decide +kernel
theorem dX12_farmersSize_49 : decode cX12_farmersSize 49 = .ok (.imul, 1) := by decide +kernel
theorem dX12_farmersSize_50 : decode cX12_farmersSize 50 = .ok (.iadd, 1) := by decide +kernel
theorem dX12_farmersSize_51 : decode cX12_farmersSize 51 = .ok (.iconst 4, 1) := by decide +kernel
theorem dX12_farmersSize_52 : decode cX12_farmersSize 52 = .ok (.iadd, 1) := by decide +kernel
theorem dX12_farmersSize_53 : decode cX12_farmersSize 53 = .ok (.iaload, 1) := by decide +kernel
theorem dX12_farmersSize_54 : decode cX12_farmersSize 54 = .ok (.aload_n 0, 1) := by decide +kernel
theorem dX12_farmersSize_55 : decode cX12_farmersSize 55 = .ok (.iload_n 1, 1) := by decide +kernel
theorem dX12_farmersSize_56 : decode cX12_farmersSize 56 = .ok (.invokevirtual 247, 3) := by decide +kernel
theorem dX12_farmersSize_59 : decode cX12_farmersSize 59 = .ok (.iadd, 1) := by decide +kernel
theorem dX12_farmersSize_60 : decode cX12_farmersSize 60 = .ok (.istore_n 3, 1) := by decide +kernel
theorem dX12_farmersSize_61 : decode cX12_farmersSize 61 = .ok (.iload_n 2, 1) := by decide +kernel
theorem dX12_farmersSize_62 : decode cX12_farmersSize 62 = .ok (.ifCond .eq 8, 3) := by decide +kernel
theorem dX12_farmersSize_65 : decode cX12_farmersSize 65 = .ok (.iload_n 3, 1) := by decide +kernel
theorem dX12_farmersSize_66 : decode cX12_farmersSize 66 = .ok (.ineg, 1) := by decide +kernel
theorem dX12_farmersSize_67 : decode cX12_farmersSize 67 = .ok (.goto 4, 3) := by decide +kernel
theorem dX12_farmersSize_70 : decode cX12_farmersSize 70 = .ok (.iload_n 3, 1) := by decide +kernel
theorem dX12_farmersSize_71 : decode cX12_farmersSize 71 = .ok (.ireturn, 1) := by decide +kernel
theorem dX12_widowsMark_0 : decode cX12_widowsMark 0 = .ok (.aload_n 0, 1) := by decide +kernel
theorem dX12_widowsMark_1 : decode cX12_widowsMark 1 = .ok (.bipush 23, 2) := by decide +kernel
theorem dX12_widowsMark_3 : decode cX12_widowsMark 3 = .ok (.invokevirtual 244, 3) := by decide +kernel
theorem dX12_widowsMark_6 : decode cX12_widowsMark 6 = .ok (.aload_n 0, 1) := by decide +kernel
theorem dX12_widowsMark_7 : decode cX12_widowsMark 7 = .ok (.bipush 20, 2) := by decide +kernel
theorem dX12_widowsMark_9 : decode cX12_widowsMark 9 = .ok (.invokevirtual 244, 3) := by decide +kernel
theorem dX12_widowsMark_12 : decode cX12_widowsMark 12 = .ok (.iload_n 1, 1) := by decide +kernel
theorem dX12_widowsMark_13 : decode cX12_widowsMark 13 = .ok (.aload_n 0, 1) := by decide +kernel
theorem dX12_widowsMark_14 : decode cX12_widowsMark 14 = .ok (.iload_n 1, 1) := by decide +kernel
theorem dX12_widowsMark_15 : decode cX12_widowsMark 15 = .ok (.invokevirtual 250, 3) := by decide +kernel
theorem dX12_widowsMark_18 : decode cX12_widowsMark 18 = .ok (.isub, 1) := by decide +kernel
theorem dX12_widowsMark_19 : decode cX12_widowsMark 19 = .ok (.ireturn, 1) := by decide +kernel
theorem dX12_ask_0 : decode cX12_ask 0 = .ok (.aload_n 0, 1) := by decide +kernel
theorem dX12_ask_1 : decode cX12_ask 1 = .ok (.iload_n 1, 1) := by decide +kernel
theorem dX12_ask_2 : decode cX12_ask 2 = .ok (.invokevirtual 179, 3) := by decide +kernel
theorem dX12_ask_5 : decode cX12_ask 5 = .ok (.ifCond .eq 12, 3) := by decide +kernel
theorem dX12_ask_8 : decode cX12_ask 8 = .ok (.iload_n 2, 1) := by decide +kernel
theorem dX12_ask_9 : decode cX12_ask 9 = .ok (.iconst 0, 1) := by decide +kernel
theorem dX12_ask_10 : decode cX12_ask 10 = .ok (.iconst 1, 1) := by decide +kernel
theorem dX12_ask_11 : decode cX12_ask 11 = .ok (.invokestatic 66, 3) := by decide +kernel
theorem dX12_ask_14 : decode cX12_ask 14 = .ok (.ifCond .ne 6, 3) := by decide +kernel
theorem dX12_ask_17 : decode cX12_ask 17 = .ok (.ldc 74, 2) := by decide +kernel
theorem dX12_ask_19 : decode cX12_ask 19 = .ok (.ireturn, 1) := by decide +kernel
theorem dX12_ask_20 : decode cX12_ask 20 = .ok (.aload_n 0, 1) := by decide +kernel
theorem dX12_ask_21 : decode cX12_ask 21 = .ok (.iconst 0, 1) := by decide +kernel
theorem dX12_ask_22 : decode cX12_ask 22 = .ok (.putfield 241, 3) := by decide +kernel
theorem dX12_ask_25 : decode cX12_ask 25 = .ok (.aload_n 0, 1) := by decide +kernel
theorem dX12_ask_26 : decode cX12_ask 26 = .ok (.getfield 25, 3) := by decide +kernel
theorem dX12_ask_29 : decode cX12_ask 29 = .ok (.iload_n 1, 1) := by decide +kernel
theorem dX12_ask_30 : decode cX12_ask 30 = .ok (.invokestatic 141, 3) := by decide +kernel
theorem dX12_ask_33 : decode cX12_ask 33 = .ok (.iconst 4, 1) := by decide +kernel
theorem dX12_ask_34 : decode cX12_ask 34 = .ok (.if_icmp .lt 7, 3) := by decide +kernel
theorem dX12_ask_37 : decode cX12_ask 37 = .ok (.iconst 1, 1) := by decide +kernel
theorem dX12_ask_38 : decode cX12_ask 38 = .ok (.goto 4, 3) := by decide +kernel
theorem dX12_ask_41 : decode cX12_ask 41 = .ok (.iconst 0, 1) := by decide +kernel
theorem dX12_ask_42 : decode cX12_ask 42 = .ok (.istore_n 3, 1) := by decide +kernel
theorem dX12_ask_43 : decode cX12_ask 43 = .ok (.iload_n 2, 1) := by decide +kernel
theorem dX12_ask_44 : decode cX12_ask 44 = .ok (.ifCond .ne 21, 3) := by decide +kernel
theorem dX12_ask_47 : decode cX12_ask 47 = .ok (.iload_n 3, 1) := by decide +kernel
theorem dX12_ask_48 : decode cX12_ask 48 = .ok (.ifCond .eq 11, 3) := by decide +kernel
theorem dX12_ask_51 : decode cX12_ask 51 = .ok (.aload_n 0, 1) := by decide +kernel
theorem dX12_ask_52 : decode cX12_ask 52 = .ok (.iload_n 1, 1) := by decide +kernel
theorem dX12_ask_53 : decode cX12_ask 53 = .ok (.invokevirtual 250, 3) := by decide +kernel
theorem dX12_ask_56 : decode cX12_ask 56 = .ok (.goto 8, 3) := by decide +kernel
theorem dX12_ask_59 : decode cX12_ask 59 = .ok (.aload_n 0, 1) := by decide +kernel
theorem dX12_ask_60 : decode cX12_ask 60 = .ok (.iload_n 1, 1) := by decide +kernel
theorem dX12_ask_61 : decode cX12_ask 61 = .ok (.invokevirtual 253, 3) := by decide +kernel
theorem dX12_ask_64 : decode cX12_ask 64 = .ok (.ireturn, 1) := by decide +kernel
theorem dX12_ask_65 : decode cX12_ask 65 = .ok (.iload_n 3, 1) := by decide +kernel
theorem dX12_ask_66 : decode cX12_ask 66 = .ok (.ifCond .eq 11, 3) := by decide +kernel
theorem dX12_ask_69 : decode cX12_ask 69 = .ok (.aload_n 0, 1) := by decide +kernel
theorem dX12_ask_70 : decode cX12_ask 70 = .ok (.iload_n 1, 1) := by decide +kernel
theorem dX12_ask_71 : decode cX12_ask 71 = .ok (.invokevirtual 256, 3) := by decide +kernel
theorem dX12_ask_74 : decode cX12_ask 74 = .ok (.goto 8, 3) := by decide +kernel
theorem dX12_ask_77 : decode cX12_ask 77 = .ok (.aload_n 0, 1) := by decide +kernel
theorem dX12_ask_78 : decode cX12_ask 78 = .ok (.iload_n 1, 1) := by decide +kernel
theorem dX12_ask_79 : decode cX12_ask 79 = .ok (.invokevirtual 247, 3) := by decide +kernel
theorem dX12_ask_82 : decode cX12_ask 82 = .ok (.ireturn, 1) := by decide +kernel
theorem dX12_trace_0 : decode cX12_trace 0 = .ok (.iload_n 1, 1) := by decide +kernel
theorem dX12_trace_1 : decode cX12_trace 1 = .ok (.iconst 0, 1) := by decide +kernel
theorem dX12_trace_2 : decode cX12_trace 2 = .ok (.aload_n 0, 1) := by decide +kernel
theorem dX12_trace_3 : decode cX12_trace 3 = .ok (.getfield 241, 3) := by decide +kernel
theorem dX12_trace_6 : decode cX12_trace 6 = .ok (.iconst 1, 1) := by decide +kernel
theorem dX12_trace_7 : decode cX12_trace 7 = .ok (.isub, 1) := by decide +kernel
theorem dX12_trace_8 : decode cX12_trace 8 = .ok (.invokestatic 66, 3) := by decide +kernel
theorem dX12_trace_11 : decode cX12_trace 11 = .ok (.ifCond .eq 12, 3) := by decide +kernel
theorem dX12_trace_14 : decode cX12_trace 14 = .ok (.aload_n 0, 1) := by decide +kernel
theorem dX12_trace_15 : decode cX12_trace 15 = .ok (.getfield 44, 3) := by decide +kernel
theorem dX12_trace_18 : decode cX12_trace 18 = .ok (.iload_n 1, 1) := by decide +kernel
theorem dX12_trace_19 : decode cX12_trace 19 = .ok (.iaload, 1) := by decide +kernel
theorem dX12_trace_20 : decode cX12_trace 20 = .ok (.goto 5, 3) := by decide +kernel
theorem dX12_trace_23 : decode cX12_trace 23 = .ok (.ldc 60, 2) := by decide +kernel
theorem dX12_trace_25 : decode cX12_trace 25 = .ok (.ireturn, 1) := by decide +kernel
theorem dX12_count_0 : decode cX12_count 0 = .ok (.iload_n 1, 1) := by decide +kernel
theorem dX12_count_1 : decode cX12_count 1 = .ok (.ifCond .ne 37, 3) := by decide +kernel
theorem dX12_count_4 : decode cX12_count 4 = .ok (.iconst 0, 1) := by decide +kernel
theorem dX12_count_5 : decode cX12_count 5 = .ok (.istore_n 2, 1) := by decide +kernel
theorem dX12_count_6 : decode cX12_count 6 = .ok (.iconst 0, 1) := by decide +kernel
theorem dX12_count_7 : decode cX12_count 7 = .ok (.istore_n 3, 1) := by decide +kernel
theorem dX12_count_8 : decode cX12_count 8 = .ok (.iload_n 3, 1) := by decide +kernel
theorem dX12_count_9 : decode cX12_count 9 = .ok (.bipush 8, 2) := by decide +kernel
theorem dX12_count_11 : decode cX12_count 11 = .ok (.if_icmp .ge 25, 3) := by decide +kernel
theorem dX12_count_14 : decode cX12_count 14 = .ok (.iload_n 2, 1) := by decide +kernel
theorem dX12_count_15 : decode cX12_count 15 = .ok (.aload_n 0, 1) := by decide +kernel
theorem dX12_count_16 : decode cX12_count 16 = .ok (.iload_n 3, 1) := by decide +kernel
theorem dX12_count_17 : decode cX12_count 17 = .ok (.invokevirtual 82, 3) := by decide +kernel
theorem dX12_count_20 : decode cX12_count 20 = .ok (.ifCond .eq 7, 3) := by decide +kernel
theorem dX12_count_23 : decode cX12_count 23 = .ok (.iconst 0, 1) := by decide +kernel
theorem dX12_count_24 : decode cX12_count 24 = .ok (.goto 4, 3) := by decide +kernel
theorem dX12_count_27 : decode cX12_count 27 = .ok (.iconst 1, 1) := by decide +kernel
theorem dX12_count_28 : decode cX12_count 28 = .ok (.iadd, 1) := by decide +kernel
theorem dX12_count_29 : decode cX12_count 29 = .ok (.istore_n 2, 1) := by decide +kernel
theorem dX12_count_30 : decode cX12_count 30 = .ok (.iinc 3 1, 3) := by decide +kernel
theorem dX12_count_33 : decode cX12_count 33 = .ok (.goto (-25), 3) := by decide +kernel
theorem dX12_count_36 : decode cX12_count 36 = .ok (.iload_n 2, 1) := by decide +kernel
theorem dX12_count_37 : decode cX12_count 37 = .ok (.ireturn, 1) := by decide +kernel
theorem dX12_count_38 : decode cX12_count 38 = .ok (.iload_n 1, 1) := by decide +kernel
theorem dX12_count_39 : decode cX12_count 39 = .ok (.iconst 1, 1) := by decide +kernel
theorem dX12_count_40 : decode cX12_count 40 = .ok (.bipush 7, 2) := by decide +kernel
theorem dX12_count_42 : decode cX12_count 42 = .ok (.invokestatic 66, 3) := by decide +kernel
theorem dX12_count_45 : decode cX12_count 45 = .ok (.ifCond .ne 6, 3) := by decide +kernel
theorem dX12_count_48 : decode cX12_count 48 = .ok (.ldc 74, 2) := by decide +kernel
theorem dX12_count_50 : decode cX12_count 50 = .ok (.ireturn, 1) := by decide +kernel
theorem dX12_count_51 : decode cX12_count 51 = .ok (.iload_n 1, 1) := by decide +kernel
theorem dX12_count_52 : decode cX12_count 52 = .ok (.iconst 1, 1) := by decide +kernel
theorem dX12_count_53 : decode cX12_count 53 = .ok (.if_icmp .ne 12, 3) := by decide +kernel
theorem dX12_count_56 : decode cX12_count 56 = .ok (.aload_n 0, 1) := by decide +kernel
theorem dX12_count_57 : decode cX12_count 57 = .ok (.getfield 25, 3) := by decide +kernel
theorem dX12_count_60 : decode cX12_count 60 = .ok (.iconst 1, 1) := by decide +kernel
theorem dX12_count_61 : decode cX12_count 61 = .ok (.iaload, 1) := by decide +kernel
theorem dX12_count_62 : decode cX12_count 62 = .ok (.goto 84, 3) := by decide +kernel
theorem dX12_count_65 : decode cX12_count 65 = .ok (.iload_n 1, 1) := by decide +kernel
theorem dX12_count_66 : decode cX12_count 66 = .ok (.iconst 2, 1) := by decide +kernel
theorem dX12_count_67 : decode cX12_count 67 = .ok (.if_icmp .ne 12, 3) := by decide +kernel
theorem dX12_count_70 : decode cX12_count 70 = .ok (.aload_n 0, 1) := by decide +kernel
theorem dX12_count_71 : decode cX12_count 71 = .ok (.getfield 25, 3) := by decide +kernel
theorem dX12_count_74 : decode cX12_count 74 = .ok (.iconst 5, 1) := by decide +kernel
theorem dX12_count_75 : decode cX12_count 75 = .ok (.iaload, 1) := by decide +kernel
theorem dX12_count_76 : decode cX12_count 76 = .ok (.goto 70, 3) := by decide +kernel
theorem dX12_count_79 : decode cX12_count 79 = .ok (.iload_n 1, 1) := by decide +kernel
theorem dX12_count_80 : decode cX12_count 80 = .ok (.iconst 3, 1) := by decide +kernel
theorem dX12_count_81 : decode cX12_count 81 = .ok (.if_icmp .ne 20, 3) := by decide +kernel
theorem dX12_count_84 : decode cX12_count 84 = .ok (.aload_n 0, 1) := by decide +kernel
theorem dX12_count_85 : decode cX12_count 85 = .ok (.getfield 25, 3) := by decide +kernel
theorem dX12_count_88 : decode cX12_count 88 = .ok (.bipush 24, 2) := by decide +kernel
theorem dX12_count_90 : decode cX12_count 90 = .ok (.aload_n 0, 1) := by decide +kernel
theorem dX12_count_91 : decode cX12_count 91 = .ok (.getfield 25, 3) := by decide +kernel
theorem dX12_count_94 : decode cX12_count 94 = .ok (.iconst 5, 1) := by decide +kernel
theorem dX12_count_95 : decode cX12_count 95 = .ok (.iaload, 1) := by decide +kernel
theorem dX12_count_96 : decode cX12_count 96 = .ok (.iadd, 1) := by decide +kernel
theorem dX12_count_97 : decode cX12_count 97 = .ok (.iaload, 1) := by decide +kernel
theorem dX12_count_98 : decode cX12_count 98 = .ok (.goto 48, 3) := by decide +kernel
theorem dX12_count_101 : decode cX12_count 101 = .ok (.iload_n 1, 1) := by decide +kernel
theorem dX12_count_102 : decode cX12_count 102 = .ok (.iconst 4, 1) := by decide +kernel
theorem dX12_count_103 : decode cX12_count 103 = .ok (.if_icmp .ne 12, 3) := by decide +kernel
theorem dX12_count_106 : decode cX12_count 106 = .ok (.aload_n 0, 1) := by decide +kernel
theorem dX12_count_107 : decode cX12_count 107 = .ok (.getfield 25, 3) := by decide +kernel
theorem dX12_count_110 : decode cX12_count 110 = .ok (.iconst 2, 1) := by decide +kernel
theorem dX12_count_111 : decode cX12_count 111 = .ok (.iaload, 1) := by decide +kernel
theorem dX12_count_112 : decode cX12_count 112 = .ok (.goto 34, 3) := by decide +kernel
theorem dX12_count_115 : decode cX12_count 115 = .ok (.iload_n 1, 1) := by decide +kernel
theorem dX12_count_116 : decode cX12_count 116 = .ok (.iconst 5, 1) := by decide +kernel
theorem dX12_count_117 : decode cX12_count 117 = .ok (.if_icmp .ne 12, 3) := by decide +kernel
theorem dX12_count_120 : decode cX12_count 120 = .ok (.aload_n 0, 1) := by decide +kernel
theorem dX12_count_121 : decode cX12_count 121 = .ok (.getfield 25, 3) := by decide +kernel
theorem dX12_count_124 : decode cX12_count 124 = .ok (.iconst 4, 1) := by decide +kernel
theorem dX12_count_125 : decode cX12_count 125 = .ok (.iaload, 1) := by decide +kernel
theorem dX12_count_126 : decode cX12_count 126 = .ok (.goto 20, 3) := by decide +kernel
theorem dX12_count_129 : decode cX12_count 129 = .ok (.iload_n 1, 1) := by decide +kernel
theorem dX12_count_130 : decode cX12_count 130 = .ok (.bipush 6, 2) := by decide +kernel
theorem dX12_count_132 : decode cX12_count 132 = .ok (.if_icmp .ne 10, 3) := by decide +kernel
theorem dX12_count_135 : decode cX12_count 135 = .ok (.aload_n 0, 1) := by decide +kernel
theorem dX12_count_136 : decode cX12_count 136 = .ok (.getfield 138, 3) := by decide +kernel
theorem dX12_count_139 : decode cX12_count 139 = .ok (.goto 7, 3) := by decide +kernel
theorem dX12_count_142 : decode cX12_count 142 = .ok (.aload_n 0, 1) := by decide +kernel
theorem dX12_count_143 : decode cX12_count 143 = .ok (.getfield 92, 3) := by decide +kernel
theorem dX12_count_146 : decode cX12_count 146 = .ok (.ireturn, 1) := by decide +kernel
theorem dX12_status_0 : decode cX12_status 0 = .ok (.aload_n 0, 1) := by decide +kernel
theorem dX12_status_1 : decode cX12_status 1 = .ok (.getfield 61, 3) := by decide +kernel
theorem dX12_status_4 : decode cX12_status 4 = .ok (.ireturn, 1) := by decide +kernel
theorem dJ6_bitCount_0f7a4_0 : decode cJ6_bitCount_0f7a4 0 = .ok (.iload_n 0, 1) := by decide +kernel
theorem dJ6_bitCount_0f7a4_1 : decode cJ6_bitCount_0f7a4 1 = .ok (.iload_n 0, 1) := by decide +kernel
theorem dJ6_bitCount_0f7a4_2 : decode cJ6_bitCount_0f7a4 2 = .ok (.iconst 1, 1) := by decide +kernel
theorem dJ6_bitCount_0f7a4_3 : decode cJ6_bitCount_0f7a4 3 = .ok (.iushr, 1) := by decide +kernel
theorem dJ6_bitCount_0f7a4_4 : decode cJ6_bitCount_0f7a4 4 = .ok (.ldc_w 265, 3) := by decide +kernel
theorem dJ6_bitCount_0f7a4_7 : decode cJ6_bitCount_0f7a4 7 = .ok (.iand, 1) := by decide +kernel
theorem dJ6_bitCount_0f7a4_8 : decode cJ6_bitCount_0f7a4 8 = .ok (.isub, 1) := by decide +kernel
theorem dJ6_bitCount_0f7a4_9 : decode cJ6_bitCount_0f7a4 9 = .ok (.istore_n 0, 1) := by decide +kernel
theorem dJ6_bitCount_0f7a4_10 : decode cJ6_bitCount_0f7a4 10 = .ok (.iload_n 0, 1) := by decide +kernel
theorem dJ6_bitCount_0f7a4_11 : decode cJ6_bitCount_0f7a4 11 = .ok (.ldc_w 266, 3) := by decide +kernel
theorem dJ6_bitCount_0f7a4_14 : decode cJ6_bitCount_0f7a4 14 = .ok (.iand, 1) := by decide +kernel
theorem dJ6_bitCount_0f7a4_15 : decode cJ6_bitCount_0f7a4 15 = .ok (.iload_n 0, 1) := by decide +kernel
theorem dJ6_bitCount_0f7a4_16 : decode cJ6_bitCount_0f7a4 16 = .ok (.iconst 2, 1) := by decide +kernel
theorem dJ6_bitCount_0f7a4_17 : decode cJ6_bitCount_0f7a4 17 = .ok (.iushr, 1) := by decide +kernel
theorem dJ6_bitCount_0f7a4_18 : decode cJ6_bitCount_0f7a4 18 = .ok (.ldc_w 266, 3) := by decide +kernel
theorem dJ6_bitCount_0f7a4_21 : decode cJ6_bitCount_0f7a4 21 = .ok (.iand, 1) := by decide +kernel
theorem dJ6_bitCount_0f7a4_22 : decode cJ6_bitCount_0f7a4 22 = .ok (.iadd, 1) := by decide +kernel
theorem dJ6_bitCount_0f7a4_23 : decode cJ6_bitCount_0f7a4 23 = .ok (.istore_n 0, 1) := by decide +kernel
theorem dJ6_bitCount_0f7a4_24 : decode cJ6_bitCount_0f7a4 24 = .ok (.iload_n 0, 1) := by decide +kernel
theorem dJ6_bitCount_0f7a4_25 : decode cJ6_bitCount_0f7a4 25 = .ok (.iload_n 0, 1) := by decide +kernel
theorem dJ6_bitCount_0f7a4_26 : decode cJ6_bitCount_0f7a4 26 = .ok (.iconst 4, 1) := by decide +kernel
theorem dJ6_bitCount_0f7a4_27 : decode cJ6_bitCount_0f7a4 27 = .ok (.iushr, 1) := by decide +kernel
theorem dJ6_bitCount_0f7a4_28 : decode cJ6_bitCount_0f7a4 28 = .ok (.iadd, 1) := by decide +kernel
theorem dJ6_bitCount_0f7a4_29 : decode cJ6_bitCount_0f7a4 29 = .ok (.ldc_w 267, 3) := by decide +kernel
theorem dJ6_bitCount_0f7a4_32 : decode cJ6_bitCount_0f7a4 32 = .ok (.iand, 1) := by decide +kernel
theorem dJ6_bitCount_0f7a4_33 : decode cJ6_bitCount_0f7a4 33 = .ok (.istore_n 0, 1) := by decide +kernel
theorem dJ6_bitCount_0f7a4_34 : decode cJ6_bitCount_0f7a4 34 = .ok (.iload_n 0, 1) := by decide +kernel
theorem dJ6_bitCount_0f7a4_35 : decode cJ6_bitCount_0f7a4 35 = .ok (.iload_n 0, 1) := by decide +kernel
theorem dJ6_bitCount_0f7a4_36 : decode cJ6_bitCount_0f7a4 36 = .ok (.bipush 8, 2) := by decide +kernel
theorem dJ6_bitCount_0f7a4_38 : decode cJ6_bitCount_0f7a4 38 = .ok (.iushr, 1) := by decide +kernel
theorem dJ6_bitCount_0f7a4_39 : decode cJ6_bitCount_0f7a4 39 = .ok (.iadd, 1) := by decide +kernel
theorem dJ6_bitCount_0f7a4_40 : decode cJ6_bitCount_0f7a4 40 = .ok (.istore_n 0, 1) := by decide +kernel
theorem dJ6_bitCount_0f7a4_41 : decode cJ6_bitCount_0f7a4 41 = .ok (.iload_n 0, 1) := by decide +kernel
theorem dJ6_bitCount_0f7a4_42 : decode cJ6_bitCount_0f7a4 42 = .ok (.iload_n 0, 1) := by decide +kernel
theorem dJ6_bitCount_0f7a4_43 : decode cJ6_bitCount_0f7a4 43 = .ok (.bipush 16, 2) := by decide +kernel
theorem dJ6_bitCount_0f7a4_45 : decode cJ6_bitCount_0f7a4 45 = .ok (.iushr, 1) := by decide +kernel
theorem dJ6_bitCount_0f7a4_46 : decode cJ6_bitCount_0f7a4 46 = .ok (.iadd, 1) := by decide +kernel
theorem dJ6_bitCount_0f7a4_47 : decode cJ6_bitCount_0f7a4 47 = .ok (.istore_n 0, 1) := by decide +kernel
theorem dJ6_bitCount_0f7a4_48 : decode cJ6_bitCount_0f7a4 48 = .ok (.iload_n 0, 1) := by decide +kernel
theorem dJ6_bitCount_0f7a4_49 : decode cJ6_bitCount_0f7a4 49 = .ok (.bipush 63, 2) := by decide +kernel
theorem dJ6_bitCount_0f7a4_51 : decode cJ6_bitCount_0f7a4 51 = .ok (.iand, 1) := by decide +kernel
theorem dJ6_bitCount_0f7a4_52 : decode cJ6_bitCount_0f7a4 52 = .ok (.ireturn, 1) := by decide +kernel
theorem dJ9_abs_067f4_0 : decode cJ9_abs_067f4 0 = .ok (.lload_n 0, 1) := by decide +kernel
theorem dJ9_abs_067f4_1 : decode cJ9_abs_067f4 1 = .ok (.lconst 0, 1) := by decide +kernel
theorem dJ9_abs_067f4_2 : decode cJ9_abs_067f4 2 = .ok (.lcmp, 1) := by decide +kernel
theorem dJ9_abs_067f4_3 : decode cJ9_abs_067f4 3 = .ok (.ifCond .ge 8, 3) := by decide +kernel
theorem dJ9_abs_067f4_6 : decode cJ9_abs_067f4 6 = .ok (.lload_n 0, 1) := by decide +kernel
theorem dJ9_abs_067f4_7 : decode cJ9_abs_067f4 7 = .ok (.lneg, 1) := by decide +kernel
theorem dJ9_abs_067f4_8 : decode cJ9_abs_067f4 8 = .ok (.goto 4, 3) := by decide +kernel
theorem dJ9_abs_067f4_11 : decode cJ9_abs_067f4 11 = .ok (.lload_n 0, 1) := by decide +kernel
theorem dJ9_abs_067f4_12 : decode cJ9_abs_067f4 12 = .ok (.lreturn, 1) := by decide +kernel
theorem dJ9_max_f86c9_0 : decode cJ9_max_f86c9 0 = .ok (.lload_n 0, 1) := by decide +kernel
theorem dJ9_max_f86c9_1 : decode cJ9_max_f86c9 1 = .ok (.lload_n 2, 1) := by decide +kernel
theorem dJ9_max_f86c9_2 : decode cJ9_max_f86c9 2 = .ok (.lcmp, 1) := by decide +kernel
theorem dJ9_max_f86c9_3 : decode cJ9_max_f86c9 3 = .ok (.ifCond .lt 7, 3) := by decide +kernel
theorem dJ9_max_f86c9_6 : decode cJ9_max_f86c9 6 = .ok (.lload_n 0, 1) := by decide +kernel
theorem dJ9_max_f86c9_7 : decode cJ9_max_f86c9 7 = .ok (.goto 4, 3) := by decide +kernel
theorem dJ9_max_f86c9_10 : decode cJ9_max_f86c9 10 = .ok (.lload_n 2, 1) := by decide +kernel
theorem dJ9_max_f86c9_11 : decode cJ9_max_f86c9 11 = .ok (.lreturn, 1) := by decide +kernel
theorem dJ9_min_7cf53_0 : decode cJ9_min_7cf53 0 = .ok (.iload_n 0, 1) := by decide +kernel
theorem dJ9_min_7cf53_1 : decode cJ9_min_7cf53 1 = .ok (.iload_n 1, 1) := by decide +kernel
theorem dJ9_min_7cf53_2 : decode cJ9_min_7cf53 2 = .ok (.if_icmp .gt 7, 3) := by decide +kernel
theorem dJ9_min_7cf53_5 : decode cJ9_min_7cf53 5 = .ok (.iload_n 0, 1) := by decide +kernel
theorem dJ9_min_7cf53_6 : decode cJ9_min_7cf53 6 = .ok (.goto 4, 3) := by decide +kernel
theorem dJ9_min_7cf53_9 : decode cJ9_min_7cf53 9 = .ok (.iload_n 1, 1) := by decide +kernel
theorem dJ9_min_7cf53_10 : decode cJ9_min_7cf53 10 = .ok (.ireturn, 1) := by decide +kernel
theorem dJ7_fill_d0a16_0 : decode cJ7_fill_d0a16 0 = .ok (.iconst 0, 1) := by decide +kernel
theorem dJ7_fill_d0a16_1 : decode cJ7_fill_d0a16 1 = .ok (.istore_n 3, 1) := by decide +kernel
theorem dJ7_fill_d0a16_2 : decode cJ7_fill_d0a16 2 = .ok (.aload_n 0, 1) := by decide +kernel
theorem dJ7_fill_d0a16_3 : decode cJ7_fill_d0a16 3 = .ok (.arraylength, 1) := by decide +kernel
theorem dJ7_fill_d0a16_4 : decode cJ7_fill_d0a16 4 = .ok (.istore 4, 2) := by decide +kernel
theorem dJ7_fill_d0a16_6 : decode cJ7_fill_d0a16 6 = .ok (.iload_n 3, 1) := by decide +kernel
theorem dJ7_fill_d0a16_7 : decode cJ7_fill_d0a16 7 = .ok (.iload 4, 2) := by decide +kernel
theorem dJ7_fill_d0a16_9 : decode cJ7_fill_d0a16 9 = .ok (.if_icmp .ge 13, 3) := by decide +kernel
theorem dJ7_fill_d0a16_12 : decode cJ7_fill_d0a16 12 = .ok (.aload_n 0, 1) := by decide +kernel
theorem dJ7_fill_d0a16_13 : decode cJ7_fill_d0a16 13 = .ok (.iload_n 3, 1) := by decide +kernel
theorem dJ7_fill_d0a16_14 : decode cJ7_fill_d0a16 14 = .ok (.lload_n 1, 1) := by decide +kernel
theorem dJ7_fill_d0a16_15 : decode cJ7_fill_d0a16 15 = .ok (.lastore, 1) := by decide +kernel
theorem dJ7_fill_d0a16_16 : decode cJ7_fill_d0a16 16 = .ok (.iinc 3 1, 3) := by decide +kernel
theorem dJ7_fill_d0a16_19 : decode cJ7_fill_d0a16 19 = .ok (.goto (-13), 3) := by decide +kernel
theorem dJ7_fill_d0a16_22 : decode cJ7_fill_d0a16 22 = .ok (.return_, 1) := by decide +kernel
theorem dJ7_fill_53178_0 : decode cJ7_fill_53178 0 = .ok (.iconst 0, 1) := by decide +kernel
theorem dJ7_fill_53178_1 : decode cJ7_fill_53178 1 = .ok (.istore_n 2, 1) := by decide +kernel
theorem dJ7_fill_53178_2 : decode cJ7_fill_53178 2 = .ok (.aload_n 0, 1) := by decide +kernel
theorem dJ7_fill_53178_3 : decode cJ7_fill_53178 3 = .ok (.arraylength, 1) := by decide +kernel
theorem dJ7_fill_53178_4 : decode cJ7_fill_53178 4 = .ok (.istore_n 3, 1) := by decide +kernel
theorem dJ7_fill_53178_5 : decode cJ7_fill_53178 5 = .ok (.iload_n 2, 1) := by decide +kernel
theorem dJ7_fill_53178_6 : decode cJ7_fill_53178 6 = .ok (.iload_n 3, 1) := by decide +kernel
theorem dJ7_fill_53178_7 : decode cJ7_fill_53178 7 = .ok (.if_icmp .ge 13, 3) := by decide +kernel
theorem dJ7_fill_53178_10 : decode cJ7_fill_53178 10 = .ok (.aload_n 0, 1) := by decide +kernel
theorem dJ7_fill_53178_11 : decode cJ7_fill_53178 11 = .ok (.iload_n 2, 1) := by decide +kernel
theorem dJ7_fill_53178_12 : decode cJ7_fill_53178 12 = .ok (.iload_n 1, 1) := by decide +kernel
theorem dJ7_fill_53178_13 : decode cJ7_fill_53178 13 = .ok (.iastore, 1) := by decide +kernel
theorem dJ7_fill_53178_14 : decode cJ7_fill_53178 14 = .ok (.iinc 2 1, 3) := by decide +kernel
theorem dJ7_fill_53178_17 : decode cJ7_fill_53178 17 = .ok (.goto (-12), 3) := by decide +kernel
theorem dJ7_fill_53178_20 : decode cJ7_fill_53178 20 = .ok (.return_, 1) := by decide +kernel
theorem dL_law_0 : decode cL_law 0 = .ok (.new 7, 3) := by decide +kernel
theorem dL_law_3 : decode cL_law 3 = .ok (.dup, 1) := by decide +kernel
theorem dL_law_4 : decode cL_law 4 = .ok (.invokespecial 9, 3) := by decide +kernel
theorem dL_law_7 : decode cL_law 7 = .ok (.astore_n 1, 1) := by decide +kernel
theorem dL_law_8 : decode cL_law 8 = .ok (.new 10, 3) := by decide +kernel
theorem dL_law_11 : decode cL_law 11 = .ok (.dup, 1) := by decide +kernel
theorem dL_law_12 : decode cL_law 12 = .ok (.invokespecial 12, 3) := by decide +kernel
theorem dL_law_15 : decode cL_law 15 = .ok (.astore_n 2, 1) := by decide +kernel
theorem dL_law_16 : decode cL_law 16 = .ok (.iconst 0, 1) := by decide +kernel
theorem dL_law_17 : decode cL_law 17 = .ok (.istore_n 3, 1) := by decide +kernel
theorem dL_law_18 : decode cL_law 18 = .ok (.iload_n 3, 1) := by decide +kernel
theorem dL_law_19 : decode cL_law 19 = .ok (.aload_n 0, 1) := by decide +kernel
theorem dL_law_20 : decode cL_law 20 = .ok (.arraylength, 1) := by decide +kernel
theorem dL_law_21 : decode cL_law 21 = .ok (.bipush 6, 2) := by decide +kernel
theorem dL_law_23 : decode cL_law 23 = .ok (.isub, 1) := by decide +kernel
theorem dL_law_24 : decode cL_law 24 = .ok (.if_icmp .gt 1138, 3) := by decide +kernel
theorem dL_law_27 : decode cL_law 27 = .ok (.aload_n 0, 1) := by decide +kernel
theorem dL_law_28 : decode cL_law 28 = .ok (.iload_n 3, 1) := by decide +kernel
theorem dL_law_29 : decode cL_law 29 = .ok (.iaload, 1) := by decide +kernel
theorem dL_law_30 : decode cL_law 30 = .ok (.bipush 31, 2) := by decide +kernel
theorem dL_law_32 : decode cL_law 32 = .ok (.iand, 1) := by decide +kernel
theorem dL_law_33 : decode cL_law 33 = .ok (.tableswitch 1123 0 29 #[135, 178, 221, 284, 307, 330, 343, 356, 379, 402, 415, 448, 461, 494, 517, 577, 637, 670, 693, 753, 823, 876, 929, 952, 975, 998, 1031, 1064, 1087, 1110], 135) := by decide +kernel
theorem dL_law_168 : decode cL_law 168 = .ok (.aload_n 1, 1) := by decide +kernel
theorem dL_law_169 : decode cL_law 169 = .ok (.aload_n 0, 1) := by decide +kernel
theorem dL_law_170 : decode cL_law 170 = .ok (.iload_n 3, 1) := by decide +kernel
theorem dL_law_171 : decode cL_law 171 = .ok (.iconst 1, 1) := by decide +kernel
theorem dL_law_172 : decode cL_law 172 = .ok (.iadd, 1) := by decide +kernel
theorem dL_law_173 : decode cL_law 173 = .ok (.iaload, 1) := by decide +kernel
theorem dL_law_174 : decode cL_law 174 = .ok (.aload_n 0, 1) := by decide +kernel
theorem dL_law_175 : decode cL_law 175 = .ok (.iload_n 3, 1) := by decide +kernel
theorem dL_law_176 : decode cL_law 176 = .ok (.iconst 2, 1) := by decide +kernel
theorem dL_law_177 : decode cL_law 177 = .ok (.iadd, 1) := by decide +kernel
theorem dL_law_178 : decode cL_law 178 = .ok (.iaload, 1) := by decide +kernel
theorem dL_law_179 : decode cL_law 179 = .ok (.aload_n 0, 1) := by decide +kernel
theorem dL_law_180 : decode cL_law 180 = .ok (.iload_n 3, 1) := by decide +kernel
theorem dL_law_181 : decode cL_law 181 = .ok (.iconst 3, 1) := by decide +kernel
theorem dL_law_182 : decode cL_law 182 = .ok (.iadd, 1) := by decide +kernel
theorem dL_law_183 : decode cL_law 183 = .ok (.iaload, 1) := by decide +kernel
theorem dL_law_184 : decode cL_law 184 = .ok (.invokevirtual 13, 3) := by decide +kernel
theorem dL_law_187 : decode cL_law 187 = .ok (.aload_n 2, 1) := by decide +kernel
theorem dL_law_188 : decode cL_law 188 = .ok (.aload_n 0, 1) := by decide +kernel
theorem dL_law_189 : decode cL_law 189 = .ok (.iload_n 3, 1) := by decide +kernel
theorem dL_law_190 : decode cL_law 190 = .ok (.iconst 1, 1) := by decide +kernel
theorem dL_law_191 : decode cL_law 191 = .ok (.iadd, 1) := by decide +kernel
theorem dL_law_192 : decode cL_law 192 = .ok (.iaload, 1) := by decide +kernel
theorem dL_law_193 : decode cL_law 193 = .ok (.aload_n 0, 1) := by decide +kernel
theorem dL_law_194 : decode cL_law 194 = .ok (.iload_n 3, 1) := by decide +kernel
theorem dL_law_195 : decode cL_law 195 = .ok (.iconst 2, 1) := by decide +kernel
theorem dL_law_196 : decode cL_law 196 = .ok (.iadd, 1) := by decide +kernel
theorem dL_law_197 : decode cL_law 197 = .ok (.iaload, 1) := by decide +kernel
theorem dL_law_198 : decode cL_law 198 = .ok (.aload_n 0, 1) := by decide +kernel
theorem dL_law_199 : decode cL_law 199 = .ok (.iload_n 3, 1) := by decide +kernel
theorem dL_law_200 : decode cL_law 200 = .ok (.iconst 3, 1) := by decide +kernel
theorem dL_law_201 : decode cL_law 201 = .ok (.iadd, 1) := by decide +kernel
theorem dL_law_202 : decode cL_law 202 = .ok (.iaload, 1) := by decide +kernel
theorem dL_law_203 : decode cL_law 203 = .ok (.invokevirtual 17, 3) := by decide +kernel
theorem dL_law_206 : decode cL_law 206 = .ok (.if_icmp .eq 950, 3) := by decide +kernel
theorem dL_law_209 : decode cL_law 209 = .ok (.iconst 0, 1) := by decide +kernel
theorem dL_law_210 : decode cL_law 210 = .ok (.ireturn, 1) := by decide +kernel
theorem dL_law_211 : decode cL_law 211 = .ok (.aload_n 1, 1) := by decide +kernel
theorem dL_law_212 : decode cL_law 212 = .ok (.aload_n 0, 1) := by decide +kernel
theorem dL_law_213 : decode cL_law 213 = .ok (.iload_n 3, 1) := by decide +kernel
theorem dL_law_214 : decode cL_law 214 = .ok (.iconst 1, 1) := by decide +kernel
theorem dL_law_215 : decode cL_law 215 = .ok (.iadd, 1) := by decide +kernel
theorem dL_law_216 : decode cL_law 216 = .ok (.iaload, 1) := by decide +kernel
theorem dL_law_217 : decode cL_law 217 = .ok (.aload_n 0, 1) := by decide +kernel
theorem dL_law_218 : decode cL_law 218 = .ok (.iload_n 3, 1) := by decide +kernel
theorem dL_law_219 : decode cL_law 219 = .ok (.iconst 2, 1) := by decide +kernel
theorem dL_law_220 : decode cL_law 220 = .ok (.iadd, 1) := by decide +kernel
theorem dL_law_221 : decode cL_law 221 = .ok (.iaload, 1) := by decide +kernel
theorem dL_law_222 : decode cL_law 222 = .ok (.aload_n 0, 1) := by decide +kernel
theorem dL_law_223 : decode cL_law 223 = .ok (.iload_n 3, 1) := by decide +kernel
theorem dL_law_224 : decode cL_law 224 = .ok (.iconst 3, 1) := by decide +kernel
theorem dL_law_225 : decode cL_law 225 = .ok (.iadd, 1) := by decide +kernel
theorem dL_law_226 : decode cL_law 226 = .ok (.iaload, 1) := by decide +kernel
theorem dL_law_227 : decode cL_law 227 = .ok (.invokevirtual 18, 3) := by decide +kernel
theorem dL_law_230 : decode cL_law 230 = .ok (.aload_n 2, 1) := by decide +kernel
theorem dL_law_231 : decode cL_law 231 = .ok (.aload_n 0, 1) := by decide +kernel
theorem dL_law_232 : decode cL_law 232 = .ok (.iload_n 3, 1) := by decide +kernel
theorem dL_law_233 : decode cL_law 233 = .ok (.iconst 1, 1) := by decide +kernel
theorem dL_law_234 : decode cL_law 234 = .ok (.iadd, 1) := by decide +kernel
theorem dL_law_235 : decode cL_law 235 = .ok (.iaload, 1) := by decide +kernel
theorem dL_law_236 : decode cL_law 236 = .ok (.aload_n 0, 1) := by decide +kernel
theorem dL_law_237 : decode cL_law 237 = .ok (.iload_n 3, 1) := by decide +kernel
theorem dL_law_238 : decode cL_law 238 = .ok (.iconst 2, 1) := by decide +kernel
theorem dL_law_239 : decode cL_law 239 = .ok (.iadd, 1) := by decide +kernel
theorem dL_law_240 : decode cL_law 240 = .ok (.iaload, 1) := by decide +kernel
theorem dL_law_241 : decode cL_law 241 = .ok (.aload_n 0, 1) := by decide +kernel
theorem dL_law_242 : decode cL_law 242 = .ok (.iload_n 3, 1) := by decide +kernel
theorem dL_law_243 : decode cL_law 243 = .ok (.iconst 3, 1) := by decide +kernel
theorem dL_law_244 : decode cL_law 244 = .ok (.iadd, 1) := by decide +kernel
theorem dL_law_245 : decode cL_law 245 = .ok (.iaload, 1) := by decide +kernel
theorem dL_law_246 : decode cL_law 246 = .ok (.invokevirtual 21, 3) := by decide +kernel
theorem dL_law_249 : decode cL_law 249 = .ok (.if_icmp .eq 907, 3) := by decide +kernel
theorem dL_law_252 : decode cL_law 252 = .ok (.iconst 0, 1) := by decide +kernel
theorem dL_law_253 : decode cL_law 253 = .ok (.ireturn, 1) := by decide +kernel
theorem dL_law_254 : decode cL_law 254 = .ok (.aload_n 1, 1) := by decide +kernel
theorem dL_law_255 : decode cL_law 255 = .ok (.aload_n 0, 1) := by decide +kernel
theorem dL_law_256 : decode cL_law 256 = .ok (.iload_n 3, 1) := by decide +kernel
theorem dL_law_257 : decode cL_law 257 = .ok (.iconst 1, 1) := by decide +kernel
theorem dL_law_258 : decode cL_law 258 = .ok (.iadd, 1) := by decide +kernel
theorem dL_law_259 : decode cL_law 259 = .ok (.iaload, 1) := by decide +kernel
theorem dL_law_260 : decode cL_law 260 = .ok (.aload_n 0, 1) := by decide +kernel
theorem dL_law_261 : decode cL_law 261 = .ok (.iload_n 3, 1) := by decide +kernel
theorem dL_law_262 : decode cL_law 262 = .ok (.iconst 2, 1) := by decide +kernel
theorem dL_law_263 : decode cL_law 263 = .ok (.iadd, 1) := by decide +kernel
theorem dL_law_264 : decode cL_law 264 = .ok (.iaload, 1) := by decide +kernel
theorem dL_law_265 : decode cL_law 265 = .ok (.aload_n 0, 1) := by decide +kernel
theorem dL_law_266 : decode cL_law 266 = .ok (.iload_n 3, 1) := by decide +kernel
theorem dL_law_267 : decode cL_law 267 = .ok (.iconst 3, 1) := by decide +kernel
theorem dL_law_268 : decode cL_law 268 = .ok (.iadd, 1) := by decide +kernel
theorem dL_law_269 : decode cL_law 269 = .ok (.iaload, 1) := by decide +kernel
theorem dL_law_270 : decode cL_law 270 = .ok (.aload_n 0, 1) := by decide +kernel
theorem dL_law_271 : decode cL_law 271 = .ok (.iload_n 3, 1) := by decide +kernel
theorem dL_law_272 : decode cL_law 272 = .ok (.iconst 4, 1) := by decide +kernel
theorem dL_law_273 : decode cL_law 273 = .ok (.iadd, 1) := by decide +kernel
theorem dL_law_274 : decode cL_law 274 = .ok (.iaload, 1) := by decide +kernel
theorem dL_law_275 : decode cL_law 275 = .ok (.aload_n 0, 1) := by decide +kernel
theorem dL_law_276 : decode cL_law 276 = .ok (.iload_n 3, 1) := by decide +kernel
theorem dL_law_277 : decode cL_law 277 = .ok (.iconst 5, 1) := by decide +kernel
theorem dL_law_278 : decode cL_law 278 = .ok (.iadd, 1) := by decide +kernel
theorem dL_law_279 : decode cL_law 279 = .ok (.iaload, 1) := by decide +kernel
theorem dL_law_280 : decode cL_law 280 = .ok (.invokevirtual 22, 3) := by decide +kernel
theorem dL_law_283 : decode cL_law 283 = .ok (.aload_n 2, 1) := by decide +kernel
theorem dL_law_284 : decode cL_law 284 = .ok (.aload_n 0, 1) := by decide +kernel
theorem dL_law_285 : decode cL_law 285 = .ok (.iload_n 3, 1) := by decide +kernel
theorem dL_law_286 : decode cL_law 286 = .ok (.iconst 1, 1) := by decide +kernel
theorem dL_law_287 : decode cL_law 287 = .ok (.iadd, 1) := by decide +kernel
theorem dL_law_288 : decode cL_law 288 = .ok (.iaload, 1) := by decide +kernel
theorem dL_law_289 : decode cL_law 289 = .ok (.aload_n 0, 1) := by decide +kernel
theorem dL_law_290 : decode cL_law 290 = .ok (.iload_n 3, 1) := by decide +kernel
theorem dL_law_291 : decode cL_law 291 = .ok (.iconst 2, 1) := by decide +kernel
theorem dL_law_292 : decode cL_law 292 = .ok (.iadd, 1) := by decide +kernel
theorem dL_law_293 : decode cL_law 293 = .ok (.iaload, 1) := by decide +kernel
theorem dL_law_294 : decode cL_law 294 = .ok (.aload_n 0, 1) := by decide +kernel
theorem dL_law_295 : decode cL_law 295 = .ok (.iload_n 3, 1) := by decide +kernel
theorem dL_law_296 : decode cL_law 296 = .ok (.iconst 3, 1) := by decide +kernel
theorem dL_law_297 : decode cL_law 297 = .ok (.iadd, 1) := by decide +kernel
theorem dL_law_298 : decode cL_law 298 = .ok (.iaload, 1) := by decide +kernel
theorem dL_law_299 : decode cL_law 299 = .ok (.aload_n 0, 1) := by decide +kernel
theorem dL_law_300 : decode cL_law 300 = .ok (.iload_n 3, 1) := by decide +kernel
theorem dL_law_301 : decode cL_law 301 = .ok (.iconst 4, 1) := by decide +kernel
theorem dL_law_302 : decode cL_law 302 = .ok (.iadd, 1) := by decide +kernel
theorem dL_law_303 : decode cL_law 303 = .ok (.iaload, 1) := by decide +kernel
theorem dL_law_304 : decode cL_law 304 = .ok (.aload_n 0, 1) := by decide +kernel
theorem dL_law_305 : decode cL_law 305 = .ok (.iload_n 3, 1) := by decide +kernel
theorem dL_law_306 : decode cL_law 306 = .ok (.iconst 5, 1) := by decide +kernel
theorem dL_law_307 : decode cL_law 307 = .ok (.iadd, 1) := by decide +kernel
theorem dL_law_308 : decode cL_law 308 = .ok (.iaload, 1) := by decide +kernel
theorem dL_law_309 : decode cL_law 309 = .ok (.invokevirtual 26, 3) := by decide +kernel
theorem dL_law_312 : decode cL_law 312 = .ok (.if_icmp .eq 844, 3) := by decide +kernel
theorem dL_law_315 : decode cL_law 315 = .ok (.iconst 0, 1) := by decide +kernel
theorem dL_law_316 : decode cL_law 316 = .ok (.ireturn, 1) := by decide +kernel
theorem dL_law_317 : decode cL_law 317 = .ok (.aload_n 1, 1) := by decide +kernel
theorem dL_law_318 : decode cL_law 318 = .ok (.aload_n 0, 1) := by decide +kernel
theorem dL_law_319 : decode cL_law 319 = .ok (.iload_n 3, 1) := by decide +kernel
theorem dL_law_320 : decode cL_law 320 = .ok (.iconst 1, 1) := by decide +kernel
theorem dL_law_321 : decode cL_law 321 = .ok (.iadd, 1) := by decide +kernel
theorem dL_law_322 : decode cL_law 322 = .ok (.iaload, 1) := by decide +kernel
theorem dL_law_323 : decode cL_law 323 = .ok (.invokevirtual 27, 3) := by decide +kernel
theorem dL_law_326 : decode cL_law 326 = .ok (.aload_n 2, 1) := by decide +kernel
theorem dL_law_327 : decode cL_law 327 = .ok (.aload_n 0, 1) := by decide +kernel
theorem dL_law_328 : decode cL_law 328 = .ok (.iload_n 3, 1) := by decide +kernel
theorem dL_law_329 : decode cL_law 329 = .ok (.iconst 1, 1) := by decide +kernel
theorem dL_law_330 : decode cL_law 330 = .ok (.iadd, 1) := by decide +kernel
theorem dL_law_331 : decode cL_law 331 = .ok (.iaload, 1) := by decide +kernel
theorem dL_law_332 : decode cL_law 332 = .ok (.invokevirtual 31, 3) := by decide +kernel
theorem dL_law_335 : decode cL_law 335 = .ok (.if_icmp .eq 821, 3) := by decide +kernel
theorem dL_law_338 : decode cL_law 338 = .ok (.iconst 0, 1) := by decide +kernel
theorem dL_law_339 : decode cL_law 339 = .ok (.ireturn, 1) := by decide +kernel
theorem dL_law_340 : decode cL_law 340 = .ok (.aload_n 1, 1) := by decide +kernel
theorem dL_law_341 : decode cL_law 341 = .ok (.aload_n 0, 1) := by decide +kernel
theorem dL_law_342 : decode cL_law 342 = .ok (.iload_n 3, 1) := by decide +kernel
theorem dL_law_343 : decode cL_law 343 = .ok (.iconst 1, 1) := by decide +kernel
theorem dL_law_344 : decode cL_law 344 = .ok (.iadd, 1) := by decide +kernel
theorem dL_law_345 : decode cL_law 345 = .ok (.iaload, 1) := by decide +kernel
theorem dL_law_346 : decode cL_law 346 = .ok (.invokevirtual 32, 3) := by decide +kernel
theorem dL_law_349 : decode cL_law 349 = .ok (.aload_n 2, 1) := by decide +kernel
theorem dL_law_350 : decode cL_law 350 = .ok (.aload_n 0, 1) := by decide +kernel
theorem dL_law_351 : decode cL_law 351 = .ok (.iload_n 3, 1) := by decide +kernel
theorem dL_law_352 : decode cL_law 352 = .ok (.iconst 1, 1) := by decide +kernel
theorem dL_law_353 : decode cL_law 353 = .ok (.iadd, 1) := by decide +kernel
theorem dL_law_354 : decode cL_law 354 = .ok (.iaload, 1) := by decide +kernel
theorem dL_law_355 : decode cL_law 355 = .ok (.invokevirtual 35, 3) := by decide +kernel
theorem dL_law_358 : decode cL_law 358 = .ok (.if_icmp .eq 798, 3) := by decide +kernel
theorem dL_law_361 : decode cL_law 361 = .ok (.iconst 0, 1) := by decide +kernel
theorem dL_law_362 : decode cL_law 362 = .ok (.ireturn, 1) := by decide +kernel
theorem dL_law_363 : decode cL_law 363 = .ok (.aload_n 1, 1) := by decide +kernel
theorem dL_law_364 : decode cL_law 364 = .ok (.invokevirtual 36, 3) := by decide +kernel
theorem dL_law_367 : decode cL_law 367 = .ok (.aload_n 2, 1) := by decide +kernel
theorem dL_law_368 : decode cL_law 368 = .ok (.invokevirtual 40, 3) := by decide +kernel
theorem dL_law_371 : decode cL_law 371 = .ok (.if_icmp .eq 785, 3) := by decide +kernel
theorem dL_law_374 : decode cL_law 374 = .ok (.iconst 0, 1) := by decide +kernel
theorem dL_law_375 : decode cL_law 375 = .ok (.ireturn, 1) := by decide +kernel
theorem dL_law_376 : decode cL_law 376 = .ok (.aload_n 1, 1) := by decide +kernel
theorem dL_law_377 : decode cL_law 377 = .ok (.invokevirtual 41, 3) := by decide +kernel
theorem dL_law_380 : decode cL_law 380 = .ok (.aload_n 2, 1) := by decide +kernel
theorem dL_law_381 : decode cL_law 381 = .ok (.invokevirtual 44, 3) := by decide +kernel
theorem dL_law_384 : decode cL_law 384 = .ok (.if_icmp .eq 772, 3) := by decide +kernel
theorem dL_law_387 : decode cL_law 387 = .ok (.iconst 0, 1) := by decide +kernel
theorem dL_law_388 : decode cL_law 388 = .ok (.ireturn, 1) := by decide +kernel
theorem dL_law_389 : decode cL_law 389 = .ok (.aload_n 1, 1) := by decide +kernel
theorem dL_law_390 : decode cL_law 390 = .ok (.aload_n 0, 1) := by decide +kernel
theorem dL_law_391 : decode cL_law 391 = .ok (.iload_n 3, 1) := by decide +kernel
theorem dL_law_392 : decode cL_law 392 = .ok (.iconst 1, 1) := by decide +kernel
theorem dL_law_393 : decode cL_law 393 = .ok (.iadd, 1) := by decide +kernel
theorem dL_law_394 : decode cL_law 394 = .ok (.iaload, 1) := by decide +kernel
theorem dL_law_395 : decode cL_law 395 = .ok (.invokevirtual 45, 3) := by decide +kernel
theorem dL_law_398 : decode cL_law 398 = .ok (.aload_n 2, 1) := by decide +kernel
theorem dL_law_399 : decode cL_law 399 = .ok (.aload_n 0, 1) := by decide +kernel
theorem dL_law_400 : decode cL_law 400 = .ok (.iload_n 3, 1) := by decide +kernel
theorem dL_law_401 : decode cL_law 401 = .ok (.iconst 1, 1) := by decide +kernel
theorem dL_law_402 : decode cL_law 402 = .ok (.iadd, 1) := by decide +kernel
theorem dL_law_403 : decode cL_law 403 = .ok (.iaload, 1) := by decide +kernel
theorem dL_law_404 : decode cL_law 404 = .ok (.invokevirtual 48, 3) := by decide +kernel
theorem dL_law_407 : decode cL_law 407 = .ok (.if_icmp .eq 749, 3) := by decide +kernel
theorem dL_law_410 : decode cL_law 410 = .ok (.iconst 0, 1) := by decide +kernel
theorem dL_law_411 : decode cL_law 411 = .ok (.ireturn, 1) := by decide +kernel
theorem dL_law_412 : decode cL_law 412 = .ok (.aload_n 1, 1) := by decide +kernel
theorem dL_law_413 : decode cL_law 413 = .ok (.aload_n 0, 1) := by decide +kernel
theorem dL_law_414 : decode cL_law 414 = .ok (.iload_n 3, 1) := by decide +kernel
theorem dL_law_415 : decode cL_law 415 = .ok (.iconst 1, 1) := by decide +kernel
theorem dL_law_416 : decode cL_law 416 = .ok (.iadd, 1) := by decide +kernel
theorem dL_law_417 : decode cL_law 417 = .ok (.iaload, 1) := by decide +kernel
theorem dL_law_418 : decode cL_law 418 = .ok (.invokevirtual 49, 3) := by decide +kernel
theorem dL_law_421 : decode cL_law 421 = .ok (.aload_n 2, 1) := by decide +kernel
theorem dL_law_422 : decode cL_law 422 = .ok (.aload_n 0, 1) := by decide +kernel
theorem dL_law_423 : decode cL_law 423 = .ok (.iload_n 3, 1) := by decide +kernel
theorem dL_law_424 : decode cL_law 424 = .ok (.iconst 1, 1) := by decide +kernel
theorem dL_law_425 : decode cL_law 425 = .ok (.iadd, 1) := by decide +kernel
theorem dL_law_426 : decode cL_law 426 = .ok (.iaload, 1) := by decide +kernel
theorem dL_law_427 : decode cL_law 427 = .ok (.invokevirtual 52, 3) := by decide +kernel
theorem dL_law_430 : decode cL_law 430 = .ok (.if_icmp .eq 726, 3) := by decide +kernel
theorem dL_law_433 : decode cL_law 433 = .ok (.iconst 0, 1) := by decide +kernel
theorem dL_law_434 : decode cL_law 434 = .ok (.ireturn, 1) := by decide +kernel
theorem dL_law_435 : decode cL_law 435 = .ok (.aload_n 1, 1) := by decide +kernel
theorem dL_law_436 : decode cL_law 436 = .ok (.invokevirtual 53, 3) := by decide +kernel
theorem dL_law_439 : decode cL_law 439 = .ok (.aload_n 2, 1) := by decide +kernel
theorem dL_law_440 : decode cL_law 440 = .ok (.invokevirtual 56, 3) := by decide +kernel
theorem dL_law_443 : decode cL_law 443 = .ok (.if_icmp .eq 713, 3) := by decide +kernel
theorem dL_law_446 : decode cL_law 446 = .ok (.iconst 0, 1) := by decide +kernel
theorem dL_law_447 : decode cL_law 447 = .ok (.ireturn, 1) := by decide +kernel
theorem dL_law_448 : decode cL_law 448 = .ok (.aload_n 1, 1) := by decide +kernel
theorem dL_law_449 : decode cL_law 449 = .ok (.aload_n 0, 1) := by decide +kernel
theorem dL_law_450 : decode cL_law 450 = .ok (.iload_n 3, 1) := by decide +kernel
theorem dL_law_451 : decode cL_law 451 = .ok (.iconst 1, 1) := by decide +kernel
theorem dL_law_452 : decode cL_law 452 = .ok (.iadd, 1) := by decide +kernel
theorem dL_law_453 : decode cL_law 453 = .ok (.iaload, 1) := by decide +kernel
theorem dL_law_454 : decode cL_law 454 = .ok (.aload_n 0, 1) := by decide +kernel
theorem dL_law_455 : decode cL_law 455 = .ok (.iload_n 3, 1) := by decide +kernel
theorem dL_law_456 : decode cL_law 456 = .ok (.iconst 2, 1) := by decide +kernel
theorem dL_law_457 : decode cL_law 457 = .ok (.iadd, 1) := by decide +kernel
theorem dL_law_458 : decode cL_law 458 = .ok (.iaload, 1) := by decide +kernel
theorem dL_law_459 : decode cL_law 459 = .ok (.invokevirtual 57, 3) := by decide +kernel
theorem dL_law_462 : decode cL_law 462 = .ok (.aload_n 2, 1) := by decide +kernel
theorem dL_law_463 : decode cL_law 463 = .ok (.aload_n 0, 1) := by decide +kernel
theorem dL_law_464 : decode cL_law 464 = .ok (.iload_n 3, 1) := by decide +kernel
theorem dL_law_465 : decode cL_law 465 = .ok (.iconst 1, 1) := by decide +kernel
theorem dL_law_466 : decode cL_law 466 = .ok (.iadd, 1) := by decide +kernel
theorem dL_law_467 : decode cL_law 467 = .ok (.iaload, 1) := by decide +kernel
theorem dL_law_468 : decode cL_law 468 = .ok (.aload_n 0, 1) := by decide +kernel
theorem dL_law_469 : decode cL_law 469 = .ok (.iload_n 3, 1) := by decide +kernel
theorem dL_law_470 : decode cL_law 470 = .ok (.iconst 2, 1) := by decide +kernel
theorem dL_law_471 : decode cL_law 471 = .ok (.iadd, 1) := by decide +kernel
theorem dL_law_472 : decode cL_law 472 = .ok (.iaload, 1) := by decide +kernel
theorem dL_law_473 : decode cL_law 473 = .ok (.invokevirtual 61, 3) := by decide +kernel
theorem dL_law_476 : decode cL_law 476 = .ok (.if_icmp .eq 680, 3) := by decide +kernel
theorem dL_law_479 : decode cL_law 479 = .ok (.iconst 0, 1) := by decide +kernel
theorem dL_law_480 : decode cL_law 480 = .ok (.ireturn, 1) := by decide +kernel
theorem dL_law_481 : decode cL_law 481 = .ok (.aload_n 1, 1) := by decide +kernel
theorem dL_law_482 : decode cL_law 482 = .ok (.invokevirtual 62, 3) := by decide +kernel
theorem dL_law_485 : decode cL_law 485 = .ok (.aload_n 2, 1) := by decide +kernel
theorem dL_law_486 : decode cL_law 486 = .ok (.invokevirtual 65, 3) := by decide +kernel
theorem dL_law_489 : decode cL_law 489 = .ok (.if_icmp .eq 667, 3) := by decide +kernel
theorem dL_law_492 : decode cL_law 492 = .ok (.iconst 0, 1) := by decide +kernel
theorem dL_law_493 : decode cL_law 493 = .ok (.ireturn, 1) := by decide +kernel
theorem dL_law_494 : decode cL_law 494 = .ok (.aload_n 1, 1) := by decide +kernel
theorem dL_law_495 : decode cL_law 495 = .ok (.aload_n 0, 1) := by decide +kernel
theorem dL_law_496 : decode cL_law 496 = .ok (.iload_n 3, 1) := by decide +kernel
theorem dL_law_497 : decode cL_law 497 = .ok (.iconst 1, 1) := by decide +kernel
theorem dL_law_498 : decode cL_law 498 = .ok (.iadd, 1) := by decide +kernel
theorem dL_law_499 : decode cL_law 499 = .ok (.iaload, 1) := by decide +kernel
theorem dL_law_500 : decode cL_law 500 = .ok (.aload_n 0, 1) := by decide +kernel
theorem dL_law_501 : decode cL_law 501 = .ok (.iload_n 3, 1) := by decide +kernel
theorem dL_law_502 : decode cL_law 502 = .ok (.iconst 2, 1) := by decide +kernel
theorem dL_law_503 : decode cL_law 503 = .ok (.iadd, 1) := by decide +kernel
theorem dL_law_504 : decode cL_law 504 = .ok (.iaload, 1) := by decide +kernel
theorem dL_law_505 : decode cL_law 505 = .ok (.invokevirtual 66, 3) := by decide +kernel
theorem dL_law_508 : decode cL_law 508 = .ok (.aload_n 2, 1) := by decide +kernel
theorem dL_law_509 : decode cL_law 509 = .ok (.aload_n 0, 1) := by decide +kernel
theorem dL_law_510 : decode cL_law 510 = .ok (.iload_n 3, 1) := by decide +kernel
theorem dL_law_511 : decode cL_law 511 = .ok (.iconst 1, 1) := by decide +kernel
theorem dL_law_512 : decode cL_law 512 = .ok (.iadd, 1) := by decide +kernel
theorem dL_law_513 : decode cL_law 513 = .ok (.iaload, 1) := by decide +kernel
theorem dL_law_514 : decode cL_law 514 = .ok (.aload_n 0, 1) := by decide +kernel
theorem dL_law_515 : decode cL_law 515 = .ok (.iload_n 3, 1) := by decide +kernel
theorem dL_law_516 : decode cL_law 516 = .ok (.iconst 2, 1) := by decide +kernel
theorem dL_law_517 : decode cL_law 517 = .ok (.iadd, 1) := by decide +kernel
theorem dL_law_518 : decode cL_law 518 = .ok (.iaload, 1) := by decide +kernel
theorem dL_law_519 : decode cL_law 519 = .ok (.invokevirtual 69, 3) := by decide +kernel
theorem dL_law_522 : decode cL_law 522 = .ok (.if_icmp .eq 634, 3) := by decide +kernel
theorem dL_law_525 : decode cL_law 525 = .ok (.iconst 0, 1) := by decide +kernel
theorem dL_law_526 : decode cL_law 526 = .ok (.ireturn, 1) := by decide +kernel
theorem dL_law_527 : decode cL_law 527 = .ok (.aload_n 1, 1) := by decide +kernel
theorem dL_law_528 : decode cL_law 528 = .ok (.aload_n 0, 1) := by decide +kernel
theorem dL_law_529 : decode cL_law 529 = .ok (.iload_n 3, 1) := by decide +kernel
theorem dL_law_530 : decode cL_law 530 = .ok (.iconst 1, 1) := by decide +kernel
theorem dL_law_531 : decode cL_law 531 = .ok (.iadd, 1) := by decide +kernel
theorem dL_law_532 : decode cL_law 532 = .ok (.iaload, 1) := by decide +kernel
theorem dL_law_533 : decode cL_law 533 = .ok (.invokevirtual 70, 3) := by decide +kernel
theorem dL_law_536 : decode cL_law 536 = .ok (.aload_n 2, 1) := by decide +kernel
theorem dL_law_537 : decode cL_law 537 = .ok (.aload_n 0, 1) := by decide +kernel
theorem dL_law_538 : decode cL_law 538 = .ok (.iload_n 3, 1) := by decide +kernel
theorem dL_law_539 : decode cL_law 539 = .ok (.iconst 1, 1) := by decide +kernel
theorem dL_law_540 : decode cL_law 540 = .ok (.iadd, 1) := by decide +kernel
theorem dL_law_541 : decode cL_law 541 = .ok (.iaload, 1) := by decide +kernel
theorem dL_law_542 : decode cL_law 542 = .ok (.invokevirtual 73, 3) := by decide +kernel
theorem dL_law_545 : decode cL_law 545 = .ok (.if_icmp .eq 611, 3) := by decide +kernel
theorem dL_law_548 : decode cL_law 548 = .ok (.iconst 0, 1) := by decide +kernel
theorem dL_law_549 : decode cL_law 549 = .ok (.ireturn, 1) := by decide +kernel
theorem dL_law_550 : decode cL_law 550 = .ok (.aload_n 1, 1) := by decide +kernel
theorem dL_law_551 : decode cL_law 551 = .ok (.aload_n 0, 1) := by decide +kernel
theorem dL_law_552 : decode cL_law 552 = .ok (.iload_n 3, 1) := by decide +kernel
theorem dL_law_553 : decode cL_law 553 = .ok (.iconst 1, 1) := by decide +kernel
theorem dL_law_554 : decode cL_law 554 = .ok (.iadd, 1) := by decide +kernel
theorem dL_law_555 : decode cL_law 555 = .ok (.iaload, 1) := by decide +kernel
theorem dL_law_556 : decode cL_law 556 = .ok (.aload_n 0, 1) := by decide +kernel
theorem dL_law_557 : decode cL_law 557 = .ok (.iload_n 3, 1) := by decide +kernel
theorem dL_law_558 : decode cL_law 558 = .ok (.iconst 2, 1) := by decide +kernel
theorem dL_law_559 : decode cL_law 559 = .ok (.iadd, 1) := by decide +kernel
theorem dL_law_560 : decode cL_law 560 = .ok (.iaload, 1) := by decide +kernel
theorem dL_law_561 : decode cL_law 561 = .ok (.aload_n 0, 1) := by decide +kernel
theorem dL_law_562 : decode cL_law 562 = .ok (.iload_n 3, 1) := by decide +kernel
theorem dL_law_563 : decode cL_law 563 = .ok (.iconst 3, 1) := by decide +kernel
theorem dL_law_564 : decode cL_law 564 = .ok (.iadd, 1) := by decide +kernel
theorem dL_law_565 : decode cL_law 565 = .ok (.iaload, 1) := by decide +kernel
theorem dL_law_566 : decode cL_law 566 = .ok (.ifCond .eq 7, 3) := by decide +kernel
theorem dL_law_569 : decode cL_law 569 = .ok (.iconst 1, 1) := by decide +kernel
theorem dL_law_570 : decode cL_law 570 = .ok (.goto 4, 3) := by decide +kernel
theorem dL_law_573 : decode cL_law 573 = .ok (.iconst 0, 1) := by decide +kernel
theorem dL_law_574 : decode cL_law 574 = .ok (.invokevirtual 74, 3) := by decide +kernel
theorem dL_law_577 : decode cL_law 577 = .ok (.aload_n 2, 1) := by decide +kernel
theorem dL_law_578 : decode cL_law 578 = .ok (.aload_n 0, 1) := by decide +kernel
theorem dL_law_579 : decode cL_law 579 = .ok (.iload_n 3, 1) := by decide +kernel
theorem dL_law_580 : decode cL_law 580 = .ok (.iconst 1, 1) := by decide +kernel
theorem dL_law_581 : decode cL_law 581 = .ok (.iadd, 1) := by decide +kernel
theorem dL_law_582 : decode cL_law 582 = .ok (.iaload, 1) := by decide +kernel
theorem dL_law_583 : decode cL_law 583 = .ok (.aload_n 0, 1) := by decide +kernel
theorem dL_law_584 : decode cL_law 584 = .ok (.iload_n 3, 1) := by decide +kernel
theorem dL_law_585 : decode cL_law 585 = .ok (.iconst 2, 1) := by decide +kernel
theorem dL_law_586 : decode cL_law 586 = .ok (.iadd, 1) := by decide +kernel
theorem dL_law_587 : decode cL_law 587 = .ok (.iaload, 1) := by decide +kernel
theorem dL_law_588 : decode cL_law 588 = .ok (.aload_n 0, 1) := by decide +kernel
theorem dL_law_589 : decode cL_law 589 = .ok (.iload_n 3, 1) := by decide +kernel
theorem dL_law_590 : decode cL_law 590 = .ok (.iconst 3, 1) := by decide +kernel
theorem dL_law_591 : decode cL_law 591 = .ok (.iadd, 1) := by decide +kernel
theorem dL_law_592 : decode cL_law 592 = .ok (.iaload, 1) := by decide +kernel
theorem dL_law_593 : decode cL_law 593 = .ok (.ifCond .eq 7, 3) := by decide +kernel
theorem dL_law_596 : decode cL_law 596 = .ok (.iconst 1, 1) := by decide +kernel
theorem dL_law_597 : decode cL_law 597 = .ok (.goto 4, 3) := by decide +kernel
theorem dL_law_600 : decode cL_law 600 = .ok (.iconst 0, 1) := by decide +kernel
theorem dL_law_601 : decode cL_law 601 = .ok (.invokevirtual 78, 3) := by decide +kernel
theorem dL_law_604 : decode cL_law 604 = .ok (.lcmp, 1) := by decide +kernel
theorem dL_law_605 : decode cL_law 605 = .ok (.ifCond .eq 551, 3) := by decide +kernel
theorem dL_law_608 : decode cL_law 608 = .ok (.iconst 0, 1) := by decide +kernel
theorem dL_law_609 : decode cL_law 609 = .ok (.ireturn, 1) := by decide +kernel
theorem dL_law_610 : decode cL_law 610 = .ok (.aload_n 1, 1) := by decide +kernel
theorem dL_law_611 : decode cL_law 611 = .ok (.aload_n 0, 1) := by decide +kernel
theorem dL_law_612 : decode cL_law 612 = .ok (.iload_n 3, 1) := by decide +kernel
theorem dL_law_613 : decode cL_law 613 = .ok (.iconst 1, 1) := by decide +kernel
theorem dL_law_614 : decode cL_law 614 = .ok (.iadd, 1) := by decide +kernel
theorem dL_law_615 : decode cL_law 615 = .ok (.iaload, 1) := by decide +kernel
theorem dL_law_616 : decode cL_law 616 = .ok (.aload_n 0, 1) := by decide +kernel
theorem dL_law_617 : decode cL_law 617 = .ok (.iload_n 3, 1) := by decide +kernel
theorem dL_law_618 : decode cL_law 618 = .ok (.iconst 2, 1) := by decide +kernel
theorem dL_law_619 : decode cL_law 619 = .ok (.iadd, 1) := by decide +kernel
theorem dL_law_620 : decode cL_law 620 = .ok (.iaload, 1) := by decide +kernel
theorem dL_law_621 : decode cL_law 621 = .ok (.aload_n 0, 1) := by decide +kernel
theorem dL_law_622 : decode cL_law 622 = .ok (.iload_n 3, 1) := by decide +kernel
theorem dL_law_623 : decode cL_law 623 = .ok (.iconst 3, 1) := by decide +kernel
theorem dL_law_624 : decode cL_law 624 = .ok (.iadd, 1) := by decide +kernel
theorem dL_law_625 : decode cL_law 625 = .ok (.iaload, 1) := by decide +kernel
theorem dL_law_626 : decode cL_law 626 = .ok (.ifCond .eq 7, 3) := by decide +kernel
theorem dL_law_629 : decode cL_law 629 = .ok (.iconst 1, 1) := by decide +kernel
theorem dL_law_630 : decode cL_law 630 = .ok (.goto 4, 3) := by decide +kernel
theorem dL_law_633 : decode cL_law 633 = .ok (.iconst 0, 1) := by decide +kernel
theorem dL_law_634 : decode cL_law 634 = .ok (.invokevirtual 79, 3) := by decide +kernel
theorem dL_law_637 : decode cL_law 637 = .ok (.aload_n 2, 1) := by decide +kernel
theorem dL_law_638 : decode cL_law 638 = .ok (.aload_n 0, 1) := by decide +kernel
theorem dL_law_639 : decode cL_law 639 = .ok (.iload_n 3, 1) := by decide +kernel
theorem dL_law_640 : decode cL_law 640 = .ok (.iconst 1, 1) := by decide +kernel
theorem dL_law_641 : decode cL_law 641 = .ok (.iadd, 1) := by decide +kernel
theorem dL_law_642 : decode cL_law 642 = .ok (.iaload, 1) := by decide +kernel
theorem dL_law_643 : decode cL_law 643 = .ok (.aload_n 0, 1) := by decide +kernel
theorem dL_law_644 : decode cL_law 644 = .ok (.iload_n 3, 1) := by decide +kernel
theorem dL_law_645 : decode cL_law 645 = .ok (.iconst 2, 1) := by decide +kernel
theorem dL_law_646 : decode cL_law 646 = .ok (.iadd, 1) := by decide +kernel
theorem dL_law_647 : decode cL_law 647 = .ok (.iaload, 1) := by decide +kernel
theorem dL_law_648 : decode cL_law 648 = .ok (.aload_n 0, 1) := by decide +kernel
theorem dL_law_649 : decode cL_law 649 = .ok (.iload_n 3, 1) := by decide +kernel
theorem dL_law_650 : decode cL_law 650 = .ok (.iconst 3, 1) := by decide +kernel
theorem dL_law_651 : decode cL_law 651 = .ok (.iadd, 1) := by decide +kernel
theorem dL_law_652 : decode cL_law 652 = .ok (.iaload, 1) := by decide +kernel
theorem dL_law_653 : decode cL_law 653 = .ok (.ifCond .eq 7, 3) := by decide +kernel
theorem dL_law_656 : decode cL_law 656 = .ok (.iconst 1, 1) := by decide +kernel
theorem dL_law_657 : decode cL_law 657 = .ok (.goto 4, 3) := by decide +kernel
theorem dL_law_660 : decode cL_law 660 = .ok (.iconst 0, 1) := by decide +kernel
theorem dL_law_661 : decode cL_law 661 = .ok (.invokevirtual 82, 3) := by decide +kernel
theorem dL_law_664 : decode cL_law 664 = .ok (.lcmp, 1) := by decide +kernel
theorem dL_law_665 : decode cL_law 665 = .ok (.ifCond .eq 491, 3) := by decide +kernel
theorem dL_law_668 : decode cL_law 668 = .ok (.iconst 0, 1) := by decide +kernel
theorem dL_law_669 : decode cL_law 669 = .ok (.ireturn, 1) := by decide +kernel
theorem dL_law_670 : decode cL_law 670 = .ok (.aload_n 1, 1) := by decide +kernel
theorem dL_law_671 : decode cL_law 671 = .ok (.aload_n 0, 1) := by decide +kernel
theorem dL_law_672 : decode cL_law 672 = .ok (.iload_n 3, 1) := by decide +kernel
theorem dL_law_673 : decode cL_law 673 = .ok (.iconst 1, 1) := by decide +kernel
theorem dL_law_674 : decode cL_law 674 = .ok (.iadd, 1) := by decide +kernel
theorem dL_law_675 : decode cL_law 675 = .ok (.iaload, 1) := by decide +kernel
theorem dL_law_676 : decode cL_law 676 = .ok (.aload_n 0, 1) := by decide +kernel
theorem dL_law_677 : decode cL_law 677 = .ok (.iload_n 3, 1) := by decide +kernel
theorem dL_law_678 : decode cL_law 678 = .ok (.iconst 2, 1) := by decide +kernel
theorem dL_law_679 : decode cL_law 679 = .ok (.iadd, 1) := by decide +kernel
theorem dL_law_680 : decode cL_law 680 = .ok (.iaload, 1) := by decide +kernel
theorem dL_law_681 : decode cL_law 681 = .ok (.invokevirtual 83, 3) := by decide +kernel
theorem dL_law_684 : decode cL_law 684 = .ok (.aload_n 2, 1) := by decide +kernel
theorem dL_law_685 : decode cL_law 685 = .ok (.aload_n 0, 1) := by decide +kernel
theorem dL_law_686 : decode cL_law 686 = .ok (.iload_n 3, 1) := by decide +kernel
theorem dL_law_687 : decode cL_law 687 = .ok (.iconst 1, 1) := by decide +kernel
theorem dL_law_688 : decode cL_law 688 = .ok (.iadd, 1) := by decide +kernel
theorem dL_law_689 : decode cL_law 689 = .ok (.iaload, 1) := by decide +kernel
theorem dL_law_690 : decode cL_law 690 = .ok (.aload_n 0, 1) := by decide +kernel
theorem dL_law_691 : decode cL_law 691 = .ok (.iload_n 3, 1) := by decide +kernel
theorem dL_law_692 : decode cL_law 692 = .ok (.iconst 2, 1) := by decide +kernel
theorem dL_law_693 : decode cL_law 693 = .ok (.iadd, 1) := by decide +kernel
theorem dL_law_694 : decode cL_law 694 = .ok (.iaload, 1) := by decide +kernel
theorem dL_law_695 : decode cL_law 695 = .ok (.invokevirtual 86, 3) := by decide +kernel
theorem dL_law_698 : decode cL_law 698 = .ok (.if_icmp .eq 458, 3) := by decide +kernel
theorem dL_law_701 : decode cL_law 701 = .ok (.iconst 0, 1) := by decide +kernel
theorem dL_law_702 : decode cL_law 702 = .ok (.ireturn, 1) := by decide +kernel
theorem dL_law_703 : decode cL_law 703 = .ok (.aload_n 1, 1) := by decide +kernel
theorem dL_law_704 : decode cL_law 704 = .ok (.aload_n 0, 1) := by decide +kernel
theorem dL_law_705 : decode cL_law 705 = .ok (.iload_n 3, 1) := by decide +kernel
theorem dL_law_706 : decode cL_law 706 = .ok (.iconst 1, 1) := by decide +kernel
theorem dL_law_707 : decode cL_law 707 = .ok (.iadd, 1) := by decide +kernel
theorem dL_law_708 : decode cL_law 708 = .ok (.iaload, 1) := by decide +kernel
theorem dL_law_709 : decode cL_law 709 = .ok (.invokevirtual 87, 3) := by decide +kernel
theorem dL_law_712 : decode cL_law 712 = .ok (.aload_n 2, 1) := by decide +kernel
theorem dL_law_713 : decode cL_law 713 = .ok (.aload_n 0, 1) := by decide +kernel
theorem dL_law_714 : decode cL_law 714 = .ok (.iload_n 3, 1) := by decide +kernel
theorem dL_law_715 : decode cL_law 715 = .ok (.iconst 1, 1) := by decide +kernel
theorem dL_law_716 : decode cL_law 716 = .ok (.iadd, 1) := by decide +kernel
theorem dL_law_717 : decode cL_law 717 = .ok (.iaload, 1) := by decide +kernel
theorem dL_law_718 : decode cL_law 718 = .ok (.invokevirtual 90, 3) := by decide +kernel
theorem dL_law_721 : decode cL_law 721 = .ok (.if_icmp .eq 435, 3) := by decide +kernel
theorem dL_law_724 : decode cL_law 724 = .ok (.iconst 0, 1) := by decide +kernel
theorem dL_law_725 : decode cL_law 725 = .ok (.ireturn, 1) := by decide +kernel
theorem dL_law_726 : decode cL_law 726 = .ok (.aload_n 1, 1) := by decide +kernel
theorem dL_law_727 : decode cL_law 727 = .ok (.aload_n 0, 1) := by decide +kernel
theorem dL_law_728 : decode cL_law 728 = .ok (.iload_n 3, 1) := by decide +kernel
theorem dL_law_729 : decode cL_law 729 = .ok (.iconst 1, 1) := by decide +kernel
theorem dL_law_730 : decode cL_law 730 = .ok (.iadd, 1) := by decide +kernel
theorem dL_law_731 : decode cL_law 731 = .ok (.iaload, 1) := by decide +kernel
theorem dL_law_732 : decode cL_law 732 = .ok (.aload_n 0, 1) := by decide +kernel
theorem dL_law_733 : decode cL_law 733 = .ok (.iload_n 3, 1) := by decide +kernel
theorem dL_law_734 : decode cL_law 734 = .ok (.iconst 2, 1) := by decide +kernel
theorem dL_law_735 : decode cL_law 735 = .ok (.iadd, 1) := by decide +kernel
theorem dL_law_736 : decode cL_law 736 = .ok (.iaload, 1) := by decide +kernel
theorem dL_law_737 : decode cL_law 737 = .ok (.aload_n 0, 1) := by decide +kernel
theorem dL_law_738 : decode cL_law 738 = .ok (.iload_n 3, 1) := by decide +kernel
theorem dL_law_739 : decode cL_law 739 = .ok (.iconst 3, 1) := by decide +kernel
theorem dL_law_740 : decode cL_law 740 = .ok (.iadd, 1) := by decide +kernel
theorem dL_law_741 : decode cL_law 741 = .ok (.iaload, 1) := by decide +kernel
theorem dL_law_742 : decode cL_law 742 = .ok (.ifCond .eq 7, 3) := by decide +kernel
theorem dL_law_745 : decode cL_law 745 = .ok (.iconst 1, 1) := by decide +kernel
theorem dL_law_746 : decode cL_law 746 = .ok (.goto 4, 3) := by decide +kernel
theorem dL_law_749 : decode cL_law 749 = .ok (.iconst 0, 1) := by decide +kernel
theorem dL_law_750 : decode cL_law 750 = .ok (.invokevirtual 91, 3) := by decide +kernel
theorem dL_law_753 : decode cL_law 753 = .ok (.aload_n 2, 1) := by decide +kernel
theorem dL_law_754 : decode cL_law 754 = .ok (.aload_n 0, 1) := by decide +kernel
theorem dL_law_755 : decode cL_law 755 = .ok (.iload_n 3, 1) := by decide +kernel
theorem dL_law_756 : decode cL_law 756 = .ok (.iconst 1, 1) := by decide +kernel
theorem dL_law_757 : decode cL_law 757 = .ok (.iadd, 1) := by decide +kernel
theorem dL_law_758 : decode cL_law 758 = .ok (.iaload, 1) := by decide +kernel
theorem dL_law_759 : decode cL_law 759 = .ok (.aload_n 0, 1) := by decide +kernel
theorem dL_law_760 : decode cL_law 760 = .ok (.iload_n 3, 1) := by decide +kernel
theorem dL_law_761 : decode cL_law 761 = .ok (.iconst 2, 1) := by decide +kernel
theorem dL_law_762 : decode cL_law 762 = .ok (.iadd, 1) := by decide +kernel
theorem dL_law_763 : decode cL_law 763 = .ok (.iaload, 1) := by decide +kernel
theorem dL_law_764 : decode cL_law 764 = .ok (.aload_n 0, 1) := by decide +kernel
theorem dL_law_765 : decode cL_law 765 = .ok (.iload_n 3, 1) := by decide +kernel
theorem dL_law_766 : decode cL_law 766 = .ok (.iconst 3, 1) := by decide +kernel
theorem dL_law_767 : decode cL_law 767 = .ok (.iadd, 1) := by decide +kernel
theorem dL_law_768 : decode cL_law 768 = .ok (.iaload, 1) := by decide +kernel
theorem dL_law_769 : decode cL_law 769 = .ok (.ifCond .eq 7, 3) := by decide +kernel
theorem dL_law_772 : decode cL_law 772 = .ok (.iconst 1, 1) := by decide +kernel
theorem dL_law_773 : decode cL_law 773 = .ok (.goto 4, 3) := by decide +kernel
theorem dL_law_776 : decode cL_law 776 = .ok (.iconst 0, 1) := by decide +kernel
theorem dL_law_777 : decode cL_law 777 = .ok (.invokevirtual 94, 3) := by decide +kernel
theorem dL_law_780 : decode cL_law 780 = .ok (.lcmp, 1) := by decide +kernel
theorem dL_law_781 : decode cL_law 781 = .ok (.ifCond .eq 375, 3) := by decide +kernel
theorem dL_law_784 : decode cL_law 784 = .ok (.iconst 0, 1) := by decide +kernel
theorem dL_law_785 : decode cL_law 785 = .ok (.ireturn, 1) := by decide +kernel
theorem dL_law_786 : decode cL_law 786 = .ok (.aload_n 1, 1) := by decide +kernel
theorem dL_law_787 : decode cL_law 787 = .ok (.aload_n 0, 1) := by decide +kernel
theorem dL_law_788 : decode cL_law 788 = .ok (.iload_n 3, 1) := by decide +kernel
theorem dL_law_789 : decode cL_law 789 = .ok (.iconst 1, 1) := by decide +kernel
theorem dL_law_790 : decode cL_law 790 = .ok (.iadd, 1) := by decide +kernel
theorem dL_law_791 : decode cL_law 791 = .ok (.iaload, 1) := by decide +kernel
theorem dL_law_792 : decode cL_law 792 = .ok (.aload_n 0, 1) := by decide +kernel
theorem dL_law_793 : decode cL_law 793 = .ok (.iload_n 3, 1) := by decide +kernel
theorem dL_law_794 : decode cL_law 794 = .ok (.iconst 2, 1) := by decide +kernel
theorem dL_law_795 : decode cL_law 795 = .ok (.iadd, 1) := by decide +kernel
theorem dL_law_796 : decode cL_law 796 = .ok (.iaload, 1) := by decide +kernel
theorem dL_law_797 : decode cL_law 797 = .ok (.aload_n 0, 1) := by decide +kernel
theorem dL_law_798 : decode cL_law 798 = .ok (.iload_n 3, 1) := by decide +kernel
theorem dL_law_799 : decode cL_law 799 = .ok (.iconst 3, 1) := by decide +kernel
theorem dL_law_800 : decode cL_law 800 = .ok (.iadd, 1) := by decide +kernel
theorem dL_law_801 : decode cL_law 801 = .ok (.iaload, 1) := by decide +kernel
theorem dL_law_802 : decode cL_law 802 = .ok (.aload_n 0, 1) := by decide +kernel
theorem dL_law_803 : decode cL_law 803 = .ok (.iload_n 3, 1) := by decide +kernel
theorem dL_law_804 : decode cL_law 804 = .ok (.iconst 4, 1) := by decide +kernel
theorem dL_law_805 : decode cL_law 805 = .ok (.iadd, 1) := by decide +kernel
theorem dL_law_806 : decode cL_law 806 = .ok (.iaload, 1) := by decide +kernel
theorem dL_law_807 : decode cL_law 807 = .ok (.ifCond .eq 7, 3) := by decide +kernel
theorem dL_law_810 : decode cL_law 810 = .ok (.iconst 1, 1) := by decide +kernel
theorem dL_law_811 : decode cL_law 811 = .ok (.goto 4, 3) := by decide +kernel
theorem dL_law_814 : decode cL_law 814 = .ok (.iconst 0, 1) := by decide +kernel
theorem dL_law_815 : decode cL_law 815 = .ok (.invokevirtual 95, 3) := by decide +kernel
theorem dL_law_818 : decode cL_law 818 = .ok (.aload_n 2, 1) := by decide +kernel
theorem dL_law_819 : decode cL_law 819 = .ok (.aload_n 0, 1) := by decide +kernel
theorem dL_law_820 : decode cL_law 820 = .ok (.iload_n 3, 1) := by decide +kernel
theorem dL_law_821 : decode cL_law 821 = .ok (.iconst 1, 1) := by decide +kernel
theorem dL_law_822 : decode cL_law 822 = .ok (.iadd, 1) := by decide +kernel
theorem dL_law_823 : decode cL_law 823 = .ok (.iaload, 1) := by decide +kernel
theorem dL_law_824 : decode cL_law 824 = .ok (.aload_n 0, 1) := by decide +kernel
theorem dL_law_825 : decode cL_law 825 = .ok (.iload_n 3, 1) := by decide +kernel
theorem dL_law_826 : decode cL_law 826 = .ok (.iconst 2, 1) := by decide +kernel
theorem dL_law_827 : decode cL_law 827 = .ok (.iadd, 1) := by decide +kernel
theorem dL_law_828 : decode cL_law 828 = .ok (.iaload, 1) := by decide +kernel
theorem dL_law_829 : decode cL_law 829 = .ok (.aload_n 0, 1) := by decide +kernel
theorem dL_law_830 : decode cL_law 830 = .ok (.iload_n 3, 1) := by decide +kernel
theorem dL_law_831 : decode cL_law 831 = .ok (.iconst 3, 1) := by decide +kernel
theorem dL_law_832 : decode cL_law 832 = .ok (.iadd, 1) := by decide +kernel
theorem dL_law_833 : decode cL_law 833 = .ok (.iaload, 1) := by decide +kernel
theorem dL_law_834 : decode cL_law 834 = .ok (.aload_n 0, 1) := by decide +kernel
theorem dL_law_835 : decode cL_law 835 = .ok (.iload_n 3, 1) := by decide +kernel
theorem dL_law_836 : decode cL_law 836 = .ok (.iconst 4, 1) := by decide +kernel
theorem dL_law_837 : decode cL_law 837 = .ok (.iadd, 1) := by decide +kernel
theorem dL_law_838 : decode cL_law 838 = .ok (.iaload, 1) := by decide +kernel
theorem dL_law_839 : decode cL_law 839 = .ok (.ifCond .eq 7, 3) := by decide +kernel
theorem dL_law_842 : decode cL_law 842 = .ok (.iconst 1, 1) := by decide +kernel
theorem dL_law_843 : decode cL_law 843 = .ok (.goto 4, 3) := by decide +kernel
theorem dL_law_846 : decode cL_law 846 = .ok (.iconst 0, 1) := by decide +kernel
theorem dL_law_847 : decode cL_law 847 = .ok (.invokevirtual 99, 3) := by decide +kernel
theorem dL_law_850 : decode cL_law 850 = .ok (.lcmp, 1) := by decide +kernel
theorem dL_law_851 : decode cL_law 851 = .ok (.ifCond .eq 305, 3) := by decide +kernel
theorem dL_law_854 : decode cL_law 854 = .ok (.iconst 0, 1) := by decide +kernel
theorem dL_law_855 : decode cL_law 855 = .ok (.ireturn, 1) := by decide +kernel
theorem dL_law_856 : decode cL_law 856 = .ok (.aload_n 1, 1) := by decide +kernel
theorem dL_law_857 : decode cL_law 857 = .ok (.aload_n 0, 1) := by decide +kernel
theorem dL_law_858 : decode cL_law 858 = .ok (.iload_n 3, 1) := by decide +kernel
theorem dL_law_859 : decode cL_law 859 = .ok (.iconst 1, 1) := by decide +kernel
theorem dL_law_860 : decode cL_law 860 = .ok (.iadd, 1) := by decide +kernel
theorem dL_law_861 : decode cL_law 861 = .ok (.iaload, 1) := by decide +kernel
theorem dL_law_862 : decode cL_law 862 = .ok (.aload_n 0, 1) := by decide +kernel
theorem dL_law_863 : decode cL_law 863 = .ok (.iload_n 3, 1) := by decide +kernel
theorem dL_law_864 : decode cL_law 864 = .ok (.iconst 2, 1) := by decide +kernel
theorem dL_law_865 : decode cL_law 865 = .ok (.iadd, 1) := by decide +kernel
theorem dL_law_866 : decode cL_law 866 = .ok (.iaload, 1) := by decide +kernel
theorem dL_law_867 : decode cL_law 867 = .ok (.aload_n 0, 1) := by decide +kernel
theorem dL_law_868 : decode cL_law 868 = .ok (.iload_n 3, 1) := by decide +kernel
theorem dL_law_869 : decode cL_law 869 = .ok (.iconst 3, 1) := by decide +kernel
theorem dL_law_870 : decode cL_law 870 = .ok (.iadd, 1) := by decide +kernel
theorem dL_law_871 : decode cL_law 871 = .ok (.iaload, 1) := by decide +kernel
theorem dL_law_872 : decode cL_law 872 = .ok (.aload_n 0, 1) := by decide +kernel
theorem dL_law_873 : decode cL_law 873 = .ok (.iload_n 3, 1) := by decide +kernel
theorem dL_law_874 : decode cL_law 874 = .ok (.iconst 4, 1) := by decide +kernel
theorem dL_law_875 : decode cL_law 875 = .ok (.iadd, 1) := by decide +kernel
theorem dL_law_876 : decode cL_law 876 = .ok (.iaload, 1) := by decide +kernel
theorem dL_law_877 : decode cL_law 877 = .ok (.invokevirtual 100, 3) := by decide +kernel
theorem dL_law_880 : decode cL_law 880 = .ok (.aload_n 2, 1) := by decide +kernel
theorem dL_law_881 : decode cL_law 881 = .ok (.aload_n 0, 1) := by decide +kernel
theorem dL_law_882 : decode cL_law 882 = .ok (.iload_n 3, 1) := by decide +kernel
theorem dL_law_883 : decode cL_law 883 = .ok (.iconst 1, 1) := by decide +kernel
theorem dL_law_884 : decode cL_law 884 = .ok (.iadd, 1) := by decide +kernel
theorem dL_law_885 : decode cL_law 885 = .ok (.iaload, 1) := by decide +kernel
theorem dL_law_886 : decode cL_law 886 = .ok (.aload_n 0, 1) := by decide +kernel
theorem dL_law_887 : decode cL_law 887 = .ok (.iload_n 3, 1) := by decide +kernel
theorem dL_law_888 : decode cL_law 888 = .ok (.iconst 2, 1) := by decide +kernel
theorem dL_law_889 : decode cL_law 889 = .ok (.iadd, 1) := by decide +kernel
theorem dL_law_890 : decode cL_law 890 = .ok (.iaload, 1) := by decide +kernel
theorem dL_law_891 : decode cL_law 891 = .ok (.aload_n 0, 1) := by decide +kernel
theorem dL_law_892 : decode cL_law 892 = .ok (.iload_n 3, 1) := by decide +kernel
theorem dL_law_893 : decode cL_law 893 = .ok (.iconst 3, 1) := by decide +kernel
theorem dL_law_894 : decode cL_law 894 = .ok (.iadd, 1) := by decide +kernel
theorem dL_law_895 : decode cL_law 895 = .ok (.iaload, 1) := by decide +kernel
theorem dL_law_896 : decode cL_law 896 = .ok (.aload_n 0, 1) := by decide +kernel
theorem dL_law_897 : decode cL_law 897 = .ok (.iload_n 3, 1) := by decide +kernel
theorem dL_law_898 : decode cL_law 898 = .ok (.iconst 4, 1) := by decide +kernel
theorem dL_law_899 : decode cL_law 899 = .ok (.iadd, 1) := by decide +kernel
theorem dL_law_900 : decode cL_law 900 = .ok (.iaload, 1) := by decide +kernel
theorem dL_law_901 : decode cL_law 901 = .ok (.invokevirtual 104, 3) := by decide +kernel
theorem dL_law_904 : decode cL_law 904 = .ok (.if_icmp .eq 252, 3) := by decide +kernel
theorem dL_law_907 : decode cL_law 907 = .ok (.iconst 0, 1) := by decide +kernel
theorem dL_law_908 : decode cL_law 908 = .ok (.ireturn, 1) := by decide +kernel
theorem dL_law_909 : decode cL_law 909 = .ok (.aload_n 1, 1) := by decide +kernel
theorem dL_law_910 : decode cL_law 910 = .ok (.aload_n 0, 1) := by decide +kernel
theorem dL_law_911 : decode cL_law 911 = .ok (.iload_n 3, 1) := by decide +kernel
theorem dL_law_912 : decode cL_law 912 = .ok (.iconst 1, 1) := by decide +kernel
theorem dL_law_913 : decode cL_law 913 = .ok (.iadd, 1) := by decide +kernel
theorem dL_law_914 : decode cL_law 914 = .ok (.iaload, 1) := by decide +kernel
theorem dL_law_915 : decode cL_law 915 = .ok (.aload_n 0, 1) := by decide +kernel
theorem dL_law_916 : decode cL_law 916 = .ok (.iload_n 3, 1) := by decide +kernel
theorem dL_law_917 : decode cL_law 917 = .ok (.iconst 2, 1) := by decide +kernel
theorem dL_law_918 : decode cL_law 918 = .ok (.iadd, 1) := by decide +kernel
theorem dL_law_919 : decode cL_law 919 = .ok (.iaload, 1) := by decide +kernel
theorem dL_law_920 : decode cL_law 920 = .ok (.aload_n 0, 1) := by decide +kernel
theorem dL_law_921 : decode cL_law 921 = .ok (.iload_n 3, 1) := by decide +kernel
theorem dL_law_922 : decode cL_law 922 = .ok (.iconst 3, 1) := by decide +kernel
theorem dL_law_923 : decode cL_law 923 = .ok (.iadd, 1) := by decide +kernel
theorem dL_law_924 : decode cL_law 924 = .ok (.iaload, 1) := by decide +kernel
theorem dL_law_925 : decode cL_law 925 = .ok (.aload_n 0, 1) := by decide +kernel
theorem dL_law_926 : decode cL_law 926 = .ok (.iload_n 3, 1) := by decide +kernel
theorem dL_law_927 : decode cL_law 927 = .ok (.iconst 4, 1) := by decide +kernel
theorem dL_law_928 : decode cL_law 928 = .ok (.iadd, 1) := by decide +kernel
theorem dL_law_929 : decode cL_law 929 = .ok (.iaload, 1) := by decide +kernel
theorem dL_law_930 : decode cL_law 930 = .ok (.invokevirtual 105, 3) := by decide +kernel
theorem dL_law_933 : decode cL_law 933 = .ok (.aload_n 2, 1) := by decide +kernel
theorem dL_law_934 : decode cL_law 934 = .ok (.aload_n 0, 1) := by decide +kernel
theorem dL_law_935 : decode cL_law 935 = .ok (.iload_n 3, 1) := by decide +kernel
theorem dL_law_936 : decode cL_law 936 = .ok (.iconst 1, 1) := by decide +kernel
theorem dL_law_937 : decode cL_law 937 = .ok (.iadd, 1) := by decide +kernel
theorem dL_law_938 : decode cL_law 938 = .ok (.iaload, 1) := by decide +kernel
theorem dL_law_939 : decode cL_law 939 = .ok (.aload_n 0, 1) := by decide +kernel
theorem dL_law_940 : decode cL_law 940 = .ok (.iload_n 3, 1) := by decide +kernel
theorem dL_law_941 : decode cL_law 941 = .ok (.iconst 2, 1) := by decide +kernel
theorem dL_law_942 : decode cL_law 942 = .ok (.iadd, 1) := by decide +kernel
theorem dL_law_943 : decode cL_law 943 = .ok (.iaload, 1) := by decide +kernel
theorem dL_law_944 : decode cL_law 944 = .ok (.aload_n 0, 1) := by decide +kernel
theorem dL_law_945 : decode cL_law 945 = .ok (.iload_n 3, 1) := by decide +kernel
theorem dL_law_946 : decode cL_law 946 = .ok (.iconst 3, 1) := by decide +kernel
theorem dL_law_947 : decode cL_law 947 = .ok (.iadd, 1) := by decide +kernel
theorem dL_law_948 : decode cL_law 948 = .ok (.iaload, 1) := by decide +kernel
theorem dL_law_949 : decode cL_law 949 = .ok (.aload_n 0, 1) := by decide +kernel
theorem dL_law_950 : decode cL_law 950 = .ok (.iload_n 3, 1) := by decide +kernel
theorem dL_law_951 : decode cL_law 951 = .ok (.iconst 4, 1) := by decide +kernel
theorem dL_law_952 : decode cL_law 952 = .ok (.iadd, 1) := by decide +kernel
theorem dL_law_953 : decode cL_law 953 = .ok (.iaload, 1) := by decide +kernel
theorem dL_law_954 : decode cL_law 954 = .ok (.invokevirtual 108, 3) := by decide +kernel
theorem dL_law_957 : decode cL_law 957 = .ok (.if_icmp .eq 199, 3) := by decide +kernel
theorem dL_law_960 : decode cL_law 960 = .ok (.iconst 0, 1) := by decide +kernel
theorem dL_law_961 : decode cL_law 961 = .ok (.ireturn, 1) := by decide +kernel
theorem dL_law_962 : decode cL_law 962 = .ok (.aload_n 1, 1) := by decide +kernel
theorem dL_law_963 : decode cL_law 963 = .ok (.aload_n 0, 1) := by decide +kernel
theorem dL_law_964 : decode cL_law 964 = .ok (.iload_n 3, 1) := by decide +kernel
theorem dL_law_965 : decode cL_law 965 = .ok (.iconst 1, 1) := by decide +kernel
theorem dL_law_966 : decode cL_law 966 = .ok (.iadd, 1) := by decide +kernel
theorem dL_law_967 : decode cL_law 967 = .ok (.iaload, 1) := by decide +kernel
theorem dL_law_968 : decode cL_law 968 = .ok (.invokevirtual 109, 3) := by decide +kernel
theorem dL_law_971 : decode cL_law 971 = .ok (.aload_n 2, 1) := by decide +kernel
theorem dL_law_972 : decode cL_law 972 = .ok (.aload_n 0, 1) := by decide +kernel
theorem dL_law_973 : decode cL_law 973 = .ok (.iload_n 3, 1) := by decide +kernel
theorem dL_law_974 : decode cL_law 974 = .ok (.iconst 1, 1) := by decide +kernel
theorem dL_law_975 : decode cL_law 975 = .ok (.iadd, 1) := by decide +kernel
theorem dL_law_976 : decode cL_law 976 = .ok (.iaload, 1) := by decide +kernel
theorem dL_law_977 : decode cL_law 977 = .ok (.invokevirtual 112, 3) := by decide +kernel
theorem dL_law_980 : decode cL_law 980 = .ok (.if_icmp .eq 176, 3) := by decide +kernel
theorem dL_law_983 : decode cL_law 983 = .ok (.iconst 0, 1) := by decide +kernel
theorem dL_law_984 : decode cL_law 984 = .ok (.ireturn, 1) := by decide +kernel
theorem dL_law_985 : decode cL_law 985 = .ok (.aload_n 1, 1) := by decide +kernel
theorem dL_law_986 : decode cL_law 986 = .ok (.aload_n 0, 1) := by decide +kernel
theorem dL_law_987 : decode cL_law 987 = .ok (.iload_n 3, 1) := by decide +kernel
theorem dL_law_988 : decode cL_law 988 = .ok (.iconst 1, 1) := by decide +kernel
theorem dL_law_989 : decode cL_law 989 = .ok (.iadd, 1) := by decide +kernel
theorem dL_law_990 : decode cL_law 990 = .ok (.iaload, 1) := by decide +kernel
theorem dL_law_991 : decode cL_law 991 = .ok (.invokevirtual 113, 3) := by decide +kernel
theorem dL_law_994 : decode cL_law 994 = .ok (.aload_n 2, 1) := by decide +kernel
theorem dL_law_995 : decode cL_law 995 = .ok (.aload_n 0, 1) := by decide +kernel
theorem dL_law_996 : decode cL_law 996 = .ok (.iload_n 3, 1) := by decide +kernel
theorem dL_law_997 : decode cL_law 997 = .ok (.iconst 1, 1) := by decide +kernel
theorem dL_law_998 : decode cL_law 998 = .ok (.iadd, 1) := by decide +kernel
theorem dL_law_999 : decode cL_law 999 = .ok (.iaload, 1) := by decide +kernel
theorem dL_law_1000 : decode cL_law 1000 = .ok (.invokevirtual 116, 3) := by decide +kernel
theorem dL_law_1003 : decode cL_law 1003 = .ok (.if_icmp .eq 153, 3) := by decide +kernel
theorem dL_law_1006 : decode cL_law 1006 = .ok (.iconst 0, 1) := by decide +kernel
theorem dL_law_1007 : decode cL_law 1007 = .ok (.ireturn, 1) := by decide +kernel
theorem dL_law_1008 : decode cL_law 1008 = .ok (.aload_n 1, 1) := by decide +kernel
theorem dL_law_1009 : decode cL_law 1009 = .ok (.aload_n 0, 1) := by decide +kernel
theorem dL_law_1010 : decode cL_law 1010 = .ok (.iload_n 3, 1) := by decide +kernel
theorem dL_law_1011 : decode cL_law 1011 = .ok (.iconst 1, 1) := by decide +kernel
theorem dL_law_1012 : decode cL_law 1012 = .ok (.iadd, 1) := by decide +kernel
theorem dL_law_1013 : decode cL_law 1013 = .ok (.iaload, 1) := by decide +kernel
theorem dL_law_1014 : decode cL_law 1014 = .ok (.invokevirtual 117, 3) := by decide +kernel
theorem dL_law_1017 : decode cL_law 1017 = .ok (.aload_n 2, 1) := by decide +kernel
theorem dL_law_1018 : decode cL_law 1018 = .ok (.aload_n 0, 1) := by decide +kernel
theorem dL_law_1019 : decode cL_law 1019 = .ok (.iload_n 3, 1) := by decide +kernel
theorem dL_law_1020 : decode cL_law 1020 = .ok (.iconst 1, 1) := by decide +kernel
theorem dL_law_1021 : decode cL_law 1021 = .ok (.iadd, 1) := by decide +kernel
theorem dL_law_1022 : decode cL_law 1022 = .ok (.iaload, 1) := by decide +kernel
theorem dL_law_1023 : decode cL_law 1023 = .ok (.invokevirtual 120, 3) := by decide +kernel
theorem dL_law_1026 : decode cL_law 1026 = .ok (.if_icmp .eq 130, 3) := by decide +kernel
theorem dL_law_1029 : decode cL_law 1029 = .ok (.iconst 0, 1) := by decide +kernel
theorem dL_law_1030 : decode cL_law 1030 = .ok (.ireturn, 1) := by decide +kernel
theorem dL_law_1031 : decode cL_law 1031 = .ok (.aload_n 1, 1) := by decide +kernel
theorem dL_law_1032 : decode cL_law 1032 = .ok (.aload_n 0, 1) := by decide +kernel
theorem dL_law_1033 : decode cL_law 1033 = .ok (.iload_n 3, 1) := by decide +kernel
theorem dL_law_1034 : decode cL_law 1034 = .ok (.iconst 1, 1) := by decide +kernel
theorem dL_law_1035 : decode cL_law 1035 = .ok (.iadd, 1) := by decide +kernel
theorem dL_law_1036 : decode cL_law 1036 = .ok (.iaload, 1) := by decide +kernel
theorem dL_law_1037 : decode cL_law 1037 = .ok (.aload_n 0, 1) := by decide +kernel
theorem dL_law_1038 : decode cL_law 1038 = .ok (.iload_n 3, 1) := by decide +kernel
theorem dL_law_1039 : decode cL_law 1039 = .ok (.iconst 2, 1) := by decide +kernel
theorem dL_law_1040 : decode cL_law 1040 = .ok (.iadd, 1) := by decide +kernel
theorem dL_law_1041 : decode cL_law 1041 = .ok (.iaload, 1) := by decide +kernel
theorem dL_law_1042 : decode cL_law 1042 = .ok (.invokevirtual 121, 3) := by decide +kernel
theorem dL_law_1045 : decode cL_law 1045 = .ok (.aload_n 2, 1) := by decide +kernel
theorem dL_law_1046 : decode cL_law 1046 = .ok (.aload_n 0, 1) := by decide +kernel
theorem dL_law_1047 : decode cL_law 1047 = .ok (.iload_n 3, 1) := by decide +kernel
theorem dL_law_1048 : decode cL_law 1048 = .ok (.iconst 1, 1) := by decide +kernel
theorem dL_law_1049 : decode cL_law 1049 = .ok (.iadd, 1) := by decide +kernel
theorem dL_law_1050 : decode cL_law 1050 = .ok (.iaload, 1) := by decide +kernel
theorem dL_law_1051 : decode cL_law 1051 = .ok (.aload_n 0, 1) := by decide +kernel
theorem dL_law_1052 : decode cL_law 1052 = .ok (.iload_n 3, 1) := by decide +kernel
theorem dL_law_1053 : decode cL_law 1053 = .ok (.iconst 2, 1) := by decide +kernel
theorem dL_law_1054 : decode cL_law 1054 = .ok (.iadd, 1) := by decide +kernel
theorem dL_law_1055 : decode cL_law 1055 = .ok (.iaload, 1) := by decide +kernel
theorem dL_law_1056 : decode cL_law 1056 = .ok (.invokevirtual 124, 3) := by decide +kernel
theorem dL_law_1059 : decode cL_law 1059 = .ok (.if_icmp .eq 97, 3) := by decide +kernel
theorem dL_law_1062 : decode cL_law 1062 = .ok (.iconst 0, 1) := by decide +kernel
theorem dL_law_1063 : decode cL_law 1063 = .ok (.ireturn, 1) := by decide +kernel
theorem dL_law_1064 : decode cL_law 1064 = .ok (.aload_n 1, 1) := by decide +kernel
theorem dL_law_1065 : decode cL_law 1065 = .ok (.aload_n 0, 1) := by decide +kernel
theorem dL_law_1066 : decode cL_law 1066 = .ok (.iload_n 3, 1) := by decide +kernel
theorem dL_law_1067 : decode cL_law 1067 = .ok (.iconst 1, 1) := by decide +kernel
theorem dL_law_1068 : decode cL_law 1068 = .ok (.iadd, 1) := by decide +kernel
theorem dL_law_1069 : decode cL_law 1069 = .ok (.iaload, 1) := by decide +kernel
theorem dL_law_1070 : decode cL_law 1070 = .ok (.aload_n 0, 1) := by decide +kernel
theorem dL_law_1071 : decode cL_law 1071 = .ok (.iload_n 3, 1) := by decide +kernel
theorem dL_law_1072 : decode cL_law 1072 = .ok (.iconst 2, 1) := by decide +kernel
theorem dL_law_1073 : decode cL_law 1073 = .ok (.iadd, 1) := by decide +kernel
theorem dL_law_1074 : decode cL_law 1074 = .ok (.iaload, 1) := by decide +kernel
theorem dL_law_1075 : decode cL_law 1075 = .ok (.invokevirtual 125, 3) := by decide +kernel
theorem dL_law_1078 : decode cL_law 1078 = .ok (.aload_n 2, 1) := by decide +kernel
theorem dL_law_1079 : decode cL_law 1079 = .ok (.aload_n 0, 1) := by decide +kernel
theorem dL_law_1080 : decode cL_law 1080 = .ok (.iload_n 3, 1) := by decide +kernel
theorem dL_law_1081 : decode cL_law 1081 = .ok (.iconst 1, 1) := by decide +kernel
theorem dL_law_1082 : decode cL_law 1082 = .ok (.iadd, 1) := by decide +kernel
theorem dL_law_1083 : decode cL_law 1083 = .ok (.iaload, 1) := by decide +kernel
theorem dL_law_1084 : decode cL_law 1084 = .ok (.aload_n 0, 1) := by decide +kernel
theorem dL_law_1085 : decode cL_law 1085 = .ok (.iload_n 3, 1) := by decide +kernel
theorem dL_law_1086 : decode cL_law 1086 = .ok (.iconst 2, 1) := by decide +kernel
theorem dL_law_1087 : decode cL_law 1087 = .ok (.iadd, 1) := by decide +kernel
theorem dL_law_1088 : decode cL_law 1088 = .ok (.iaload, 1) := by decide +kernel
theorem dL_law_1089 : decode cL_law 1089 = .ok (.invokevirtual 128, 3) := by decide +kernel
theorem dL_law_1092 : decode cL_law 1092 = .ok (.if_icmp .eq 64, 3) := by decide +kernel
theorem dL_law_1095 : decode cL_law 1095 = .ok (.iconst 0, 1) := by decide +kernel
theorem dL_law_1096 : decode cL_law 1096 = .ok (.ireturn, 1) := by decide +kernel
theorem dL_law_1097 : decode cL_law 1097 = .ok (.aload_n 1, 1) := by decide +kernel
theorem dL_law_1098 : decode cL_law 1098 = .ok (.aload_n 0, 1) := by decide +kernel
theorem dL_law_1099 : decode cL_law 1099 = .ok (.iload_n 3, 1) := by decide +kernel
theorem dL_law_1100 : decode cL_law 1100 = .ok (.iconst 1, 1) := by decide +kernel
theorem dL_law_1101 : decode cL_law 1101 = .ok (.iadd, 1) := by decide +kernel
theorem dL_law_1102 : decode cL_law 1102 = .ok (.iaload, 1) := by decide +kernel
theorem dL_law_1103 : decode cL_law 1103 = .ok (.invokevirtual 129, 3) := by decide +kernel
theorem dL_law_1106 : decode cL_law 1106 = .ok (.aload_n 2, 1) := by decide +kernel
theorem dL_law_1107 : decode cL_law 1107 = .ok (.aload_n 0, 1) := by decide +kernel
theorem dL_law_1108 : decode cL_law 1108 = .ok (.iload_n 3, 1) := by decide +kernel
theorem dL_law_1109 : decode cL_law 1109 = .ok (.iconst 1, 1) := by decide +kernel
theorem dL_law_1110 : decode cL_law 1110 = .ok (.iadd, 1) := by decide +kernel
theorem dL_law_1111 : decode cL_law 1111 = .ok (.iaload, 1) := by decide +kernel
theorem dL_law_1112 : decode cL_law 1112 = .ok (.invokevirtual 132, 3) := by decide +kernel
theorem dL_law_1115 : decode cL_law 1115 = .ok (.if_icmp .eq 41, 3) := by decide +kernel
theorem dL_law_1118 : decode cL_law 1118 = .ok (.iconst 0, 1) := by decide +kernel
theorem dL_law_1119 : decode cL_law 1119 = .ok (.ireturn, 1) := by decide +kernel
theorem dL_law_1120 : decode cL_law 1120 = .ok (.aload_n 1, 1) := by decide +kernel
theorem dL_law_1121 : decode cL_law 1121 = .ok (.aload_n 0, 1) := by decide +kernel
theorem dL_law_1122 : decode cL_law 1122 = .ok (.iload_n 3, 1) := by decide +kernel
theorem dL_law_1123 : decode cL_law 1123 = .ok (.iconst 1, 1) := by decide +kernel
theorem dL_law_1124 : decode cL_law 1124 = .ok (.iadd, 1) := by decide +kernel
theorem dL_law_1125 : decode cL_law 1125 = .ok (.iaload, 1) := by decide +kernel
theorem dL_law_1126 : decode cL_law 1126 = .ok (.invokevirtual 133, 3) := by decide +kernel
theorem dL_law_1129 : decode cL_law 1129 = .ok (.aload_n 2, 1) := by decide +kernel
theorem dL_law_1130 : decode cL_law 1130 = .ok (.aload_n 0, 1) := by decide +kernel
theorem dL_law_1131 : decode cL_law 1131 = .ok (.iload_n 3, 1) := by decide +kernel
theorem dL_law_1132 : decode cL_law 1132 = .ok (.iconst 1, 1) := by decide +kernel
theorem dL_law_1133 : decode cL_law 1133 = .ok (.iadd, 1) := by decide +kernel
theorem dL_law_1134 : decode cL_law 1134 = .ok (.iaload, 1) := by decide +kernel
theorem dL_law_1135 : decode cL_law 1135 = .ok (.invokevirtual 136, 3) := by decide +kernel
theorem dL_law_1138 : decode cL_law 1138 = .ok (.if_icmp .eq 18, 3) := by decide +kernel
theorem dL_law_1141 : decode cL_law 1141 = .ok (.iconst 0, 1) := by decide +kernel
theorem dL_law_1142 : decode cL_law 1142 = .ok (.ireturn, 1) := by decide +kernel
theorem dL_law_1143 : decode cL_law 1143 = .ok (.aload_n 1, 1) := by decide +kernel
theorem dL_law_1144 : decode cL_law 1144 = .ok (.invokevirtual 137, 3) := by decide +kernel
theorem dL_law_1147 : decode cL_law 1147 = .ok (.aload_n 2, 1) := by decide +kernel
theorem dL_law_1148 : decode cL_law 1148 = .ok (.invokevirtual 140, 3) := by decide +kernel
theorem dL_law_1151 : decode cL_law 1151 = .ok (.if_icmp .eq 5, 3) := by decide +kernel
theorem dL_law_1154 : decode cL_law 1154 = .ok (.iconst 0, 1) := by decide +kernel
theorem dL_law_1155 : decode cL_law 1155 = .ok (.ireturn, 1) := by decide +kernel
theorem dL_law_1156 : decode cL_law 1156 = .ok (.iinc 3 6, 3) := by decide +kernel
theorem dL_law_1159 : decode cL_law 1159 = .ok (.goto (-1141), 3) := by decide +kernel
theorem dL_law_1162 : decode cL_law 1162 = .ok (.iconst 1, 1) := by decide +kernel
theorem dL_law_1163 : decode cL_law 1163 = .ok (.ireturn, 1) := by decide +kernel
