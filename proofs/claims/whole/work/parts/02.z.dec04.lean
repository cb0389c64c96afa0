theorem dX12_leftIn_79 : decode cX12_leftIn 79 = .ok (.ifCond .ne 12, 3) := by decide +kernel
theorem dX12_leftIn_82 : decode cX12_leftIn 82 = .ok (.iload_n 2, 1) := by decide +kernel
theorem dX12_leftIn_83 : decode cX12_leftIn 83 = .ok (.aload_n 0, 1) := by decide +kernel
theorem dX12_leftIn_84 : decode cX12_leftIn 84 = .ok (.getfield 43, 3) := by decide +kernel
theorem dX12_leftIn_87 : decode cX12_leftIn 87 = .ok (.iconst 1, 1) := by decide +kernel
theorem dX12_leftIn_88 : decode cX12_leftIn 88 = .ok (.iaload, 1) := by decide +kernel
theorem dX12_leftIn_89 : decode cX12_leftIn 89 = .ok (.iadd, 1) := by decide +kernel
theorem dX12_leftIn_90 : decode cX12_leftIn 90 = .ok (.istore_n 2, 1) := by decide +kernel
theorem dX12_leftIn_91 : decode cX12_leftIn 91 = .ok (.iinc 3 1, 3) := by decide +kernel
theorem dX12_leftIn_94 : decode cX12_leftIn 94 = .ok (.goto (-90), 3) := by decide +kernel
theorem dX12_leftIn_97 : decode cX12_leftIn 97 = .ok (.iload_n 2, 1) := by decide +kernel
theorem dX12_leftIn_98 : decode cX12_leftIn 98 = .ok (.ireturn, 1) := by decide +kernel
theorem dX12_left_0 : decode cX12_left 0 = .ok (.aload_n 0, 1) := by decide +kernel
theorem dX12_left_1 : decode cX12_left 1 = .ok (.iconst 0, 1) := by decide +kernel
theorem dX12_left_2 : decode cX12_left 2 = .ok (.putfield 103, 3) := by decide +kernel
theorem dX12_left_5 : decode cX12_left 5 = .ok (.aload_n 0, 1) := by decide +kernel
theorem dX12_left_6 : decode cX12_left 6 = .ok (.getfield 278, 3) := by decide +kernel
theorem dX12_left_9 : decode cX12_left 9 = .ok (.ifCond .ne 7, 3) := by decide +kernel
theorem dX12_left_12 : decode cX12_left 12 = .ok (.iconst (-1), 1) := by decide +kernel
theorem dX12_left_13 : decode cX12_left 13 = .ok (.goto 11, 3) := by decide +kernel
theorem dX12_left_16 : decode cX12_left 16 = .ok (.aload_n 0, 1) := by decide +kernel
theorem dX12_left_17 : decode cX12_left 17 = .ok (.aload_n 0, 1) := by decide +kernel
theorem dX12_left_18 : decode cX12_left 18 = .ok (.getfield 49, 3) := by decide +kernel
theorem dX12_left_21 : decode cX12_left 21 = .ok (.invokevirtual 401, 3) := by decide +kernel
theorem dX12_left_24 : decode cX12_left 24 = .ok (.ireturn, 1) := by decide +kernel
theorem dX12_layOn_0 : decode cX12_layOn 0 = .ok (.iconst 0, 1) := by decide +kernel
theorem dX12_layOn_1 : decode cX12_layOn 1 = .ok (.istore_n 2, 1) := by decide +kernel
theorem dX12_layOn_2 : decode cX12_layOn 2 = .ok (.iload_n 2, 1) := by decide +kernel
theorem dX12_layOn_3 : decode cX12_layOn 3 = .ok (.bipush 42, 2) := by decide +kernel
theorem dX12_layOn_5 : decode cX12_layOn 5 = .ok (.if_icmp .ge 16, 3) := by decide +kernel
theorem dX12_layOn_8 : decode cX12_layOn 8 = .ok (.aload_n 0, 1) := by decide +kernel
theorem dX12_layOn_9 : decode cX12_layOn 9 = .ok (.getfield 75, 3) := by decide +kernel
theorem dX12_layOn_12 : decode cX12_layOn 12 = .ok (.iload_n 2, 1) := by decide +kernel
theorem dX12_layOn_13 : decode cX12_layOn 13 = .ok (.lconst 0, 1) := by decide +kernel
theorem dX12_layOn_14 : decode cX12_layOn 14 = .ok (.lastore, 1) := by decide +kernel
theorem dX12_layOn_15 : decode cX12_layOn 15 = .ok (.iinc 2 1, 3) := by decide +kernel
theorem dX12_layOn_18 : decode cX12_layOn 18 = .ok (.goto (-16), 3) := by decide +kernel
theorem dX12_layOn_21 : decode cX12_layOn 21 = .ok (.iconst 0, 1) := by decide +kernel
theorem dX12_layOn_22 : decode cX12_layOn 22 = .ok (.istore_n 2, 1) := by decide +kernel
theorem dX12_layOn_23 : decode cX12_layOn 23 = .ok (.iload_n 2, 1) := by decide +kernel
theorem dX12_layOn_24 : decode cX12_layOn 24 = .ok (.bipush 6, 2) := by decide +kernel
theorem dX12_layOn_26 : decode cX12_layOn 26 = .ok (.if_icmp .ge 16, 3) := by decide +kernel
theorem dX12_layOn_29 : decode cX12_layOn 29 = .ok (.aload_n 0, 1) := by decide +kernel
theorem dX12_layOn_30 : decode cX12_layOn 30 = .ok (.getfield 78, 3) := by decide +kernel
theorem dX12_layOn_33 : decode cX12_layOn 33 = .ok (.iload_n 2, 1) := by decide +kernel
theorem dX12_layOn_34 : decode cX12_layOn 34 = .ok (.lconst 0, 1) := by decide +kernel
theorem dX12_layOn_35 : decode cX12_layOn 35 = .ok (.lastore, 1) := by decide +kernel
theorem dX12_layOn_36 : decode cX12_layOn 36 = .ok (.iinc 2 1, 3) := by decide +kernel
theorem dX12_layOn_39 : decode cX12_layOn 39 = .ok (.goto (-16), 3) := by decide +kernel
theorem dX12_layOn_42 : decode cX12_layOn 42 = .ok (.aload_n 0, 1) := by decide +kernel
theorem dX12_layOn_43 : decode cX12_layOn 43 = .ok (.aload_n 1, 1) := by decide +kernel
theorem dX12_layOn_44 : decode cX12_layOn 44 = .ok (.iconst 0, 1) := by decide +kernel
theorem dX12_layOn_45 : decode cX12_layOn 45 = .ok (.ldc2_w 404, 3) := by decide +kernel
theorem dX12_layOn_48 : decode cX12_layOn 48 = .ok (.invokevirtual 406, 3) := by decide +kernel
theorem dX12_layOn_51 : decode cX12_layOn 51 = .ok (.return_, 1) := by decide +kernel
theorem dX12_goOn_0 : decode cX12_goOn 0 = .ok (.aload_n 0, 1) := by decide +kernel
theorem dX12_goOn_1 : decode cX12_goOn 1 = .ok (.aload_n 1, 1) := by decide +kernel
theorem dX12_goOn_2 : decode cX12_goOn 2 = .ok (.invokevirtual 366, 3) := by decide +kernel
theorem dX12_goOn_5 : decode cX12_goOn 5 = .ok (.istore 5, 2) := by decide +kernel
theorem dX12_goOn_7 : decode cX12_goOn 7 = .ok (.iload 5, 2) := by decide +kernel
theorem dX12_goOn_9 : decode cX12_goOn 9 = .ok (.iconst (-1), 1) := by decide +kernel
theorem dX12_goOn_10 : decode cX12_goOn 10 = .ok (.if_icmp .ne 64, 3) := by decide +kernel
theorem dX12_goOn_13 : decode cX12_goOn 13 = .ok (.iconst 0, 1) := by decide +kernel
theorem dX12_goOn_14 : decode cX12_goOn 14 = .ok (.istore 6, 2) := by decide +kernel
theorem dX12_goOn_16 : decode cX12_goOn 16 = .ok (.iload 6, 2) := by decide +kernel
theorem dX12_goOn_18 : decode cX12_goOn 18 = .ok (.aload_n 0, 1) := by decide +kernel
theorem dX12_goOn_19 : decode cX12_goOn 19 = .ok (.getfield 278, 3) := by decide +kernel
theorem dX12_goOn_22 : decode cX12_goOn 22 = .ok (.if_icmp .ge 51, 3) := by decide +kernel
theorem dX12_goOn_25 : decode cX12_goOn 25 = .ok (.aload_n 0, 1) := by decide +kernel
theorem dX12_goOn_26 : decode cX12_goOn 26 = .ok (.getfield 75, 3) := by decide +kernel
theorem dX12_goOn_29 : decode cX12_goOn 29 = .ok (.bipush 7, 2) := by decide +kernel
theorem dX12_goOn_31 : decode cX12_goOn 31 = .ok (.iload 6, 2) := by decide +kernel
theorem dX12_goOn_33 : decode cX12_goOn 33 = .ok (.imul, 1) := by decide +kernel
theorem dX12_goOn_34 : decode cX12_goOn 34 = .ok (.aload_n 0, 1) := by decide +kernel
theorem dX12_goOn_35 : decode cX12_goOn 35 = .ok (.aload_n 1, 1) := by decide +kernel
theorem dX12_goOn_36 : decode cX12_goOn 36 = .ok (.iload 6, 2) := by decide +kernel
theorem dX12_goOn_38 : decode cX12_goOn 38 = .ok (.invokevirtual 352, 3) := by decide +kernel
theorem dX12_goOn_41 : decode cX12_goOn 41 = .ok (.iadd, 1) := by decide +kernel
theorem dX12_goOn_42 : decode cX12_goOn 42 = .ok (.dup2, 1) := by decide +kernel
theorem dX12_goOn_43 : decode cX12_goOn 43 = .ok (.laload, 1) := by decide +kernel
theorem dX12_goOn_44 : decode cX12_goOn 44 = .ok (.lload_n 3, 1) := by decide +kernel
theorem dX12_goOn_45 : decode cX12_goOn 45 = .ok (.ladd, 1) := by decide +kernel
theorem dX12_goOn_46 : decode cX12_goOn 46 = .ok (.lastore, 1) := by decide +kernel
theorem dX12_goOn_47 : decode cX12_goOn 47 = .ok (.aload_n 0, 1) := by decide +kernel
theorem dX12_goOn_48 : decode cX12_goOn 48 = .ok (.getfield 78, 3) := by decide +kernel
theorem dX12_goOn_51 : decode cX12_goOn 51 = .ok (.iload 6, 2) := by decide +kernel
theorem dX12_goOn_53 : decode cX12_goOn 53 = .ok (.dup2, 1) := by decide +kernel
theorem dX12_goOn_54 : decode cX12_goOn 54 = .ok (.laload, 1) := by decide +kernel
theorem dX12_goOn_55 : decode cX12_goOn 55 = .ok (.lload_n 3, 1) := by decide +kernel
theorem dX12_goOn_56 : decode cX12_goOn 56 = .ok (.aload_n 0, 1) := by decide +kernel
theorem dX12_goOn_57 : decode cX12_goOn 57 = .ok (.aload_n 1, 1) := by decide +kernel
theorem dX12_goOn_58 : decode cX12_goOn 58 = .ok (.iload 6, 2) := by decide +kernel
theorem dX12_goOn_60 : decode cX12_goOn 60 = .ok (.invokevirtual 373, 3) := by decide +kernel
theorem dX12_goOn_63 : decode cX12_goOn 63 = .ok (.i2l, 1) := by decide +kernel
theorem dX12_goOn_64 : decode cX12_goOn 64 = .ok (.lmul, 1) := by decide +kernel
theorem dX12_goOn_65 : decode cX12_goOn 65 = .ok (.ladd, 1) := by decide +kernel
theorem dX12_goOn_66 : decode cX12_goOn 66 = .ok (.lastore, 1) := by decide +kernel
theorem dX12_goOn_67 : decode cX12_goOn 67 = .ok (.iinc 6 1, 3) := by decide +kernel
theorem dX12_goOn_70 : decode cX12_goOn 70 = .ok (.goto (-54), 3) := by decide +kernel
theorem dX12_goOn_73 : decode cX12_goOn 73 = .ok (.return_, 1) := by decide +kernel
theorem dX12_goOn_74 : decode cX12_goOn 74 = .ok (.bipush 71, 2) := by decide +kernel
theorem dX12_goOn_76 : decode cX12_goOn 76 = .ok (.iconst 5, 1) := by decide +kernel
theorem dX12_goOn_77 : decode cX12_goOn 77 = .ok (.aload_n 1, 1) := by decide +kernel
theorem dX12_goOn_78 : decode cX12_goOn 78 = .ok (.bipush 70, 2) := by decide +kernel
theorem dX12_goOn_80 : decode cX12_goOn 80 = .ok (.iaload, 1) := by decide +kernel
theorem dX12_goOn_81 : decode cX12_goOn 81 = .ok (.imul, 1) := by decide +kernel
theorem dX12_goOn_82 : decode cX12_goOn 82 = .ok (.iadd, 1) := by decide +kernel
theorem dX12_goOn_83 : decode cX12_goOn 83 = .ok (.istore 6, 2) := by decide +kernel
theorem dX12_goOn_85 : decode cX12_goOn 85 = .ok (.iconst 0, 1) := by decide +kernel
theorem dX12_goOn_86 : decode cX12_goOn 86 = .ok (.istore 7, 2) := by decide +kernel
theorem dX12_goOn_88 : decode cX12_goOn 88 = .ok (.iload 7, 2) := by decide +kernel
theorem dX12_goOn_90 : decode cX12_goOn 90 = .ok (.iload 6, 2) := by decide +kernel
theorem dX12_goOn_92 : decode cX12_goOn 92 = .ok (.if_icmp .ge 26, 3) := by decide +kernel
theorem dX12_goOn_95 : decode cX12_goOn 95 = .ok (.aload_n 0, 1) := by decide +kernel
theorem dX12_goOn_96 : decode cX12_goOn 96 = .ok (.getfield 72, 3) := by decide +kernel
theorem dX12_goOn_99 : decode cX12_goOn 99 = .ok (.sipush 251, 3) := by decide +kernel
theorem dX12_goOn_102 : decode cX12_goOn 102 = .ok (.iload_n 2, 1) := by decide +kernel
theorem dX12_goOn_103 : decode cX12_goOn 103 = .ok (.imul, 1) := by decide +kernel
theorem dX12_goOn_104 : decode cX12_goOn 104 = .ok (.iload 7, 2) := by decide +kernel
theorem dX12_goOn_106 : decode cX12_goOn 106 = .ok (.iadd, 1) := by decide +kernel
theorem dX12_goOn_107 : decode cX12_goOn 107 = .ok (.aload_n 1, 1) := by decide +kernel
theorem dX12_goOn_108 : decode cX12_goOn 108 = .ok (.iload 7, 2) := by decide +kernel
theorem dX12_goOn_110 : decode cX12_goOn 110 = .ok (.iaload, 1) := by decide +kernel
theorem dX12_goOn_111 : decode cX12_goOn 111 = .ok (.iastore, 1) := by decide +kernel
theorem dX12_goOn_112 : decode cX12_goOn 112 = .ok (.iinc 7 1, 3) := by decide +kernel
theorem dX12_goOn_115 : decode cX12_goOn 115 = .ok (.goto (-27), 3) := by decide +kernel
theorem dX12_goOn_118 : decode cX12_goOn 118 = .ok (.lload_n 3, 1) := by decide +kernel
theorem dX12_goOn_119 : decode cX12_goOn 119 = .ok (.aload_n 0, 1) := by decide +kernel
theorem dX12_goOn_120 : decode cX12_goOn 120 = .ok (.aload_n 1, 1) := by decide +kernel
theorem dX12_goOn_121 : decode cX12_goOn 121 = .ok (.iload 5, 2) := by decide +kernel
theorem dX12_goOn_123 : decode cX12_goOn 123 = .ok (.aload_n 1, 1) := by decide +kernel
theorem dX12_goOn_124 : decode cX12_goOn 124 = .ok (.bipush 11, 2) := by decide +kernel
theorem dX12_goOn_126 : decode cX12_goOn 126 = .ok (.iload 5, 2) := by decide +kernel
theorem dX12_goOn_128 : decode cX12_goOn 128 = .ok (.imul, 1) := by decide +kernel
theorem dX12_goOn_129 : decode cX12_goOn 129 = .ok (.iconst 0, 1) := by decide +kernel
theorem dX12_goOn_130 : decode cX12_goOn 130 = .ok (.iadd, 1) := by decide +kernel
theorem dX12_goOn_131 : decode cX12_goOn 131 = .ok (.iaload, 1) := by decide +kernel
theorem dX12_goOn_132 : decode cX12_goOn 132 = .ok (.invokevirtual 369, 3) := by decide +kernel
theorem dX12_goOn_135 : decode cX12_goOn 135 = .ok (.i2l, 1) := by decide +kernel
theorem dX12_goOn_136 : decode cX12_goOn 136 = .ok (.lmul, 1) := by decide +kernel
theorem dX12_goOn_137 : decode cX12_goOn 137 = .ok (.ldc2_w 334, 3) := by decide +kernel
theorem dX12_goOn_140 : decode cX12_goOn 140 = .ok (.ldiv, 1) := by decide +kernel
theorem dX12_goOn_141 : decode cX12_goOn 141 = .ok (.lstore 7, 2) := by decide +kernel
theorem dX12_goOn_143 : decode cX12_goOn 143 = .ok (.aload_n 0, 1) := by decide +kernel
theorem dX12_goOn_144 : decode cX12_goOn 144 = .ok (.iload_n 2, 1) := by decide +kernel
theorem dX12_goOn_145 : decode cX12_goOn 145 = .ok (.aload_n 0, 1) := by decide +kernel
theorem dX12_goOn_146 : decode cX12_goOn 146 = .ok (.getfield 81, 3) := by decide +kernel
theorem dX12_goOn_149 : decode cX12_goOn 149 = .ok (.invokevirtual 410, 3) := by decide +kernel
theorem dX12_goOn_152 : decode cX12_goOn 152 = .ok (.aload_n 0, 1) := by decide +kernel
theorem dX12_goOn_153 : decode cX12_goOn 153 = .ok (.aload_n 0, 1) := by decide +kernel
theorem dX12_goOn_154 : decode cX12_goOn 154 = .ok (.getfield 81, 3) := by decide +kernel
theorem dX12_goOn_157 : decode cX12_goOn 157 = .ok (.iload 5, 2) := by decide +kernel
theorem dX12_goOn_159 : decode cX12_goOn 159 = .ok (.bipush 7, 2) := by decide +kernel
theorem dX12_goOn_161 : decode cX12_goOn 161 = .ok (.invokevirtual 382, 3) := by decide +kernel
theorem dX12_goOn_164 : decode cX12_goOn 164 = .ok (.aload_n 0, 1) := by decide +kernel
theorem dX12_goOn_165 : decode cX12_goOn 165 = .ok (.aload_n 0, 1) := by decide +kernel
theorem dX12_goOn_166 : decode cX12_goOn 166 = .ok (.getfield 81, 3) := by decide +kernel
theorem dX12_goOn_169 : decode cX12_goOn 169 = .ok (.iload_n 2, 1) := by decide +kernel
theorem dX12_goOn_170 : decode cX12_goOn 170 = .ok (.iconst 1, 1) := by decide +kernel
theorem dX12_goOn_171 : decode cX12_goOn 171 = .ok (.iadd, 1) := by decide +kernel
theorem dX12_goOn_172 : decode cX12_goOn 172 = .ok (.lload 7, 2) := by decide +kernel
theorem dX12_goOn_174 : decode cX12_goOn 174 = .ok (.invokevirtual 406, 3) := by decide +kernel
theorem dX12_goOn_177 : decode cX12_goOn 177 = .ok (.aload_n 0, 1) := by decide +kernel
theorem dX12_goOn_178 : decode cX12_goOn 178 = .ok (.iload_n 2, 1) := by decide +kernel
theorem dX12_goOn_179 : decode cX12_goOn 179 = .ok (.aload_n 0, 1) := by decide +kernel
theorem dX12_goOn_180 : decode cX12_goOn 180 = .ok (.getfield 81, 3) := by decide +kernel
theorem dX12_goOn_183 : decode cX12_goOn 183 = .ok (.invokevirtual 410, 3) := by decide +kernel
theorem dX12_goOn_186 : decode cX12_goOn 186 = .ok (.aload_n 0, 1) := by decide +kernel
theorem dX12_goOn_187 : decode cX12_goOn 187 = .ok (.aload_n 0, 1) := by decide +kernel
theorem dX12_goOn_188 : decode cX12_goOn 188 = .ok (.getfield 81, 3) := by decide +kernel
theorem dX12_goOn_191 : decode cX12_goOn 191 = .ok (.iload 5, 2) := by decide +kernel
theorem dX12_goOn_193 : decode cX12_goOn 193 = .ok (.iconst 0, 1) := by decide +kernel
theorem dX12_goOn_194 : decode cX12_goOn 194 = .ok (.invokevirtual 382, 3) := by decide +kernel
theorem dX12_goOn_197 : decode cX12_goOn 197 = .ok (.aload_n 0, 1) := by decide +kernel
theorem dX12_goOn_198 : decode cX12_goOn 198 = .ok (.aload_n 0, 1) := by decide +kernel
theorem dX12_goOn_199 : decode cX12_goOn 199 = .ok (.getfield 81, 3) := by decide +kernel
theorem dX12_goOn_202 : decode cX12_goOn 202 = .ok (.iload_n 2, 1) := by decide +kernel
theorem dX12_goOn_203 : decode cX12_goOn 203 = .ok (.iconst 1, 1) := by decide +kernel
theorem dX12_goOn_204 : decode cX12_goOn 204 = .ok (.iadd, 1) := by decide +kernel
theorem dX12_goOn_205 : decode cX12_goOn 205 = .ok (.lload_n 3, 1) := by decide +kernel
theorem dX12_goOn_206 : decode cX12_goOn 206 = .ok (.lload 7, 2) := by decide +kernel
theorem dX12_goOn_208 : decode cX12_goOn 208 = .ok (.lsub, 1) := by decide +kernel
theorem dX12_goOn_209 : decode cX12_goOn 209 = .ok (.invokevirtual 406, 3) := by decide +kernel
theorem dX12_goOn_212 : decode cX12_goOn 212 = .ok (.return_, 1) := by decide +kernel
theorem dX12_copyTo_0 : decode cX12_copyTo 0 = .ok (.bipush 71, 2) := by decide +kernel
theorem dX12_copyTo_2 : decode cX12_copyTo 2 = .ok (.iconst 5, 1) := by decide +kernel
theorem dX12_copyTo_3 : decode cX12_copyTo 3 = .ok (.aload_n 0, 1) := by decide +kernel
theorem dX12_copyTo_4 : decode cX12_copyTo 4 = .ok (.getfield 72, 3) := by decide +kernel
theorem dX12_copyTo_7 : decode cX12_copyTo 7 = .ok (.sipush 251, 3) := by decide +kernel
theorem dX12_copyTo_10 : decode cX12_copyTo 10 = .ok (.iload_n 1, 1) := by decide +kernel
theorem dX12_copyTo_11 : decode cX12_copyTo 11 = .ok (.imul, 1) := by decide +kernel
theorem dX12_copyTo_12 : decode cX12_copyTo 12 = .ok (.bipush 70, 2) := by decide +kernel
theorem dX12_copyTo_14 : decode cX12_copyTo 14 = .ok (.iadd, 1) := by decide +kernel
theorem dX12_copyTo_15 : decode cX12_copyTo 15 = .ok (.iaload, 1) := by decide +kernel
theorem dX12_copyTo_16 : decode cX12_copyTo 16 = .ok (.imul, 1) := by decide +kernel
theorem dX12_copyTo_17 : decode cX12_copyTo 17 = .ok (.iadd, 1) := by decide +kernel
theorem dX12_copyTo_18 : decode cX12_copyTo 18 = .ok (.istore_n 3, 1) := by decide +kernel
theorem dX12_copyTo_19 : decode cX12_copyTo 19 = .ok (.iconst 0, 1) := by decide +kernel
theorem dX12_copyTo_20 : decode cX12_copyTo 20 = .ok (.istore 4, 2) := by decide +kernel
theorem dX12_copyTo_22 : decode cX12_copyTo 22 = .ok (.iload 4, 2) := by decide +kernel
theorem dX12_copyTo_24 : decode cX12_copyTo 24 = .ok (.iload_n 3, 1) := by decide +kernel
theorem dX12_copyTo_25 : decode cX12_copyTo 25 = .ok (.if_icmp .ge 26, 3) := by decide +kernel
theorem dX12_copyTo_28 : decode cX12_copyTo 28 = .ok (.aload_n 2, 1) := by decide +kernel
theorem dX12_copyTo_29 : decode cX12_copyTo 29 = .ok (.iload 4, 2) := by decide +kernel
theorem dX12_copyTo_31 : decode cX12_copyTo 31 = .ok (.aload_n 0, 1) := by decide +kernel
theorem dX12_copyTo_32 : decode cX12_copyTo 32 = .ok (.getfield 72, 3) := by decide +kernel
theorem dX12_copyTo_35 : decode cX12_copyTo 35 = .ok (.sipush 251, 3) := by decide +kernel
theorem dX12_copyTo_38 : decode cX12_copyTo 38 = .ok (.iload_n 1, 1) := by decide +kernel
theorem dX12_copyTo_39 : decode cX12_copyTo 39 = .ok (.imul, 1) := by decide +kernel
theorem dX12_copyTo_40 : decode cX12_copyTo 40 = .ok (.iload 4, 2) := by decide +kernel
theorem dX12_copyTo_42 : decode cX12_copyTo 42 = .ok (.iadd, 1) := by decide +kernel
theorem dX12_copyTo_43 : decode cX12_copyTo 43 = .ok (.iaload, 1) := by decide +kernel
theorem dX12_copyTo_44 : decode cX12_copyTo 44 = .ok (.iastore, 1) := by decide +kernel
theorem dX12_copyTo_45 : decode cX12_copyTo 45 = .ok (.iinc 4 1, 3) := by decide +kernel
theorem dX12_copyTo_48 : decode cX12_copyTo 48 = .ok (.goto (-26), 3) := by decide +kernel
theorem dX12_copyTo_51 : decode cX12_copyTo 51 = .ok (.return_, 1) := by decide +kernel
theorem dX12_layNow_0 : decode cX12_layNow 0 = .ok (.aload_n 0, 1) := by decide +kernel
theorem dX12_layNow_1 : decode cX12_layNow 1 = .ok (.getfield 49, 3) := by decide +kernel
theorem dX12_layNow_4 : decode cX12_layNow 4 = .ok (.aload_n 0, 1) := by decide +kernel
theorem dX12_layNow_5 : decode cX12_layNow 5 = .ok (.getfield 52, 3) := by decide +kernel
theorem dX12_layNow_8 : decode cX12_layNow 8 = .ok (.invokestatic 414, 3) := by decide +kernel
theorem dX12_layNow_11 : decode cX12_layNow 11 = .ok (.aload_n 0, 1) := by decide +kernel
theorem dX12_layNow_12 : decode cX12_layNow 12 = .ok (.aload_n 0, 1) := by decide +kernel
theorem dX12_layNow_13 : decode cX12_layNow 13 = .ok (.getfield 52, 3) := by decide +kernel
theorem dX12_layNow_16 : decode cX12_layNow 16 = .ok (.invokevirtual 418, 3) := by decide +kernel
theorem dX12_layNow_19 : decode cX12_layNow 19 = .ok (.return_, 1) := by decide +kernel
theorem dX12_wins_0 : decode cX12_wins 0 = .ok (.aload_n 0, 1) := by decide +kernel
theorem dX12_wins_1 : decode cX12_wins 1 = .ok (.iconst 0, 1) := by decide +kernel
theorem dX12_wins_2 : decode cX12_wins 2 = .ok (.putfield 103, 3) := by decide +kernel
theorem dX12_wins_5 : decode cX12_wins 5 = .ok (.aload_n 0, 1) := by decide +kernel
theorem dX12_wins_6 : decode cX12_wins 6 = .ok (.iload_n 1, 1) := by decide +kernel
theorem dX12_wins_7 : decode cX12_wins 7 = .ok (.invokevirtual 354, 3) := by decide +kernel
theorem dX12_wins_10 : decode cX12_wins 10 = .ok (.ifCond .eq 28, 3) := by decide +kernel
theorem dX12_wins_13 : decode cX12_wins 13 = .ok (.iload_n 2, 1) := by decide +kernel
theorem dX12_wins_14 : decode cX12_wins 14 = .ok (.i2l, 1) := by decide +kernel
theorem dX12_wins_15 : decode cX12_wins 15 = .ok (.lconst 1, 1) := by decide +kernel
theorem dX12_wins_16 : decode cX12_wins 16 = .ok (.ldc2_w 336, 3) := by decide +kernel
theorem dX12_wins_19 : decode cX12_wins 19 = .ok (.invokestatic 224, 3) := by decide +kernel
theorem dX12_wins_22 : decode cX12_wins 22 = .ok (.ifCond .eq 16, 3) := by decide +kernel
theorem dX12_wins_25 : decode cX12_wins 25 = .ok (.aload_n 0, 1) := by decide +kernel
theorem dX12_wins_26 : decode cX12_wins 26 = .ok (.aload_n 0, 1) := by decide +kernel
theorem dX12_wins_27 : decode cX12_wins 27 = .ok (.getfield 49, 3) := by decide +kernel
theorem dX12_wins_30 : decode cX12_wins 30 = .ok (.invokevirtual 401, 3) := by decide +kernel
theorem dX12_wins_33 : decode cX12_wins 33 = .ok (.bipush 12, 2) := by decide +kernel
theorem dX12_wins_35 : decode cX12_wins 35 = .ok (.if_icmp .le 5, 3) := by decide +kernel
theorem dX12_wins_38 : decode cX12_wins 38 = .ok (.iconst (-1), 1) := by decide +kernel
theorem dX12_wins_39 : decode cX12_wins 39 = .ok (.ireturn, 1) := by decide +kernel
theorem dX12_wins_40 : decode cX12_wins 40 = .ok (.aload_n 0, 1) := by decide +kernel
theorem dX12_wins_41 : decode cX12_wins 41 = .ok (.invokevirtual 421, 3) := by decide +kernel
theorem dX12_wins_44 : decode cX12_wins 44 = .ok (.lconst 0, 1) := by decide +kernel
theorem dX12_wins_45 : decode cX12_wins 45 = .ok (.lstore_n 3, 1) := by decide +kernel
theorem dX12_wins_46 : decode cX12_wins 46 = .ok (.iconst 1, 1) := by decide +kernel
theorem dX12_wins_47 : decode cX12_wins 47 = .ok (.istore 5, 2) := by decide +kernel
theorem dX12_wins_49 : decode cX12_wins 49 = .ok (.iload 5, 2) := by decide +kernel
theorem dX12_wins_51 : decode cX12_wins 51 = .ok (.iload_n 2, 1) := by decide +kernel
theorem dX12_wins_52 : decode cX12_wins 52 = .ok (.if_icmp .gt 24, 3) := by decide +kernel
theorem dX12_wins_55 : decode cX12_wins 55 = .ok (.lload_n 3, 1) := by decide +kernel
theorem dX12_wins_56 : decode cX12_wins 56 = .ok (.aload_n 0, 1) := by decide +kernel
theorem dX12_wins_57 : decode cX12_wins 57 = .ok (.getfield 75, 3) := by decide +kernel
theorem dX12_wins_60 : decode cX12_wins 60 = .ok (.bipush 7, 2) := by decide +kernel
theorem dX12_wins_62 : decode cX12_wins 62 = .ok (.iload_n 1, 1) := by decide +kernel
theorem dX12_wins_63 : decode cX12_wins 63 = .ok (.imul, 1) := by decide +kernel
theorem dX12_wins_64 : decode cX12_wins 64 = .ok (.iload 5, 2) := by decide +kernel
theorem dX12_wins_66 : decode cX12_wins 66 = .ok (.iadd, 1) := by decide +kernel
theorem dX12_wins_67 : decode cX12_wins 67 = .ok (.laload, 1) := by decide +kernel
theorem dX12_wins_68 : decode cX12_wins 68 = .ok (.ladd, 1) := by decide +kernel
theorem dX12_wins_69 : decode cX12_wins 69 = .ok (.lstore_n 3, 1) := by decide +kernel
theorem dX12_wins_70 : decode cX12_wins 70 = .ok (.iinc 5 1, 3) := by decide +kernel
theorem dX12_wins_73 : decode cX12_wins 73 = .ok (.goto (-24), 3) := by decide +kernel
theorem dX12_wins_76 : decode cX12_wins 76 = .ok (.lload_n 3, 1) := by decide +kernel
theorem dX12_wins_77 : decode cX12_wins 77 = .ok (.l2i, 1) := by decide +kernel
theorem dX12_wins_78 : decode cX12_wins 78 = .ok (.ireturn, 1) := by decide +kernel
theorem dX12_mean_0 : decode cX12_mean 0 = .ok (.aload_n 0, 1) := by decide +kernel
theorem dX12_mean_1 : decode cX12_mean 1 = .ok (.iconst 0, 1) := by decide +kernel
theorem dX12_mean_2 : decode cX12_mean 2 = .ok (.putfield 103, 3) := by decide +kernel
theorem dX12_mean_5 : decode cX12_mean 5 = .ok (.aload_n 0, 1) := by decide +kernel
theorem dX12_mean_6 : decode cX12_mean 6 = .ok (.iload_n 1, 1) := by decide +kernel
theorem dX12_mean_7 : decode cX12_mean 7 = .ok (.invokevirtual 354, 3) := by decide +kernel
theorem dX12_mean_10 : decode cX12_mean 10 = .ok (.ifCond .eq 16, 3) := by decide +kernel
theorem dX12_mean_13 : decode cX12_mean 13 = .ok (.aload_n 0, 1) := by decide +kernel
theorem dX12_mean_14 : decode cX12_mean 14 = .ok (.aload_n 0, 1) := by decide +kernel
theorem dX12_mean_15 : decode cX12_mean 15 = .ok (.getfield 49, 3) := by decide +kernel
theorem dX12_mean_18 : decode cX12_mean 18 = .ok (.invokevirtual 401, 3) := by decide +kernel
theorem dX12_mean_21 : decode cX12_mean 21 = .ok (.bipush 12, 2) := by decide +kernel
theorem dX12_mean_23 : decode cX12_mean 23 = .ok (.if_icmp .le 7, 3) := by decide +kernel
theorem dX12_mean_26 : decode cX12_mean 26 = .ok (.ldc_w 376, 3) := by decide +kernel
theorem dX12_mean_29 : decode cX12_mean 29 = .ok (.ireturn, 1) := by decide +kernel
theorem dX12_mean_30 : decode cX12_mean 30 = .ok (.aload_n 0, 1) := by decide +kernel
theorem dX12_mean_31 : decode cX12_mean 31 = .ok (.invokevirtual 421, 3) := by decide +kernel
theorem dX12_mean_34 : decode cX12_mean 34 = .ok (.aload_n 0, 1) := by decide +kernel
theorem dX12_mean_35 : decode cX12_mean 35 = .ok (.getfield 78, 3) := by decide +kernel
theorem dX12_mean_38 : decode cX12_mean 38 = .ok (.iload_n 1, 1) := by decide +kernel
theorem dX12_mean_39 : decode cX12_mean 39 = .ok (.laload, 1) := by decide +kernel
theorem dX12_mean_40 : decode cX12_mean 40 = .ok (.ldc2_w 404, 3) := by decide +kernel
theorem dX12_mean_43 : decode cX12_mean 43 = .ok (.ldiv, 1) := by decide +kernel
theorem dX12_mean_44 : decode cX12_mean 44 = .ok (.l2i, 1) := by decide +kernel
theorem dX12_mean_45 : decode cX12_mean 45 = .ok (.ireturn, 1) := by decide +kernel
theorem dX12_hopes_0 : decode cX12_hopes 0 = .ok (.aload_n 0, 1) := by decide +kernel
theorem dX12_hopes_1 : decode cX12_hopes 1 = .ok (.iconst 0, 1) := by decide +kernel
theorem dX12_hopes_2 : decode cX12_hopes 2 = .ok (.putfield 103, 3) := by decide +kernel
theorem dX12_hopes_5 : decode cX12_hopes 5 = .ok (.aload_n 0, 1) := by decide +kernel
theorem dX12_hopes_6 : decode cX12_hopes 6 = .ok (.getfield 278, 3) := by decide +kernel
theorem dX12_hopes_9 : decode cX12_hopes 9 = .ok (.ifCond .eq 16, 3) := by decide +kernel
theorem dX12_hopes_12 : decode cX12_hopes 12 = .ok (.aload_n 0, 1) := by decide +kernel
theorem dX12_hopes_13 : decode cX12_hopes 13 = .ok (.aload_n 0, 1) := by decide +kernel
theorem dX12_hopes_14 : decode cX12_hopes 14 = .ok (.getfield 49, 3) := by decide +kernel
theorem dX12_hopes_17 : decode cX12_hopes 17 = .ok (.invokevirtual 401, 3) := by decide +kernel
theorem dX12_hopes_20 : decode cX12_hopes 20 = .ok (.bipush 12, 2) := by decide +kernel
theorem dX12_hopes_22 : decode cX12_hopes 22 = .ok (.if_icmp .le 5, 3) := by decide +kernel
theorem dX12_hopes_25 : decode cX12_hopes 25 = .ok (.iconst (-1), 1) := by decide +kernel
theorem dX12_hopes_26 : decode cX12_hopes 26 = .ok (.ireturn, 1) := by decide +kernel
theorem dX12_hopes_27 : decode cX12_hopes 27 = .ok (.aload_n 0, 1) := by decide +kernel
theorem dX12_hopes_28 : decode cX12_hopes 28 = .ok (.invokevirtual 421, 3) := by decide +kernel
theorem dX12_hopes_31 : decode cX12_hopes 31 = .ok (.iconst 0, 1) := by decide +kernel
theorem dX12_hopes_32 : decode cX12_hopes 32 = .ok (.istore_n 1, 1) := by decide +kernel
theorem dX12_hopes_33 : decode cX12_hopes 33 = .ok (.iconst 0, 1) := by decide +kernel
theorem dX12_hopes_34 : decode cX12_hopes 34 = .ok (.istore_n 2, 1) := by decide +kernel
theorem dX12_hopes_35 : decode cX12_hopes 35 = .ok (.iload_n 2, 1) := by decide +kernel
theorem dX12_hopes_36 : decode cX12_hopes 36 = .ok (.aload_n 0, 1) := by decide +kernel
theorem dX12_hopes_37 : decode cX12_hopes 37 = .ok (.getfield 278, 3) := by decide +kernel
theorem dX12_hopes_40 : decode cX12_hopes 40 = .ok (.if_icmp .ge 35, 3) := by decide +kernel
theorem dX12_hopes_43 : decode cX12_hopes 43 = .ok (.iload_n 1, 1) := by decide +kernel
theorem dX12_hopes_44 : decode cX12_hopes 44 = .ok (.aload_n 0, 1) := by decide +kernel
theorem dX12_hopes_45 : decode cX12_hopes 45 = .ok (.getfield 75, 3) := by decide +kernel
theorem dX12_hopes_48 : decode cX12_hopes 48 = .ok (.bipush 7, 2) := by decide +kernel
theorem dX12_hopes_50 : decode cX12_hopes 50 = .ok (.iload_n 2, 1) := by decide +kernel
theorem dX12_hopes_51 : decode cX12_hopes 51 = .ok (.imul, 1) := by decide +kernel
theorem dX12_hopes_52 : decode cX12_hopes 52 = .ok (.iconst 1, 1) := by decide +kernel
theorem dX12_hopes_53 : decode cX12_hopes 53 = .ok (.iadd, 1) := by decide +kernel
theorem dX12_hopes_54 : decode cX12_hopes 54 = .ok (.laload, 1) := by decide +kernel
theorem dX12_hopes_55 : decode cX12_hopes 55 = .ok (.lconst 0, 1) := by decide +kernel
theorem dX12_hopes_56 : decode cX12_hopes 56 = .ok (.lcmp, 1) := by decide +kernel
theorem dX12_hopes_57 : decode cX12_hopes 57 = .ok (.ifCond .le 9, 3) := by decide +kernel
theorem dX12_hopes_60 : decode cX12_hopes 60 = .ok (.iconst 1, 1) := by decide +kernel
theorem dX12_hopes_61 : decode cX12_hopes 61 = .ok (.iload_n 2, 1) := by decide +kernel
theorem dX12_hopes_62 : decode cX12_hopes 62 = .ok (.ishl, 1) := by decide +kernel
theorem dX12_hopes_63 : decode cX12_hopes 63 = .ok (.goto 4, 3) := by decide +kernel
theorem dX12_hopes_66 : decode cX12_hopes 66 = .ok (.iconst 0, 1) := by decide +kernel
theorem dX12_hopes_67 : decode cX12_hopes 67 = .ok (.ior, 1) := by decide +kernel
theorem dX12_hopes_68 : decode cX12_hopes 68 = .ok (.istore_n 1, 1) := by decide +kernel
theorem dX12_hopes_69 : decode cX12_hopes 69 = .ok (.iinc 2 1, 3) := by decide +kernel
theorem dX12_hopes_72 : decode cX12_hopes 72 = .ok (.goto (-37), 3) := by decide +kernel
theorem dX12_hopes_75 : decode cX12_hopes 75 = .ok (.iload_n 1, 1) := by decide +kernel
theorem dX12_hopes_76 : decode cX12_hopes 76 = .ok (.ireturn, 1) := by decide +kernel
theorem dX12_advice_0 : decode cX12_advice 0 = .ok (.aload_n 0, 1) := by decide +kernel
theorem dX12_advice_1 : decode cX12_advice 1 = .ok (.iconst 0, 1) := by decide +kernel
theorem dX12_advice_2 : decode cX12_advice 2 = .ok (.putfield 103, 3) := by decide +kernel
theorem dX12_advice_5 : decode cX12_advice 5 = .ok (.aload_n 0, 1) := by decide +kernel
theorem dX12_advice_6 : decode cX12_advice 6 = .ok (.iload_n 1, 1) := by decide +kernel
theorem dX12_advice_7 : decode cX12_advice 7 = .ok (.invokevirtual 354, 3) := by decide +kernel
theorem dX12_advice_10 : decode cX12_advice 10 = .ok (.ifCond .eq 38, 3) := by decide +kernel
theorem dX12_advice_13 : decode cX12_advice 13 = .ok (.aload_n 0, 1) := by decide +kernel
theorem dX12_advice_14 : decode cX12_advice 14 = .ok (.aload_n 0, 1) := by decide +kernel
theorem dX12_advice_15 : decode cX12_advice 15 = .ok (.getfield 49, 3) := by decide +kernel
theorem dX12_advice_18 : decode cX12_advice 18 = .ok (.iload_n 1, 1) := by decide +kernel
theorem dX12_advice_19 : decode cX12_advice 19 = .ok (.invokevirtual 287, 3) := by decide +kernel
theorem dX12_advice_22 : decode cX12_advice 22 = .ok (.ifCond .eq 26, 3) := by decide +kernel
theorem dX12_advice_25 : decode cX12_advice 25 = .ok (.iload_n 2, 1) := by decide +kernel
theorem dX12_advice_26 : decode cX12_advice 26 = .ok (.i2l, 1) := by decide +kernel
theorem dX12_advice_27 : decode cX12_advice 27 = .ok (.lconst 0, 1) := by decide +kernel
theorem dX12_advice_28 : decode cX12_advice 28 = .ok (.lconst 1, 1) := by decide +kernel
theorem dX12_advice_29 : decode cX12_advice 29 = .ok (.invokestatic 224, 3) := by decide +kernel
theorem dX12_advice_32 : decode cX12_advice 32 = .ok (.ifCond .eq 16, 3) := by decide +kernel
theorem dX12_advice_35 : decode cX12_advice 35 = .ok (.aload_n 0, 1) := by decide +kernel
theorem dX12_advice_36 : decode cX12_advice 36 = .ok (.aload_n 0, 1) := by decide +kernel
theorem dX12_advice_37 : decode cX12_advice 37 = .ok (.getfield 49, 3) := by decide +kernel
theorem dX12_advice_40 : decode cX12_advice 40 = .ok (.invokevirtual 401, 3) := by decide +kernel
theorem dX12_advice_43 : decode cX12_advice 43 = .ok (.bipush 8, 2) := by decide +kernel
theorem dX12_advice_45 : decode cX12_advice 45 = .ok (.if_icmp .le 7, 3) := by decide +kernel
theorem dX12_advice_48 : decode cX12_advice 48 = .ok (.ldc_w 376, 3) := by decide +kernel
theorem dX12_advice_51 : decode cX12_advice 51 = .ok (.ireturn, 1) := by decide +kernel
theorem dX12_advice_52 : decode cX12_advice 52 = .ok (.iconst (-1), 1) := by decide +kernel
theorem dX12_advice_53 : decode cX12_advice 53 = .ok (.istore_n 3, 1) := by decide +kernel
theorem dX12_advice_54 : decode cX12_advice 54 = .ok (.iconst 0, 1) := by decide +kernel
theorem dX12_advice_55 : decode cX12_advice 55 = .ok (.istore 4, 2) := by decide +kernel
theorem dX12_advice_57 : decode cX12_advice 57 = .ok (.aload_n 0, 1) := by decide +kernel
theorem dX12_advice_58 : decode cX12_advice 58 = .ok (.aload_n 0, 1) := by decide +kernel
theorem dX12_advice_59 : decode cX12_advice 59 = .ok (.getfield 49, 3) := by decide +kernel
theorem dX12_advice_62 : decode cX12_advice 62 = .ok (.iload_n 1, 1) := by decide +kernel
theorem dX12_advice_63 : decode cX12_advice 63 = .ok (.invokevirtual 386, 3) := by decide +kernel
theorem dX12_advice_66 : decode cX12_advice 66 = .ok (.istore 5, 2) := by decide +kernel
theorem dX12_advice_68 : decode cX12_advice 68 = .ok (.iload 5, 2) := by decide +kernel
theorem dX12_advice_70 : decode cX12_advice 70 = .ok (.istore 6, 2) := by decide +kernel
theorem dX12_advice_72 : decode cX12_advice 72 = .ok (.iload 6, 2) := by decide +kernel
theorem dX12_advice_74 : decode cX12_advice 74 = .ok (.iload 5, 2) := by decide +kernel
theorem dX12_advice_76 : decode cX12_advice 76 = .ok (.bipush 10, 2) := by decide +kernel
theorem dX12_advice_78 : decode cX12_advice 78 = .ok (.iadd, 1) := by decide +kernel
theorem dX12_advice_79 : decode cX12_advice 79 = .ok (.if_icmp .ge 83, 3) := by decide +kernel
theorem dX12_advice_82 : decode cX12_advice 82 = .ok (.iload 6, 2) := by decide +kernel
theorem dX12_advice_84 : decode cX12_advice 84 = .ok (.bipush 99, 2) := by decide +kernel
theorem dX12_advice_86 : decode cX12_advice 86 = .ok (.if_icmp .gt 76, 3) := by decide +kernel
theorem dX12_advice_89 : decode cX12_advice 89 = .ok (.aload_n 0, 1) := by decide +kernel
theorem dX12_advice_90 : decode cX12_advice 90 = .ok (.getfield 49, 3) := by decide +kernel
theorem dX12_advice_93 : decode cX12_advice 93 = .ok (.aload_n 0, 1) := by decide +kernel
theorem dX12_advice_94 : decode cX12_advice 94 = .ok (.getfield 52, 3) := by decide +kernel
theorem dX12_advice_97 : decode cX12_advice 97 = .ok (.invokestatic 414, 3) := by decide +kernel
theorem dX12_advice_100 : decode cX12_advice 100 = .ok (.aload_n 0, 1) := by decide +kernel
theorem dX12_advice_101 : decode cX12_advice 101 = .ok (.getfield 52, 3) := by decide +kernel
theorem dX12_advice_104 : decode cX12_advice 104 = .ok (.bipush 11, 2) := by decide +kernel
theorem dX12_advice_106 : decode cX12_advice 106 = .ok (.iload_n 1, 1) := by decide +kernel
theorem dX12_advice_107 : decode cX12_advice 107 = .ok (.imul, 1) := by decide +kernel
theorem dX12_advice_108 : decode cX12_advice 108 = .ok (.iconst 0, 1) := by decide +kernel
theorem dX12_advice_109 : decode cX12_advice 109 = .ok (.iadd, 1) := by decide +kernel
theorem dX12_advice_110 : decode cX12_advice 110 = .ok (.iload 6, 2) := by decide +kernel
theorem dX12_advice_112 : decode cX12_advice 112 = .ok (.iastore, 1) := by decide +kernel
theorem dX12_advice_113 : decode cX12_advice 113 = .ok (.aload_n 0, 1) := by decide +kernel
theorem dX12_advice_114 : decode cX12_advice 114 = .ok (.aload_n 0, 1) := by decide +kernel
theorem dX12_advice_115 : decode cX12_advice 115 = .ok (.getfield 52, 3) := by decide +kernel
theorem dX12_advice_118 : decode cX12_advice 118 = .ok (.invokevirtual 418, 3) := by decide +kernel
theorem dX12_advice_121 : decode cX12_advice 121 = .ok (.aload_n 0, 1) := by decide +kernel
theorem dX12_advice_122 : decode cX12_advice 122 = .ok (.getfield 78, 3) := by decide +kernel
theorem dX12_advice_125 : decode cX12_advice 125 = .ok (.iload_n 1, 1) := by decide +kernel
theorem dX12_advice_126 : decode cX12_advice 126 = .ok (.laload, 1) := by decide +kernel
theorem dX12_advice_127 : decode cX12_advice 127 = .ok (.ldc2_w 404, 3) := by decide +kernel
theorem dX12_advice_130 : decode cX12_advice 130 = .ok (.ldiv, 1) := by decide +kernel
theorem dX12_advice_131 : decode cX12_advice 131 = .ok (.l2i, 1) := by decide +kernel
theorem dX12_advice_132 : decode cX12_advice 132 = .ok (.istore 7, 2) := by decide +kernel
theorem dX12_advice_134 : decode cX12_advice 134 = .ok (.iload_n 3, 1) := by decide +kernel
theorem dX12_advice_135 : decode cX12_advice 135 = .ok (.iconst (-1), 1) := by decide +kernel
theorem dX12_advice_136 : decode cX12_advice 136 = .ok (.if_icmp .eq 13, 3) := by decide +kernel
theorem dX12_advice_139 : decode cX12_advice 139 = .ok (.iload 7, 2) := by decide +kernel
theorem dX12_advice_141 : decode cX12_advice 141 = .ok (.iload 4, 2) := by decide +kernel
theorem dX12_advice_143 : decode cX12_advice 143 = .ok (.if_icmp .gt 6, 3) := by decide +kernel
theorem dX12_advice_146 : decode cX12_advice 146 = .ok (.goto 10, 3) := by decide +kernel
theorem dX12_advice_149 : decode cX12_advice 149 = .ok (.iload 6, 2) := by decide +kernel
theorem dX12_advice_151 : decode cX12_advice 151 = .ok (.istore_n 3, 1) := by decide +kernel
theorem dX12_advice_152 : decode cX12_advice 152 = .ok (.iload 7, 2) := by decide +kernel
theorem dX12_advice_154 : decode cX12_advice 154 = .ok (.istore 4, 2) := by decide +kernel
theorem dX12_advice_156 : decode cX12_advice 156 = .ok (.iinc 6 1, 3) := by decide +kernel
theorem dX12_advice_159 : decode cX12_advice 159 = .ok (.goto (-87), 3) := by decide +kernel
theorem dX12_advice_162 : decode cX12_advice 162 = .ok (.iload_n 2, 1) := by decide +kernel
theorem dX12_advice_163 : decode cX12_advice 163 = .ok (.ifCond .ne 7, 3) := by decide +kernel
theorem dX12_advice_166 : decode cX12_advice 166 = .ok (.iload_n 3, 1) := by decide +kernel
theorem dX12_advice_167 : decode cX12_advice 167 = .ok (.goto 5, 3) := by decide +kernel
theorem dX12_advice_170 : decode cX12_advice 170 = .ok (.iload 4, 2) := by decide +kernel
theorem dX12_advice_172 : decode cX12_advice 172 = .ok (.ireturn, 1) := by decide +kernel
theorem dX12_isGame_0 : decode cX12_isGame 0 = .ok (.aload_n 0, 1) := by decide +kernel
theorem dX12_isGame_1 : decode cX12_isGame 1 = .ok (.iconst 0, 1) := by decide +kernel
theorem dX12_isGame_2 : decode cX12_isGame 2 = .ok (.putfield 424, 3) := by decide +kernel
theorem dX12_isGame_5 : decode cX12_isGame 5 = .ok (.iconst 0, 1) := by decide +kernel
theorem dX12_isGame_6 : decode cX12_isGame 6 = .ok (.istore_n 1, 1) := by decide +kernel
theorem dX12_isGame_7 : decode cX12_isGame 7 = .ok (.iload_n 1, 1) := by decide +kernel
theorem dX12_isGame_8 : decode cX12_isGame 8 = .ok (.aload_n 0, 1) := by decide +kernel
theorem dX12_isGame_9 : decode cX12_isGame 9 = .ok (.getfield 278, 3) := by decide +kernel
theorem dX12_isGame_12 : decode cX12_isGame 12 = .ok (.if_icmp .ge 68, 3) := by decide +kernel
theorem dX12_isGame_15 : decode cX12_isGame 15 = .ok (.aload_n 0, 1) := by decide +kernel
theorem dX12_isGame_16 : decode cX12_isGame 16 = .ok (.aload_n 0, 1) := by decide +kernel
theorem dX12_isGame_17 : decode cX12_isGame 17 = .ok (.getfield 49, 3) := by decide +kernel
theorem dX12_isGame_20 : decode cX12_isGame 20 = .ok (.iload_n 1, 1) := by decide +kernel
theorem dX12_isGame_21 : decode cX12_isGame 21 = .ok (.invokevirtual 287, 3) := by decide +kernel
theorem dX12_isGame_24 : decode cX12_isGame 24 = .ok (.ifCond .ne 6, 3) := by decide +kernel
theorem dX12_isGame_27 : decode cX12_isGame 27 = .ok (.goto 47, 3) := by decide +kernel
theorem dX12_isGame_30 : decode cX12_isGame 30 = .ok (.aload_n 0, 1) := by decide +kernel
theorem dX12_isGame_31 : decode cX12_isGame 31 = .ok (.getfield 49, 3) := by decide +kernel
theorem dX12_isGame_34 : decode cX12_isGame 34 = .ok (.bipush 11, 2) := by decide +kernel
theorem dX12_isGame_36 : decode cX12_isGame 36 = .ok (.iload_n 1, 1) := by decide +kernel
theorem dX12_isGame_37 : decode cX12_isGame 37 = .ok (.imul, 1) := by decide +kernel
theorem dX12_isGame_38 : decode cX12_isGame 38 = .ok (.iconst 1, 1) := by decide +kernel
theorem dX12_isGame_39 : decode cX12_isGame 39 = .ok (.iadd, 1) := by decide +kernel
theorem dX12_isGame_40 : decode cX12_isGame 40 = .ok (.iaload, 1) := by decide +kernel
theorem dX12_isGame_41 : decode cX12_isGame 41 = .ok (.aload_n 0, 1) := by decide +kernel
theorem dX12_isGame_42 : decode cX12_isGame 42 = .ok (.getfield 43, 3) := by decide +kernel
theorem dX12_isGame_45 : decode cX12_isGame 45 = .ok (.iconst 1, 1) := by decide +kernel
theorem dX12_isGame_46 : decode cX12_isGame 46 = .ok (.iaload, 1) := by decide +kernel
theorem dX12_isGame_47 : decode cX12_isGame 47 = .ok (.iconst 1, 1) := by decide +kernel
theorem dX12_isGame_48 : decode cX12_isGame 48 = .ok (.isub, 1) := by decide +kernel
theorem dX12_isGame_49 : decode cX12_isGame 49 = .ok (.if_icmp .eq 5, 3) := by decide +kernel
theorem dX12_isGame_52 : decode cX12_isGame 52 = .ok (.iconst 0, 1) := by decide +kernel
theorem dX12_isGame_53 : decode cX12_isGame 53 = .ok (.ireturn, 1) := by decide +kernel
theorem dX12_isGame_54 : decode cX12_isGame 54 = .ok (.aload_n 0, 1) := by decide +kernel
theorem dX12_isGame_55 : decode cX12_isGame 55 = .ok (.getfield 84, 3) := by decide +kernel
theorem dX12_isGame_58 : decode cX12_isGame 58 = .ok (.aload_n 0, 1) := by decide +kernel
theorem dX12_isGame_59 : decode cX12_isGame 59 = .ok (.getfield 424, 3) := by decide +kernel
theorem dX12_isGame_62 : decode cX12_isGame 62 = .ok (.iload_n 1, 1) := by decide +kernel
theorem dX12_isGame_63 : decode cX12_isGame 63 = .ok (.iastore, 1) := by decide +kernel
theorem dX12_isGame_64 : decode cX12_isGame 64 = .ok (.aload_n 0, 1) := by decide +kernel
theorem dX12_isGame_65 : decode cX12_isGame 65 = .ok (.dup, 1) := by decide +kernel
theorem dX12_isGame_66 : decode cX12_isGame 66 = .ok (.getfield 424, 3) := by decide +kernel
theorem dX12_isGame_69 : decode cX12_isGame 69 = .ok (.iconst 1, 1) := by decide +kernel
theorem dX12_isGame_70 : decode cX12_isGame 70 = .ok (.iadd, 1) := by decide +kernel
theorem dX12_isGame_71 : decode cX12_isGame 71 = .ok (.putfield 424, 3) := by decide +kernel
theorem dX12_isGame_74 : decode cX12_isGame 74 = .ok (.iinc 1 1, 3) := by decide +kernel
theorem dX12_isGame_77 : decode cX12_isGame 77 = .ok (.goto (-70), 3) := by decide +kernel
theorem dX12_isGame_80 : decode cX12_isGame 80 = .ok (.aload_n 0, 1) := by decide +kernel
theorem dX12_isGame_81 : decode cX12_isGame 81 = .ok (.getfield 49, 3) := by decide +kernel
theorem dX12_isGame_84 : decode cX12_isGame 84 = .ok (.bipush 66, 2) := by decide +kernel
theorem dX12_isGame_86 : decode cX12_isGame 86 = .ok (.iaload, 1) := by decide +kernel
theorem dX12_isGame_87 : decode cX12_isGame 87 = .ok (.iconst 1, 1) := by decide +kernel
theorem dX12_isGame_88 : decode cX12_isGame 88 = .ok (.if_icmp .ne 22, 3) := by decide +kernel
theorem dX12_isGame_91 : decode cX12_isGame 91 = .ok (.aload_n 0, 1) := by decide +kernel
theorem dX12_isGame_92 : decode cX12_isGame 92 = .ok (.getfield 424, 3) := by decide +kernel
theorem dX12_isGame_95 : decode cX12_isGame 95 = .ok (.ifCond .le 15, 3) := by decide +kernel
theorem dX12_isGame_98 : decode cX12_isGame 98 = .ok (.aload_n 0, 1) := by decide +kernel
theorem dX12_isGame_99 : decode cX12_isGame 99 = .ok (.getfield 424, 3) := by decide +kernel
theorem dX12_isGame_102 : decode cX12_isGame 102 = .ok (.iconst 4, 1) := by decide +kernel
theorem dX12_isGame_103 : decode cX12_isGame 103 = .ok (.if_icmp .ge 7, 3) := by decide +kernel
theorem dX12_isGame_106 : decode cX12_isGame 106 = .ok (.iconst 1, 1) := by decide +kernel
theorem dX12_isGame_107 : decode cX12_isGame 107 = .ok (.goto 4, 3) := by decide +kernel
theorem dX12_isGame_110 : decode cX12_isGame 110 = .ok (.iconst 0, 1) := by decide +kernel
theorem dX12_isGame_111 : decode cX12_isGame 111 = .ok (.ireturn, 1) := by decide +kernel
theorem dX12_fours_0 : decode cX12_fours 0 = .ok (.iconst 1, 1) := by decide +kernel
theorem dX12_fours_1 : decode cX12_fours 1 = .ok (.iconst 2, 1) := by decide +kernel
theorem dX12_fours_2 : decode cX12_fours 2 = .ok (.iload_n 0, 1) := by decide +kernel
theorem dX12_fours_3 : decode cX12_fours 3 = .ok (.imul, 1) := by decide +kernel
theorem dX12_fours_4 : decode cX12_fours 4 = .ok (.ishl, 1) := by decide +kernel
theorem dX12_fours_5 : decode cX12_fours 5 = .ok (.ireturn, 1) := by decide +kernel
theorem dX12_choiceOf_0 : decode cX12_choiceOf 0 = .ok (.iload_n 1, 1) := by decide +kernel
theorem dX12_choiceOf_1 : decode cX12_choiceOf 1 = .ok (.iconst 2, 1) := by decide +kernel
theorem dX12_choiceOf_2 : decode cX12_choiceOf 2 = .ok (.aload_n 0, 1) := by decide +kernel
theorem dX12_choiceOf_3 : decode cX12_choiceOf 3 = .ok (.getfield 424, 3) := by decide +kernel
theorem dX12_choiceOf_6 : decode cX12_choiceOf 6 = .ok (.iconst 1, 1) := by decide +kernel
theorem dX12_choiceOf_7 : decode cX12_choiceOf 7 = .ok (.isub, 1) := by decide +kernel
theorem dX12_choiceOf_8 : decode cX12_choiceOf 8 = .ok (.iload_n 2, 1) := by decide +kernel
theorem dX12_choiceOf_9 : decode cX12_choiceOf 9 = .ok (.isub, 1) := by decide +kernel
theorem dX12_choiceOf_10 : decode cX12_choiceOf 10 = .ok (.imul, 1) := by decide +kernel
theorem dX12_choiceOf_11 : decode cX12_choiceOf 11 = .ok (.ishr, 1) := by decide +kernel
theorem dX12_choiceOf_12 : decode cX12_choiceOf 12 = .ok (.iconst 3, 1) := by decide +kernel
theorem dX12_choiceOf_13 : decode cX12_choiceOf 13 = .ok (.iand, 1) := by decide +kernel
theorem dX12_choiceOf_14 : decode cX12_choiceOf 14 = .ok (.ireturn, 1) := by decide +kernel
theorem dX12_layGame_0 : decode cX12_layGame 0 = .ok (.iconst 0, 1) := by decide +kernel
theorem dX12_layGame_1 : decode cX12_layGame 1 = .ok (.istore_n 1, 1) := by decide +kernel
theorem dX12_layGame_2 : decode cX12_layGame 2 = .ok (.iload_n 1, 1) := by decide +kernel
theorem dX12_layGame_3 : decode cX12_layGame 3 = .ok (.aload_n 0, 1) := by decide +kernel
theorem dX12_layGame_4 : decode cX12_layGame 4 = .ok (.getfield 424, 3) := by decide +kernel
theorem dX12_layGame_7 : decode cX12_layGame 7 = .ok (.invokestatic 427, 3) := by decide +kernel
theorem dX12_layGame_10 : decode cX12_layGame 10 = .ok (.if_icmp .ge 128, 3) := by decide +kernel
theorem dX12_layGame_13 : decode cX12_layGame 13 = .ok (.aload_n 0, 1) := by decide +kernel
theorem dX12_layGame_14 : decode cX12_layGame 14 = .ok (.getfield 49, 3) := by decide +kernel
theorem dX12_layGame_17 : decode cX12_layGame 17 = .ok (.aload_n 0, 1) := by decide +kernel
theorem dX12_layGame_18 : decode cX12_layGame 18 = .ok (.getfield 52, 3) := by decide +kernel
theorem dX12_layGame_21 : decode cX12_layGame 21 = .ok (.invokestatic 414, 3) := by decide +kernel
theorem dX12_layGame_24 : decode cX12_layGame 24 = .ok (.iconst 0, 1) := by decide +kernel
theorem dX12_layGame_25 : decode cX12_layGame 25 = .ok (.istore_n 2, 1) := by decide +kernel
theorem dX12_layGame_26 : decode cX12_layGame 26 = .ok (.iload_n 2, 1) := by decide +kernel
theorem dX12_layGame_27 : decode cX12_layGame 27 = .ok (.aload_n 0, 1) := by decide +kernel
theorem dX12_layGame_28 : decode cX12_layGame 28 = .ok (.getfield 424, 3) := by decide +kernel
theorem dX12_layGame_31 : decode cX12_layGame 31 = .ok (.if_icmp .ge 51, 3) := by decide +kernel
theorem dX12_layGame_34 : decode cX12_layGame 34 = .ok (.aload_n 0, 1) := by decide +kernel
theorem dX12_layGame_35 : decode cX12_layGame 35 = .ok (.getfield 52, 3) := by decide +kernel
theorem dX12_layGame_38 : decode cX12_layGame 38 = .ok (.bipush 11, 2) := by decide +kernel
theorem dX12_layGame_40 : decode cX12_layGame 40 = .ok (.aload_n 0, 1) := by decide +kernel
theorem dX12_layGame_41 : decode cX12_layGame 41 = .ok (.getfield 84, 3) := by decide +kernel
theorem dX12_layGame_44 : decode cX12_layGame 44 = .ok (.iload_n 2, 1) := by decide +kernel
theorem dX12_layGame_45 : decode cX12_layGame 45 = .ok (.iaload, 1) := by decide +kernel
theorem dX12_layGame_46 : decode cX12_layGame 46 = .ok (.imul, 1) := by decide +kernel
theorem dX12_layGame_47 : decode cX12_layGame 47 = .ok (.iconst 0, 1) := by decide +kernel
theorem dX12_layGame_48 : decode cX12_layGame 48 = .ok (.iadd, 1) := by decide +kernel
theorem dX12_layGame_49 : decode cX12_layGame 49 = .ok (.bipush 99, 2) := by decide +kernel
theorem dX12_layGame_51 : decode cX12_layGame 51 = .ok (.aload_n 0, 1) := by decide +kernel
theorem dX12_layGame_52 : decode cX12_layGame 52 = .ok (.aload_n 0, 1) := by decide +kernel
theorem dX12_layGame_53 : decode cX12_layGame 53 = .ok (.getfield 49, 3) := by decide +kernel
theorem dX12_layGame_56 : decode cX12_layGame 56 = .ok (.aload_n 0, 1) := by decide +kernel
theorem dX12_layGame_57 : decode cX12_layGame 57 = .ok (.getfield 84, 3) := by decide +kernel
theorem dX12_layGame_60 : decode cX12_layGame 60 = .ok (.iload_n 2, 1) := by decide +kernel
theorem dX12_layGame_61 : decode cX12_layGame 61 = .ok (.iaload, 1) := by decide +kernel
theorem dX12_layGame_62 : decode cX12_layGame 62 = .ok (.invokevirtual 386, 3) := by decide +kernel
theorem dX12_layGame_65 : decode cX12_layGame 65 = .ok (.aload_n 0, 1) := by decide +kernel
theorem dX12_layGame_66 : decode cX12_layGame 66 = .ok (.iload_n 1, 1) := by decide +kernel
theorem dX12_layGame_67 : decode cX12_layGame 67 = .ok (.iload_n 2, 1) := by decide +kernel
theorem dX12_layGame_68 : decode cX12_layGame 68 = .ok (.invokevirtual 430, 3) := by decide +kernel
theorem dX12_layGame_71 : decode cX12_layGame 71 = .ok (.iadd, 1) := by decide +kernel
theorem dX12_layGame_72 : decode cX12_layGame 72 = .ok (.invokestatic 309, 3) := by decide +kernel
theorem dX12_layGame_75 : decode cX12_layGame 75 = .ok (.iastore, 1) := by decide +kernel
theorem dX12_layGame_76 : decode cX12_layGame 76 = .ok (.iinc 2 1, 3) := by decide +kernel
theorem dX12_layGame_79 : decode cX12_layGame 79 = .ok (.goto (-53), 3) := by decide +kernel
theorem dX12_layGame_82 : decode cX12_layGame 82 = .ok (.aload_n 0, 1) := by decide +kernel
theorem dX12_layGame_83 : decode cX12_layGame 83 = .ok (.aload_n 0, 1) := by decide +kernel
theorem dX12_layGame_84 : decode cX12_layGame 84 = .ok (.getfield 52, 3) := by decide +kernel
theorem dX12_layGame_87 : decode cX12_layGame 87 = .ok (.invokevirtual 418, 3) := by decide +kernel
theorem dX12_layGame_90 : decode cX12_layGame 90 = .ok (.iconst 0, 1) := by decide +kernel
theorem dX12_layGame_91 : decode cX12_layGame 91 = .ok (.istore_n 2, 1) := by decide +kernel
theorem dX12_layGame_92 : decode cX12_layGame 92 = .ok (.iload_n 2, 1) := by decide +kernel
theorem dX12_layGame_93 : decode cX12_layGame 93 = .ok (.aload_n 0, 1) := by decide +kernel
theorem dX12_layGame_94 : decode cX12_layGame 94 = .ok (.getfield 424, 3) := by decide +kernel
theorem dX12_layGame_97 : decode cX12_layGame 97 = .ok (.if_icmp .ge 35, 3) := by decide +kernel
theorem dX12_layGame_100 : decode cX12_layGame 100 = .ok (.aload_n 0, 1) := by decide +kernel
theorem dX12_layGame_101 : decode cX12_layGame 101 = .ok (.getfield 87, 3) := by decide +kernel
theorem dX12_layGame_104 : decode cX12_layGame 104 = .ok (.iconst 3, 1) := by decide +kernel
theorem dX12_layGame_105 : decode cX12_layGame 105 = .ok (.iload_n 1, 1) := by decide +kernel
theorem dX12_layGame_106 : decode cX12_layGame 106 = .ok (.imul, 1) := by decide +kernel
theorem dX12_layGame_107 : decode cX12_layGame 107 = .ok (.iload_n 2, 1) := by decide +kernel
theorem dX12_layGame_108 : decode cX12_layGame 108 = .ok (.iadd, 1) := by decide +kernel
theorem dX12_layGame_109 : decode cX12_layGame 109 = .ok (.aload_n 0, 1) := by decide +kernel
theorem dX12_layGame_110 : decode cX12_layGame 110 = .ok (.getfield 78, 3) := by decide +kernel
theorem dX12_layGame_113 : decode cX12_layGame 113 = .ok (.aload_n 0, 1) := by decide +kernel
theorem dX12_layGame_114 : decode cX12_layGame 114 = .ok (.getfield 84, 3) := by decide +kernel
theorem dX12_layGame_117 : decode cX12_layGame 117 = .ok (.iload_n 2, 1) := by decide +kernel
theorem dX12_layGame_118 : decode cX12_layGame 118 = .ok (.iaload, 1) := by decide +kernel
theorem dX12_layGame_119 : decode cX12_layGame 119 = .ok (.laload, 1) := by decide +kernel
theorem dX12_layGame_120 : decode cX12_layGame 120 = .ok (.ldc2_w 404, 3) := by decide +kernel
theorem dX12_layGame_123 : decode cX12_layGame 123 = .ok (.ldiv, 1) := by decide +kernel
theorem dX12_layGame_124 : decode cX12_layGame 124 = .ok (.l2i, 1) := by decide +kernel
theorem dX12_layGame_125 : decode cX12_layGame 125 = .ok (.iastore, 1) := by decide +kernel
theorem dX12_layGame_126 : decode cX12_layGame 126 = .ok (.iinc 2 1, 3) := by decide +kernel
theorem dX12_layGame_129 : decode cX12_layGame 129 = .ok (.goto (-37), 3) := by decide +kernel
theorem dX12_layGame_132 : decode cX12_layGame 132 = .ok (.iinc 1 1, 3) := by decide +kernel
theorem dX12_layGame_135 : decode cX12_layGame 135 = .ok (.goto (-133), 3) := by decide +kernel
theorem dX12_layGame_138 : decode cX12_layGame 138 = .ok (.return_, 1) := by decide +kernel
theorem dX12_isRest_0 : decode cX12_isRest 0 = .ok (.iconst 0, 1) := by decide +kernel
theorem dX12_isRest_1 : decode cX12_isRest 1 = .ok (.istore_n 2, 1) := by decide +kernel
theorem dX12_isRest_2 : decode cX12_isRest 2 = .ok (.iload_n 2, 1) := by decide +kernel
theorem dX12_isRest_3 : decode cX12_isRest 3 = .ok (.aload_n 0, 1) := by decide +kernel
theorem dX12_isRest_4 : decode cX12_isRest 4 = .ok (.getfield 424, 3) := by decide +kernel
theorem dX12_isRest_7 : decode cX12_isRest 7 = .ok (.if_icmp .ge 73, 3) := by decide +kernel
theorem dX12_isRest_10 : decode cX12_isRest 10 = .ok (.aload_n 0, 1) := by decide +kernel
theorem dX12_isRest_11 : decode cX12_isRest 11 = .ok (.getfield 424, 3) := by decide +kernel
theorem dX12_isRest_14 : decode cX12_isRest 14 = .ok (.iconst 1, 1) := by decide +kernel
theorem dX12_isRest_15 : decode cX12_isRest 15 = .ok (.isub, 1) := by decide +kernel
theorem dX12_isRest_16 : decode cX12_isRest 16 = .ok (.iload_n 2, 1) := by decide +kernel
theorem dX12_isRest_17 : decode cX12_isRest 17 = .ok (.isub, 1) := by decide +kernel
theorem dX12_isRest_18 : decode cX12_isRest 18 = .ok (.invokestatic 427, 3) := by decide +kernel
theorem dX12_isRest_21 : decode cX12_isRest 21 = .ok (.istore_n 3, 1) := by decide +kernel
theorem dX12_isRest_22 : decode cX12_isRest 22 = .ok (.iconst 0, 1) := by decide +kernel
theorem dX12_isRest_23 : decode cX12_isRest 23 = .ok (.istore 4, 2) := by decide +kernel
theorem dX12_isRest_25 : decode cX12_isRest 25 = .ok (.iload 4, 2) := by decide +kernel
theorem dX12_isRest_27 : decode cX12_isRest 27 = .ok (.iconst 4, 1) := by decide +kernel
theorem dX12_isRest_28 : decode cX12_isRest 28 = .ok (.if_icmp .ge 46, 3) := by decide +kernel
theorem dX12_isRest_31 : decode cX12_isRest 31 = .ok (.aload_n 0, 1) := by decide +kernel
theorem dX12_isRest_32 : decode cX12_isRest 32 = .ok (.getfield 87, 3) := by decide +kernel
theorem dX12_isRest_35 : decode cX12_isRest 35 = .ok (.iconst 3, 1) := by decide +kernel
theorem dX12_isRest_36 : decode cX12_isRest 36 = .ok (.iload_n 1, 1) := by decide +kernel
theorem dX12_isRest_37 : decode cX12_isRest 37 = .ok (.iload 4, 2) := by decide +kernel
theorem dX12_isRest_39 : decode cX12_isRest 39 = .ok (.aload_n 0, 1) := by decide +kernel
theorem dX12_isRest_40 : decode cX12_isRest 40 = .ok (.iload_n 1, 1) := by decide +kernel
theorem dX12_isRest_41 : decode cX12_isRest 41 = .ok (.iload_n 2, 1) := by decide +kernel
theorem dX12_isRest_42 : decode cX12_isRest 42 = .ok (.invokevirtual 430, 3) := by decide +kernel
theorem dX12_isRest_45 : decode cX12_isRest 45 = .ok (.isub, 1) := by decide +kernel
theorem dX12_isRest_46 : decode cX12_isRest 46 = .ok (.iload_n 3, 1) := by decide +kernel
theorem dX12_isRest_47 : decode cX12_isRest 47 = .ok (.imul, 1) := by decide +kernel
theorem dX12_isRest_48 : decode cX12_isRest 48 = .ok (.iadd, 1) := by decide +kernel
theorem dX12_isRest_49 : decode cX12_isRest 49 = .ok (.imul, 1) := by decide +kernel
theorem dX12_isRest_50 : decode cX12_isRest 50 = .ok (.iload_n 2, 1) := by decide +kernel
theorem dX12_isRest_51 : decode cX12_isRest 51 = .ok (.iadd, 1) := by decide +kernel
theorem dX12_isRest_52 : decode cX12_isRest 52 = .ok (.iaload, 1) := by decide +kernel
theorem dX12_isRest_53 : decode cX12_isRest 53 = .ok (.aload_n 0, 1) := by decide +kernel
theorem dX12_isRest_54 : decode cX12_isRest 54 = .ok (.getfield 87, 3) := by decide +kernel
theorem dX12_isRest_57 : decode cX12_isRest 57 = .ok (.iconst 3, 1) := by decide +kernel
theorem dX12_isRest_58 : decode cX12_isRest 58 = .ok (.iload_n 1, 1) := by decide +kernel
theorem dX12_isRest_59 : decode cX12_isRest 59 = .ok (.imul, 1) := by decide +kernel
theorem dX12_isRest_60 : decode cX12_isRest 60 = .ok (.iload_n 2, 1) := by decide +kernel
theorem dX12_isRest_61 : decode cX12_isRest 61 = .ok (.iadd, 1) := by decide +kernel
theorem dX12_isRest_62 : decode cX12_isRest 62 = .ok (.iaload, 1) := by decide +kernel
theorem dX12_isRest_63 : decode cX12_isRest 63 = .ok (.if_icmp .le 5, 3) := by decide +kernel
theorem dX12_isRest_66 : decode cX12_isRest 66 = .ok (.iconst 0, 1) := by decide +kernel
theorem dX12_isRest_67 : decode cX12_isRest 67 = .ok (.ireturn, 1) := by decide +kernel
theorem dX12_isRest_68 : decode cX12_isRest 68 = .ok (.iinc 4 1, 3) := by decide +kernel
theorem dX12_isRest_71 : decode cX12_isRest 71 = .ok (.goto (-46), 3) := by decide +kernel
theorem dX12_isRest_74 : decode cX12_isRest 74 = .ok (.iinc 2 1, 3) := by decide +kernel
theorem dX12_isRest_77 : decode cX12_isRest 77 = .ok (.goto (-75), 3) := by decide +kernel
theorem dX12_isRest_80 : decode cX12_isRest 80 = .ok (.iconst 1, 1) := by decide +kernel
theorem dX12_isRest_81 : decode cX12_isRest 81 = .ok (.ireturn, 1) := by decide +kernel
theorem dX12_rests_0 : decode cX12_rests 0 = .ok (.aload_n 0, 1) := by decide +kernel
theorem dX12_rests_1 : decode cX12_rests 1 = .ok (.iconst 0, 1) := by decide +kernel
theorem dX12_rests_2 : decode cX12_rests 2 = .ok (.putfield 103, 3) := by decide +kernel
theorem dX12_rests_5 : decode cX12_rests 5 = .ok (.aload_n 0, 1) := by decide +kernel
theorem dX12_rests_6 : decode cX12_rests 6 = .ok (.invokevirtual 433, 3) := by decide +kernel
theorem dX12_rests_9 : decode cX12_rests 9 = .ok (.ifCond .ne 7, 3) := by decide +kernel
theorem dX12_rests_12 : decode cX12_rests 12 = .ok (.ldc_w 376, 3) := by decide +kernel
theorem dX12_rests_15 : decode cX12_rests 15 = .ok (.ireturn, 1) := by decide +kernel
theorem dX12_rests_16 : decode cX12_rests 16 = .ok (.iload_n 1, 1) := by decide +kernel
theorem dX12_rests_17 : decode cX12_rests 17 = .ok (.iconst (-1), 1) := by decide +kernel
theorem dX12_rests_18 : decode cX12_rests 18 = .ok (.if_icmp .ge 5, 3) := by decide +kernel
theorem dX12_rests_21 : decode cX12_rests 21 = .ok (.iconst (-1), 1) := by decide +kernel
theorem dX12_rests_22 : decode cX12_rests 22 = .ok (.ireturn, 1) := by decide +kernel
theorem dX12_rests_23 : decode cX12_rests 23 = .ok (.aload_n 0, 1) := by decide +kernel
theorem dX12_rests_24 : decode cX12_rests 24 = .ok (.invokevirtual 436, 3) := by decide +kernel
theorem dX12_rests_27 : decode cX12_rests 27 = .ok (.iconst 0, 1) := by decide +kernel
theorem dX12_rests_28 : decode cX12_rests 28 = .ok (.istore_n 2, 1) := by decide +kernel
theorem dX12_rests_29 : decode cX12_rests 29 = .ok (.iconst 0, 1) := by decide +kernel
theorem dX12_rests_30 : decode cX12_rests 30 = .ok (.istore_n 3, 1) := by decide +kernel
theorem dX12_rests_31 : decode cX12_rests 31 = .ok (.iload_n 3, 1) := by decide +kernel
theorem dX12_rests_32 : decode cX12_rests 32 = .ok (.aload_n 0, 1) := by decide +kernel
theorem dX12_rests_33 : decode cX12_rests 33 = .ok (.getfield 424, 3) := by decide +kernel
theorem dX12_rests_36 : decode cX12_rests 36 = .ok (.invokestatic 427, 3) := by decide +kernel
theorem dX12_rests_39 : decode cX12_rests 39 = .ok (.if_icmp .ge 67, 3) := by decide +kernel
theorem dX12_rests_42 : decode cX12_rests 42 = .ok (.aload_n 0, 1) := by decide +kernel
theorem dX12_rests_43 : decode cX12_rests 43 = .ok (.iload_n 3, 1) := by decide +kernel
theorem dX12_rests_44 : decode cX12_rests 44 = .ok (.invokevirtual 439, 3) := by decide +kernel
theorem dX12_rests_47 : decode cX12_rests 47 = .ok (.ifCond .ne 6, 3) := by decide +kernel
theorem dX12_rests_50 : decode cX12_rests 50 = .ok (.goto 50, 3) := by decide +kernel
theorem dX12_rests_53 : decode cX12_rests 53 = .ok (.iload_n 2, 1) := by decide +kernel
theorem dX12_rests_54 : decode cX12_rests 54 = .ok (.iload_n 1, 1) := by decide +kernel
theorem dX12_rests_55 : decode cX12_rests 55 = .ok (.if_icmp .ne 42, 3) := by decide +kernel
theorem dX12_rests_58 : decode cX12_rests 58 = .ok (.iconst 0, 1) := by decide +kernel
theorem dX12_rests_59 : decode cX12_rests 59 = .ok (.istore 4, 2) := by decide +kernel
theorem dX12_rests_61 : decode cX12_rests 61 = .ok (.iconst 0, 1) := by decide +kernel
theorem dX12_rests_62 : decode cX12_rests 62 = .ok (.istore 5, 2) := by decide +kernel
theorem dX12_rests_64 : decode cX12_rests 64 = .ok (.iload 5, 2) := by decide +kernel
theorem dX12_rests_66 : decode cX12_rests 66 = .ok (.aload_n 0, 1) := by decide +kernel
theorem dX12_rests_67 : decode cX12_rests 67 = .ok (.getfield 424, 3) := by decide +kernel
theorem dX12_rests_70 : decode cX12_rests 70 = .ok (.if_icmp .ge 24, 3) := by decide +kernel
theorem dX12_rests_73 : decode cX12_rests 73 = .ok (.bipush 10, 2) := by decide +kernel
theorem dX12_rests_75 : decode cX12_rests 75 = .ok (.iload 4, 2) := by decide +kernel
theorem dX12_rests_77 : decode cX12_rests 77 = .ok (.imul, 1) := by decide +kernel
theorem dX12_rests_78 : decode cX12_rests 78 = .ok (.aload_n 0, 1) := by decide +kernel
theorem dX12_rests_79 : decode cX12_rests 79 = .ok (.iload_n 3, 1) := by decide +kernel
theorem dX12_rests_80 : decode cX12_rests 80 = .ok (.iload 5, 2) := by decide +kernel
theorem dX12_rests_82 : decode cX12_rests 82 = .ok (.invokevirtual 430, 3) := by decide +kernel
theorem dX12_rests_85 : decode cX12_rests 85 = .ok (.iadd, 1) := by decide +kernel
theorem dX12_rests_86 : decode cX12_rests 86 = .ok (.istore 4, 2) := by decide +kernel
theorem dX12_rests_88 : decode cX12_rests 88 = .ok (.iinc 5 1, 3) := by decide +kernel
theorem dX12_rests_91 : decode cX12_rests 91 = .ok (.goto (-27), 3) := by decide +kernel
theorem dX12_rests_94 : decode cX12_rests 94 = .ok (.iload 4, 2) := by decide +kernel
theorem dX12_rests_96 : decode cX12_rests 96 = .ok (.ireturn, 1) := by decide +kernel
theorem dX12_rests_97 : decode cX12_rests 97 = .ok (.iinc 2 1, 3) := by decide +kernel
theorem dX12_rests_100 : decode cX12_rests 100 = .ok (.iinc 3 1, 3) := by decide +kernel
theorem dX12_rests_103 : decode cX12_rests 103 = .ok (.goto (-72), 3) := by decide +kernel
theorem dX12_rests_106 : decode cX12_rests 106 = .ok (.iload_n 1, 1) := by decide +kernel
theorem dX12_rests_107 : decode cX12_rests 107 = .ok (.iconst (-1), 1) := by decide +kernel
theorem dX12_rests_108 : decode cX12_rests 108 = .ok (.if_icmp .ne 7, 3) := by decide +kernel
theorem dX12_rests_111 : decode cX12_rests 111 = .ok (.iload_n 2, 1) := by decide +kernel
theorem dX12_rests_112 : decode cX12_rests 112 = .ok (.goto 4, 3) := by decide +kernel
theorem dX12_rests_115 : decode cX12_rests 115 = .ok (.iconst (-1), 1) := by decide +kernel
theorem dX12_rests_116 : decode cX12_rests 116 = .ok (.ireturn, 1) := by decide +kernel
theorem dX12_placeAlone_0 : decode cX12_placeAlone 0 = .ok (.bipush 101, 2) := by decide +kernel
theorem dX12_placeAlone_2 : decode cX12_placeAlone 2 = .ok (.iload_n 0, 1) := by decide +kernel
theorem dX12_placeAlone_3 : decode cX12_placeAlone 3 = .ok (.imul, 1) := by decide +kernel
theorem dX12_placeAlone_4 : decode cX12_placeAlone 4 = .ok (.iload_n 1, 1) := by decide +kernel
theorem dX12_placeAlone_5 : decode cX12_placeAlone 5 = .ok (.iadd, 1) := by decide +kernel
theorem dX12_placeAlone_6 : decode cX12_placeAlone 6 = .ok (.bipush 101, 2) := by decide +kernel
theorem dX12_placeAlone_8 : decode cX12_placeAlone 8 = .ok (.imul, 1) := by decide +kernel
theorem dX12_placeAlone_9 : decode cX12_placeAlone 9 = .ok (.iload_n 2, 1) := by decide +kernel
theorem dX12_placeAlone_10 : decode cX12_placeAlone 10 = .ok (.iadd, 1) := by decide +kernel
theorem dX12_placeAlone_11 : decode cX12_placeAlone 11 = .ok (.ireturn, 1) := by decide +kernel
theorem dX12_aloneOf_0 : decode cX12_aloneOf 0 = .ok (.iload_n 2, 1) := by decide +kernel
theorem dX12_aloneOf_1 : decode cX12_aloneOf 1 = .ok (.ifCond .eq 9, 3) := by decide +kernel
theorem dX12_aloneOf_4 : decode cX12_aloneOf 4 = .ok (.iload_n 3, 1) := by decide +kernel
theorem dX12_aloneOf_5 : decode cX12_aloneOf 5 = .ok (.bipush 99, 2) := by decide +kernel
theorem dX12_aloneOf_7 : decode cX12_aloneOf 7 = .ok (.if_icmp .le 10, 3) := by decide +kernel
theorem dX12_aloneOf_10 : decode cX12_aloneOf 10 = .ok (.sipush 1000, 3) := by decide +kernel
theorem dX12_aloneOf_13 : decode cX12_aloneOf 13 = .ok (.iload 4, 2) := by decide +kernel
theorem dX12_aloneOf_15 : decode cX12_aloneOf 15 = .ok (.imul, 1) := by decide +kernel
theorem dX12_aloneOf_16 : decode cX12_aloneOf 16 = .ok (.ireturn, 1) := by decide +kernel
theorem dX12_aloneOf_17 : decode cX12_aloneOf 17 = .ok (.iload_n 2, 1) := by decide +kernel
theorem dX12_aloneOf_18 : decode cX12_aloneOf 18 = .ok (.iload_n 3, 1) := by decide +kernel
theorem dX12_aloneOf_19 : decode cX12_aloneOf 19 = .ok (.iload 4, 2) := by decide +kernel
theorem dX12_aloneOf_21 : decode cX12_aloneOf 21 = .ok (.invokestatic 442, 3) := by decide +kernel
theorem dX12_aloneOf_24 : decode cX12_aloneOf 24 = .ok (.istore 5, 2) := by decide +kernel
theorem dX12_aloneOf_26 : decode cX12_aloneOf 26 = .ok (.aload_n 0, 1) := by decide +kernel
theorem dX12_aloneOf_27 : decode cX12_aloneOf 27 = .ok (.getfield 91, 3) := by decide +kernel
theorem dX12_aloneOf_30 : decode cX12_aloneOf 30 = .ok (.iload 5, 2) := by decide +kernel
theorem dX12_aloneOf_32 : decode cX12_aloneOf 32 = .ok (.iaload, 1) := by decide +kernel
theorem dX12_aloneOf_33 : decode cX12_aloneOf 33 = .ok (.iconst (-1), 1) := by decide +kernel
theorem dX12_aloneOf_34 : decode cX12_aloneOf 34 = .ok (.if_icmp .ne 19, 3) := by decide +kernel
theorem dX12_aloneOf_37 : decode cX12_aloneOf 37 = .ok (.aload_n 0, 1) := by decide +kernel
theorem dX12_aloneOf_38 : decode cX12_aloneOf 38 = .ok (.getfield 91, 3) := by decide +kernel
theorem dX12_aloneOf_41 : decode cX12_aloneOf 41 = .ok (.iload 5, 2) := by decide +kernel
theorem dX12_aloneOf_43 : decode cX12_aloneOf 43 = .ok (.aload_n 0, 1) := by decide +kernel
theorem dX12_aloneOf_44 : decode cX12_aloneOf 44 = .ok (.iload_n 1, 1) := by decide +kernel
theorem dX12_aloneOf_45 : decode cX12_aloneOf 45 = .ok (.iload_n 2, 1) := by decide +kernel
theorem dX12_aloneOf_46 : decode cX12_aloneOf 46 = .ok (.iload_n 3, 1) := by decide +kernel
theorem dX12_aloneOf_47 : decode cX12_aloneOf 47 = .ok (.iload 4, 2) := by decide +kernel
theorem dX12_aloneOf_49 : decode cX12_aloneOf 49 = .ok (.invokevirtual 446, 3) := by decide +kernel
theorem dX12_aloneOf_52 : decode cX12_aloneOf 52 = .ok (.iastore, 1) := by decide +kernel
theorem dX12_aloneOf_53 : decode cX12_aloneOf 53 = .ok (.aload_n 0, 1) := by decide +kernel
theorem dX12_aloneOf_54 : decode cX12_aloneOf 54 = .ok (.getfield 91, 3) := by decide +kernel
theorem dX12_aloneOf_57 : decode cX12_aloneOf 57 = .ok (.iload 5, 2) := by decide +kernel
theorem dX12_aloneOf_59 : decode cX12_aloneOf 59 = .ok (.iaload, 1) := by decide +kernel
theorem dX12_aloneOf_60 : decode cX12_aloneOf 60 = .ok (.ireturn, 1) := by decide +kernel
theorem dX12_bestAlone_0 : decode cX12_bestAlone 0 = .ok (.iconst (-1), 1) := by decide +kernel
theorem dX12_bestAlone_1 : decode cX12_bestAlone 1 = .ok (.istore 5, 2) := by decide +kernel
theorem dX12_bestAlone_3 : decode cX12_bestAlone 3 = .ok (.iconst (-1), 1) := by decide +kernel
theorem dX12_bestAlone_4 : decode cX12_bestAlone 4 = .ok (.istore 6, 2) := by decide +kernel
theorem dX12_bestAlone_6 : decode cX12_bestAlone 6 = .ok (.aload_n 0, 1) := by decide +kernel
theorem dX12_bestAlone_7 : decode cX12_bestAlone 7 = .ok (.getfield 43, 3) := by decide +kernel
theorem dX12_bestAlone_10 : decode cX12_bestAlone 10 = .ok (.iconst 1, 1) := by decide +kernel
theorem dX12_bestAlone_11 : decode cX12_bestAlone 11 = .ok (.iaload, 1) := by decide +kernel
theorem dX12_bestAlone_12 : decode cX12_bestAlone 12 = .ok (.iload_n 2, 1) := by decide +kernel
theorem dX12_bestAlone_13 : decode cX12_bestAlone 13 = .ok (.isub, 1) := by decide +kernel
theorem dX12_bestAlone_14 : decode cX12_bestAlone 14 = .ok (.istore 7, 2) := by decide +kernel
theorem dX12_bestAlone_16 : decode cX12_bestAlone 16 = .ok (.iload 7, 2) := by decide +kernel
theorem dX12_bestAlone_18 : decode cX12_bestAlone 18 = .ok (.aload_n 0, 1) := by decide +kernel
theorem dX12_bestAlone_19 : decode cX12_bestAlone 19 = .ok (.getfield 49, 3) := by decide +kernel
theorem dX12_bestAlone_22 : decode cX12_bestAlone 22 = .ok (.bipush 11, 2) := by decide +kernel
theorem dX12_bestAlone_24 : decode cX12_bestAlone 24 = .ok (.iload_n 1, 1) := by decide +kernel
theorem dX12_bestAlone_25 : decode cX12_bestAlone 25 = .ok (.imul, 1) := by decide +kernel
theorem dX12_bestAlone_26 : decode cX12_bestAlone 26 = .ok (.iconst 1, 1) := by decide +kernel
theorem dX12_bestAlone_27 : decode cX12_bestAlone 27 = .ok (.iadd, 1) := by decide +kernel
theorem dX12_bestAlone_28 : decode cX12_bestAlone 28 = .ok (.iaload, 1) := by decide +kernel
theorem dX12_bestAlone_29 : decode cX12_bestAlone 29 = .ok (.isub, 1) := by decide +kernel
theorem dX12_bestAlone_30 : decode cX12_bestAlone 30 = .ok (.istore 8, 2) := by decide +kernel
theorem dX12_bestAlone_32 : decode cX12_bestAlone 32 = .ok (.aload_n 0, 1) := by decide +kernel
theorem dX12_bestAlone_33 : decode cX12_bestAlone 33 = .ok (.iload_n 1, 1) := by decide +kernel
theorem dX12_bestAlone_34 : decode cX12_bestAlone 34 = .ok (.aload_n 0, 1) := by decide +kernel
theorem dX12_bestAlone_35 : decode cX12_bestAlone 35 = .ok (.aload_n 0, 1) := by decide +kernel
theorem dX12_bestAlone_36 : decode cX12_bestAlone 36 = .ok (.getfield 49, 3) := by decide +kernel
theorem dX12_bestAlone_39 : decode cX12_bestAlone 39 = .ok (.iload_n 1, 1) := by decide +kernel
theorem dX12_bestAlone_40 : decode cX12_bestAlone 40 = .ok (.invokevirtual 315, 3) := by decide +kernel
theorem dX12_bestAlone_43 : decode cX12_bestAlone 43 = .ok (.aload_n 0, 1) := by decide +kernel
theorem dX12_bestAlone_44 : decode cX12_bestAlone 44 = .ok (.getfield 49, 3) := by decide +kernel
theorem dX12_bestAlone_47 : decode cX12_bestAlone 47 = .ok (.bipush 11, 2) := by decide +kernel
theorem dX12_bestAlone_49 : decode cX12_bestAlone 49 = .ok (.iload_n 1, 1) := by decide +kernel
theorem dX12_bestAlone_50 : decode cX12_bestAlone 50 = .ok (.imul, 1) := by decide +kernel
theorem dX12_bestAlone_51 : decode cX12_bestAlone 51 = .ok (.bipush 7, 2) := by decide +kernel
theorem dX12_bestAlone_53 : decode cX12_bestAlone 53 = .ok (.iadd, 1) := by decide +kernel
theorem dX12_bestAlone_54 : decode cX12_bestAlone 54 = .ok (.iaload, 1) := by decide +kernel
theorem dX12_bestAlone_55 : decode cX12_bestAlone 55 = .ok (.aload_n 0, 1) := by decide +kernel
theorem dX12_bestAlone_56 : decode cX12_bestAlone 56 = .ok (.getfield 49, 3) := by decide +kernel
theorem dX12_bestAlone_59 : decode cX12_bestAlone 59 = .ok (.bipush 11, 2) := by decide +kernel
theorem dX12_bestAlone_61 : decode cX12_bestAlone 61 = .ok (.iload_n 1, 1) := by decide +kernel
theorem dX12_bestAlone_62 : decode cX12_bestAlone 62 = .ok (.imul, 1) := by decide +kernel
theorem dX12_bestAlone_63 : decode cX12_bestAlone 63 = .ok (.bipush 9, 2) := by decide +kernel
theorem dX12_bestAlone_65 : decode cX12_bestAlone 65 = .ok (.iadd, 1) := by decide +kernel
theorem dX12_bestAlone_66 : decode cX12_bestAlone 66 = .ok (.iaload, 1) := by decide +kernel
theorem dX12_bestAlone_67 : decode cX12_bestAlone 67 = .ok (.iload 8, 2) := by decide +kernel
theorem dX12_bestAlone_69 : decode cX12_bestAlone 69 = .ok (.iadd, 1) := by decide +kernel
theorem dX12_bestAlone_70 : decode cX12_bestAlone 70 = .ok (.iconst 0, 1) := by decide +kernel
theorem dX12_bestAlone_71 : decode cX12_bestAlone 71 = .ok (.invokevirtual 322, 3) := by decide +kernel
theorem dX12_bestAlone_74 : decode cX12_bestAlone 74 = .ok (.istore 9, 2) := by decide +kernel
theorem dX12_bestAlone_76 : decode cX12_bestAlone 76 = .ok (.iload_n 3, 1) := by decide +kernel
theorem dX12_bestAlone_77 : decode cX12_bestAlone 77 = .ok (.istore 10, 2) := by decide +kernel
theorem dX12_bestAlone_79 : decode cX12_bestAlone 79 = .ok (.iload 10, 2) := by decide +kernel
theorem dX12_bestAlone_81 : decode cX12_bestAlone 81 = .ok (.bipush 99, 2) := by decide +kernel
theorem dX12_bestAlone_83 : decode cX12_bestAlone 83 = .ok (.if_icmp .gt 97, 3) := by decide +kernel
theorem dX12_bestAlone_86 : decode cX12_bestAlone 86 = .ok (.aload_n 0, 1) := by decide +kernel
theorem dX12_bestAlone_87 : decode cX12_bestAlone 87 = .ok (.iload_n 1, 1) := by decide +kernel
theorem dX12_bestAlone_88 : decode cX12_bestAlone 88 = .ok (.iload 10, 2) := by decide +kernel
theorem dX12_bestAlone_90 : decode cX12_bestAlone 90 = .ok (.iload 9, 2) := by decide +kernel
theorem dX12_bestAlone_92 : decode cX12_bestAlone 92 = .ok (.iload 7, 2) := by decide +kernel
theorem dX12_bestAlone_94 : decode cX12_bestAlone 94 = .ok (.iconst 0, 1) := by decide +kernel
theorem dX12_bestAlone_95 : decode cX12_bestAlone 95 = .ok (.invokevirtual 343, 3) := by decide +kernel
theorem dX12_bestAlone_98 : decode cX12_bestAlone 98 = .ok (.istore 11, 2) := by decide +kernel
theorem dX12_bestAlone_100 : decode cX12_bestAlone 100 = .ok (.aload_n 0, 1) := by decide +kernel
theorem dX12_bestAlone_101 : decode cX12_bestAlone 101 = .ok (.iload_n 1, 1) := by decide +kernel
theorem dX12_bestAlone_102 : decode cX12_bestAlone 102 = .ok (.iload_n 2, 1) := by decide +kernel
theorem dX12_bestAlone_103 : decode cX12_bestAlone 103 = .ok (.iconst 1, 1) := by decide +kernel
theorem dX12_bestAlone_104 : decode cX12_bestAlone 104 = .ok (.isub, 1) := by decide +kernel
theorem dX12_bestAlone_105 : decode cX12_bestAlone 105 = .ok (.iload 10, 2) := by decide +kernel
theorem dX12_bestAlone_107 : decode cX12_bestAlone 107 = .ok (.aload_n 0, 1) := by decide +kernel
theorem dX12_bestAlone_108 : decode cX12_bestAlone 108 = .ok (.getfield 43, 3) := by decide +kernel
theorem dX12_bestAlone_111 : decode cX12_bestAlone 111 = .ok (.iconst 2, 1) := by decide +kernel
theorem dX12_bestAlone_112 : decode cX12_bestAlone 112 = .ok (.iaload, 1) := by decide +kernel
theorem dX12_bestAlone_113 : decode cX12_bestAlone 113 = .ok (.iadd, 1) := by decide +kernel
theorem dX12_bestAlone_114 : decode cX12_bestAlone 114 = .ok (.iload 10, 2) := by decide +kernel
theorem dX12_bestAlone_116 : decode cX12_bestAlone 116 = .ok (.invokevirtual 450, 3) := by decide +kernel
theorem dX12_bestAlone_119 : decode cX12_bestAlone 119 = .ok (.istore 12, 2) := by decide +kernel
theorem dX12_bestAlone_121 : decode cX12_bestAlone 121 = .ok (.iload 11, 2) := by decide +kernel
theorem dX12_bestAlone_123 : decode cX12_bestAlone 123 = .ok (.iload 12, 2) := by decide +kernel
theorem dX12_bestAlone_125 : decode cX12_bestAlone 125 = .ok (.imul, 1) := by decide +kernel
theorem dX12_bestAlone_126 : decode cX12_bestAlone 126 = .ok (.bipush 100, 2) := by decide +kernel
theorem dX12_bestAlone_128 : decode cX12_bestAlone 128 = .ok (.iload 11, 2) := by decide +kernel
theorem dX12_bestAlone_130 : decode cX12_bestAlone 130 = .ok (.isub, 1) := by decide +kernel
theorem dX12_bestAlone_131 : decode cX12_bestAlone 131 = .ok (.aload_n 0, 1) := by decide +kernel
theorem dX12_bestAlone_132 : decode cX12_bestAlone 132 = .ok (.iload_n 1, 1) := by decide +kernel
theorem dX12_bestAlone_133 : decode cX12_bestAlone 133 = .ok (.iload_n 2, 1) := by decide +kernel
theorem dX12_bestAlone_134 : decode cX12_bestAlone 134 = .ok (.iconst 1, 1) := by decide +kernel
theorem dX12_bestAlone_135 : decode cX12_bestAlone 135 = .ok (.isub, 1) := by decide +kernel
theorem dX12_bestAlone_136 : decode cX12_bestAlone 136 = .ok (.iload 10, 2) := by decide +kernel
theorem dX12_bestAlone_138 : decode cX12_bestAlone 138 = .ok (.iload 4, 2) := by decide +kernel
theorem dX12_bestAlone_140 : decode cX12_bestAlone 140 = .ok (.invokevirtual 450, 3) := by decide +kernel
theorem dX12_bestAlone_143 : decode cX12_bestAlone 143 = .ok (.imul, 1) := by decide +kernel
theorem dX12_bestAlone_144 : decode cX12_bestAlone 144 = .ok (.iadd, 1) := by decide +kernel
theorem dX12_bestAlone_145 : decode cX12_bestAlone 145 = .ok (.bipush 100, 2) := by decide +kernel
theorem dX12_bestAlone_147 : decode cX12_bestAlone 147 = .ok (.idiv, 1) := by decide +kernel
theorem dX12_bestAlone_148 : decode cX12_bestAlone 148 = .ok (.istore 13, 2) := by decide +kernel
theorem dX12_bestAlone_150 : decode cX12_bestAlone 150 = .ok (.iload 5, 2) := by decide +kernel
theorem dX12_bestAlone_152 : decode cX12_bestAlone 152 = .ok (.iconst (-1), 1) := by decide +kernel
theorem dX12_bestAlone_153 : decode cX12_bestAlone 153 = .ok (.if_icmp .eq 13, 3) := by decide +kernel
theorem dX12_bestAlone_156 : decode cX12_bestAlone 156 = .ok (.iload 13, 2) := by decide +kernel
theorem dX12_bestAlone_158 : decode cX12_bestAlone 158 = .ok (.iload 5, 2) := by decide +kernel
theorem dX12_bestAlone_160 : decode cX12_bestAlone 160 = .ok (.if_icmp .gt 6, 3) := by decide +kernel
theorem dX12_bestAlone_163 : decode cX12_bestAlone 163 = .ok (.goto 11, 3) := by decide +kernel
theorem dX12_bestAlone_166 : decode cX12_bestAlone 166 = .ok (.iload 13, 2) := by decide +kernel
theorem dX12_bestAlone_168 : decode cX12_bestAlone 168 = .ok (.istore 5, 2) := by decide +kernel
theorem dX12_bestAlone_170 : decode cX12_bestAlone 170 = .ok (.iload 10, 2) := by decide +kernel
theorem dX12_bestAlone_172 : decode cX12_bestAlone 172 = .ok (.istore 6, 2) := by decide +kernel
theorem dX12_bestAlone_174 : decode cX12_bestAlone 174 = .ok (.iinc 10 1, 3) := by decide +kernel
theorem dX12_bestAlone_177 : decode cX12_bestAlone 177 = .ok (.goto (-98), 3) := by decide +kernel
theorem dX12_bestAlone_180 : decode cX12_bestAlone 180 = .ok (.aload_n 0, 1) := by decide +kernel
theorem dX12_bestAlone_181 : decode cX12_bestAlone 181 = .ok (.iload 6, 2) := by decide +kernel
theorem dX12_bestAlone_183 : decode cX12_bestAlone 183 = .ok (.putfield 453, 3) := by decide +kernel
theorem dX12_bestAlone_186 : decode cX12_bestAlone 186 = .ok (.iload 5, 2) := by decide +kernel
theorem dX12_bestAlone_188 : decode cX12_bestAlone 188 = .ok (.ireturn, 1) := by decide +kernel
theorem dX12_alone_0 : decode cX12_alone 0 = .ok (.aload_n 0, 1) := by decide +kernel
theorem dX12_alone_1 : decode cX12_alone 1 = .ok (.iconst 0, 1) := by decide +kernel
theorem dX12_alone_2 : decode cX12_alone 2 = .ok (.putfield 103, 3) := by decide +kernel
theorem dX12_alone_5 : decode cX12_alone 5 = .ok (.aload_n 0, 1) := by decide +kernel
theorem dX12_alone_6 : decode cX12_alone 6 = .ok (.iload_n 1, 1) := by decide +kernel
theorem dX12_alone_7 : decode cX12_alone 7 = .ok (.invokevirtual 354, 3) := by decide +kernel
theorem dX12_alone_10 : decode cX12_alone 10 = .ok (.ifCond .eq 25, 3) := by decide +kernel
theorem dX12_alone_13 : decode cX12_alone 13 = .ok (.aload_n 0, 1) := by decide +kernel
theorem dX12_alone_14 : decode cX12_alone 14 = .ok (.aload_n 0, 1) := by decide +kernel
theorem dX12_alone_15 : decode cX12_alone 15 = .ok (.getfield 49, 3) := by decide +kernel
theorem dX12_alone_18 : decode cX12_alone 18 = .ok (.iload_n 1, 1) := by decide +kernel
theorem dX12_alone_19 : decode cX12_alone 19 = .ok (.invokevirtual 287, 3) := by decide +kernel
theorem dX12_alone_22 : decode cX12_alone 22 = .ok (.ifCond .eq 13, 3) := by decide +kernel
theorem dX12_alone_25 : decode cX12_alone 25 = .ok (.iload_n 2, 1) := by decide +kernel
theorem dX12_alone_26 : decode cX12_alone 26 = .ok (.i2l, 1) := by decide +kernel
theorem dX12_alone_27 : decode cX12_alone 27 = .ok (.lconst 0, 1) := by decide +kernel
theorem dX12_alone_28 : decode cX12_alone 28 = .ok (.lconst 1, 1) := by decide +kernel
theorem dX12_alone_29 : decode cX12_alone 29 = .ok (.invokestatic 224, 3) := by decide +kernel
theorem dX12_alone_32 : decode cX12_alone 32 = .ok (.ifCond .ne 5, 3) := by decide +kernel
theorem dX12_alone_35 : decode cX12_alone 35 = .ok (.iconst (-1), 1) := by decide +kernel
theorem dX12_alone_36 : decode cX12_alone 36 = .ok (.ireturn, 1) := by decide +kernel
theorem dX12_alone_37 : decode cX12_alone 37 = .ok (.iconst 0, 1) := by decide +kernel
theorem dX12_alone_38 : decode cX12_alone 38 = .ok (.istore_n 3, 1) := by decide +kernel
theorem dX12_alone_39 : decode cX12_alone 39 = .ok (.iload_n 3, 1) := by decide +kernel
theorem dX12_alone_40 : decode cX12_alone 40 = .ok (.ldc 90, 2) := by decide +kernel
theorem dX12_alone_42 : decode cX12_alone 42 = .ok (.if_icmp .ge 16, 3) := by decide +kernel
theorem dX12_alone_45 : decode cX12_alone 45 = .ok (.aload_n 0, 1) := by decide +kernel
theorem dX12_alone_46 : decode cX12_alone 46 = .ok (.getfield 91, 3) := by decide +kernel
theorem dX12_alone_49 : decode cX12_alone 49 = .ok (.iload_n 3, 1) := by decide +kernel
theorem dX12_alone_50 : decode cX12_alone 50 = .ok (.iconst (-1), 1) := by decide +kernel
theorem dX12_alone_51 : decode cX12_alone 51 = .ok (.iastore, 1) := by decide +kernel
theorem dX12_alone_52 : decode cX12_alone 52 = .ok (.iinc 3 1, 3) := by decide +kernel
theorem dX12_alone_55 : decode cX12_alone 55 = .ok (.goto (-16), 3) := by decide +kernel
theorem dX12_alone_58 : decode cX12_alone 58 = .ok (.bipush 11, 2) := by decide +kernel
theorem dX12_alone_60 : decode cX12_alone 60 = .ok (.iload_n 1, 1) := by decide +kernel
theorem dX12_alone_61 : decode cX12_alone 61 = .ok (.imul, 1) := by decide +kernel
theorem dX12_alone_62 : decode cX12_alone 62 = .ok (.istore_n 3, 1) := by decide +kernel
theorem dX12_alone_63 : decode cX12_alone 63 = .ok (.aload_n 0, 1) := by decide +kernel
theorem dX12_alone_64 : decode cX12_alone 64 = .ok (.getfield 43, 3) := by decide +kernel
theorem dX12_alone_67 : decode cX12_alone 67 = .ok (.iconst 1, 1) := by decide +kernel
theorem dX12_alone_68 : decode cX12_alone 68 = .ok (.iaload, 1) := by decide +kernel
theorem dX12_alone_69 : decode cX12_alone 69 = .ok (.aload_n 0, 1) := by decide +kernel
theorem dX12_alone_70 : decode cX12_alone 70 = .ok (.getfield 49, 3) := by decide +kernel
theorem dX12_alone_73 : decode cX12_alone 73 = .ok (.iload_n 3, 1) := by decide +kernel
theorem dX12_alone_74 : decode cX12_alone 74 = .ok (.iconst 1, 1) := by decide +kernel
theorem dX12_alone_75 : decode cX12_alone 75 = .ok (.iadd, 1) := by decide +kernel
theorem dX12_alone_76 : decode cX12_alone 76 = .ok (.iaload, 1) := by decide +kernel
theorem dX12_alone_77 : decode cX12_alone 77 = .ok (.isub, 1) := by decide +kernel
theorem dX12_alone_78 : decode cX12_alone 78 = .ok (.istore 4, 2) := by decide +kernel
theorem dX12_alone_80 : decode cX12_alone 80 = .ok (.aload_n 0, 1) := by decide +kernel
theorem dX12_alone_81 : decode cX12_alone 81 = .ok (.getfield 49, 3) := by decide +kernel
theorem dX12_alone_84 : decode cX12_alone 84 = .ok (.iload_n 3, 1) := by decide +kernel
theorem dX12_alone_85 : decode cX12_alone 85 = .ok (.iconst 2, 1) := by decide +kernel
theorem dX12_alone_86 : decode cX12_alone 86 = .ok (.iadd, 1) := by decide +kernel
theorem dX12_alone_87 : decode cX12_alone 87 = .ok (.aload_n 0, 1) := by decide +kernel
theorem dX12_alone_88 : decode cX12_alone 88 = .ok (.getfield 49, 3) := by decide +kernel
theorem dX12_alone_91 : decode cX12_alone 91 = .ok (.bipush 66, 2) := by decide +kernel
theorem dX12_alone_93 : decode cX12_alone 93 = .ok (.iaload, 1) := by decide +kernel
theorem dX12_alone_94 : decode cX12_alone 94 = .ok (.iadd, 1) := by decide +kernel
theorem dX12_alone_95 : decode cX12_alone 95 = .ok (.iaload, 1) := by decide +kernel
theorem dX12_alone_96 : decode cX12_alone 96 = .ok (.istore 5, 2) := by decide +kernel
theorem dX12_alone_98 : decode cX12_alone 98 = .ok (.aload_n 0, 1) := by decide +kernel
theorem dX12_alone_99 : decode cX12_alone 99 = .ok (.iload_n 1, 1) := by decide +kernel
theorem dX12_alone_100 : decode cX12_alone 100 = .ok (.iload 4, 2) := by decide +kernel
theorem dX12_alone_102 : decode cX12_alone 102 = .ok (.aload_n 0, 1) := by decide +kernel
theorem dX12_alone_103 : decode cX12_alone 103 = .ok (.aload_n 0, 1) := by decide +kernel
theorem dX12_alone_104 : decode cX12_alone 104 = .ok (.getfield 49, 3) := by decide +kernel
theorem dX12_alone_107 : decode cX12_alone 107 = .ok (.iload_n 1, 1) := by decide +kernel
theorem dX12_alone_108 : decode cX12_alone 108 = .ok (.invokevirtual 386, 3) := by decide +kernel
theorem dX12_alone_111 : decode cX12_alone 111 = .ok (.iload 5, 2) := by decide +kernel
theorem dX12_alone_113 : decode cX12_alone 113 = .ok (.invokevirtual 446, 3) := by decide +kernel
theorem dX12_alone_116 : decode cX12_alone 116 = .ok (.istore 6, 2) := by decide +kernel
theorem dX12_alone_118 : decode cX12_alone 118 = .ok (.iload_n 2, 1) := by decide +kernel
theorem dX12_alone_119 : decode cX12_alone 119 = .ok (.ifCond .ne 8, 3) := by decide +kernel
theorem dX12_alone_122 : decode cX12_alone 122 = .ok (.iload 6, 2) := by decide +kernel
theorem dX12_alone_124 : decode cX12_alone 124 = .ok (.goto 7, 3) := by decide +kernel
theorem dX12_alone_127 : decode cX12_alone 127 = .ok (.aload_n 0, 1) := by decide +kernel
theorem dX12_alone_128 : decode cX12_alone 128 = .ok (.getfield 453, 3) := by decide +kernel
theorem dX12_alone_131 : decode cX12_alone 131 = .ok (.ireturn, 1) := by decide +kernel
theorem dX12_empty_0 : decode cX12_empty 0 = .ok (.aload_n 0, 1) := by decide +kernel
theorem dX12_empty_1 : decode cX12_empty 1 = .ok (.iconst 0, 1) := by decide +kernel
theorem dX12_empty_2 : decode cX12_empty 2 = .ok (.putfield 103, 3) := by decide +kernel
theorem dX12_empty_5 : decode cX12_empty 5 = .ok (.aload_n 0, 1) := by decide +kernel
theorem dX12_empty_6 : decode cX12_empty 6 = .ok (.iload_n 1, 1) := by decide +kernel
theorem dX12_empty_7 : decode cX12_empty 7 = .ok (.invokevirtual 354, 3) := by decide +kernel
theorem dX12_empty_10 : decode cX12_empty 10 = .ok (.ifCond .eq 15, 3) := by decide +kernel
theorem dX12_empty_13 : decode cX12_empty 13 = .ok (.aload_n 0, 1) := by decide +kernel
theorem dX12_empty_14 : decode cX12_empty 14 = .ok (.aload_n 0, 1) := by decide +kernel
theorem dX12_empty_15 : decode cX12_empty 15 = .ok (.getfield 49, 3) := by decide +kernel
theorem dX12_empty_18 : decode cX12_empty 18 = .ok (.iload_n 1, 1) := by decide +kernel
theorem dX12_empty_19 : decode cX12_empty 19 = .ok (.invokevirtual 287, 3) := by decide +kernel
theorem dX12_empty_22 : decode cX12_empty 22 = .ok (.ifCond .ne 5, 3) := by decide +kernel
theorem dX12_empty_25 : decode cX12_empty 25 = .ok (.iconst (-1), 1) := by decide +kernel
theorem dX12_empty_26 : decode cX12_empty 26 = .ok (.ireturn, 1) := by decide +kernel
theorem dX12_empty_27 : decode cX12_empty 27 = .ok (.bipush 11, 2) := by decide +kernel
theorem dX12_empty_29 : decode cX12_empty 29 = .ok (.iload_n 1, 1) := by decide +kernel
theorem dX12_empty_30 : decode cX12_empty 30 = .ok (.imul, 1) := by decide +kernel
theorem dX12_empty_31 : decode cX12_empty 31 = .ok (.istore_n 2, 1) := by decide +kernel
theorem dX12_empty_32 : decode cX12_empty 32 = .ok (.aload_n 0, 1) := by decide +kernel
theorem dX12_empty_33 : decode cX12_empty 33 = .ok (.getfield 49, 3) := by decide +kernel
theorem dX12_empty_36 : decode cX12_empty 36 = .ok (.iload_n 2, 1) := by decide +kernel
theorem dX12_empty_37 : decode cX12_empty 37 = .ok (.iconst 2, 1) := by decide +kernel
theorem dX12_empty_38 : decode cX12_empty 38 = .ok (.iadd, 1) := by decide +kernel
theorem dX12_empty_39 : decode cX12_empty 39 = .ok (.aload_n 0, 1) := by decide +kernel
theorem dX12_empty_40 : decode cX12_empty 40 = .ok (.getfield 49, 3) := by decide +kernel
theorem dX12_empty_43 : decode cX12_empty 43 = .ok (.bipush 66, 2) := by decide +kernel
theorem dX12_empty_45 : decode cX12_empty 45 = .ok (.iaload, 1) := by decide +kernel
theorem dX12_empty_46 : decode cX12_empty 46 = .ok (.iadd, 1) := by decide +kernel
theorem dX12_empty_47 : decode cX12_empty 47 = .ok (.iaload, 1) := by decide +kernel
theorem dX12_empty_48 : decode cX12_empty 48 = .ok (.ifCond .le 5, 3) := by decide +kernel
theorem dX12_empty_51 : decode cX12_empty 51 = .ok (.iconst 0, 1) := by decide +kernel
theorem dX12_empty_52 : decode cX12_empty 52 = .ok (.ireturn, 1) := by decide +kernel
theorem dX12_empty_53 : decode cX12_empty 53 = .ok (.ldc2_w 404, 3) := by decide +kernel
theorem dX12_empty_56 : decode cX12_empty 56 = .ok (.lstore_n 3, 1) := by decide +kernel
theorem dX12_empty_57 : decode cX12_empty 57 = .ok (.aload_n 0, 1) := by decide +kernel
theorem dX12_empty_58 : decode cX12_empty 58 = .ok (.aload_n 0, 1) := by decide +kernel
theorem dX12_empty_59 : decode cX12_empty 59 = .ok (.getfield 49, 3) := by decide +kernel
theorem dX12_empty_62 : decode cX12_empty 62 = .ok (.iload_n 1, 1) := by decide +kernel
theorem dX12_empty_63 : decode cX12_empty 63 = .ok (.invokevirtual 386, 3) := by decide +kernel
theorem dX12_empty_66 : decode cX12_empty 66 = .ok (.istore 5, 2) := by decide +kernel
theorem dX12_empty_68 : decode cX12_empty 68 = .ok (.aload_n 0, 1) := by decide +kernel
theorem dX12_empty_69 : decode cX12_empty 69 = .ok (.getfield 49, 3) := by decide +kernel
theorem dX12_empty_72 : decode cX12_empty 72 = .ok (.iload_n 2, 1) := by decide +kernel
theorem dX12_empty_73 : decode cX12_empty 73 = .ok (.iconst 1, 1) := by decide +kernel
theorem dX12_empty_74 : decode cX12_empty 74 = .ok (.iadd, 1) := by decide +kernel
theorem dX12_empty_75 : decode cX12_empty 75 = .ok (.iaload, 1) := by decide +kernel
theorem dX12_empty_76 : decode cX12_empty 76 = .ok (.istore 6, 2) := by decide +kernel
theorem dX12_empty_78 : decode cX12_empty 78 = .ok (.iload 6, 2) := by decide +kernel
theorem dX12_empty_80 : decode cX12_empty 80 = .ok (.aload_n 0, 1) := by decide +kernel
theorem dX12_empty_81 : decode cX12_empty 81 = .ok (.getfield 43, 3) := by decide +kernel
theorem dX12_empty_84 : decode cX12_empty 84 = .ok (.iconst 1, 1) := by decide +kernel
theorem dX12_empty_85 : decode cX12_empty 85 = .ok (.iaload, 1) := by decide +kernel
theorem dX12_empty_86 : decode cX12_empty 86 = .ok (.if_icmp .ge 78, 3) := by decide +kernel
theorem dX12_empty_89 : decode cX12_empty 89 = .ok (.aload_n 0, 1) := by decide +kernel
theorem dX12_empty_90 : decode cX12_empty 90 = .ok (.iload_n 1, 1) := by decide +kernel
theorem dX12_empty_91 : decode cX12_empty 91 = .ok (.aload_n 0, 1) := by decide +kernel
theorem dX12_empty_92 : decode cX12_empty 92 = .ok (.aload_n 0, 1) := by decide +kernel
theorem dX12_empty_93 : decode cX12_empty 93 = .ok (.getfield 49, 3) := by decide +kernel
theorem dX12_empty_96 : decode cX12_empty 96 = .ok (.iload_n 1, 1) := by decide +kernel
theorem dX12_empty_97 : decode cX12_empty 97 = .ok (.invokevirtual 315, 3) := by decide +kernel
theorem dX12_empty_100 : decode cX12_empty 100 = .ok (.aload_n 0, 1) := by decide +kernel
theorem dX12_empty_101 : decode cX12_empty 101 = .ok (.getfield 49, 3) := by decide +kernel
theorem dX12_empty_104 : decode cX12_empty 104 = .ok (.iload_n 2, 1) := by decide +kernel
theorem dX12_empty_105 : decode cX12_empty 105 = .ok (.bipush 7, 2) := by decide +kernel
theorem dX12_empty_107 : decode cX12_empty 107 = .ok (.iadd, 1) := by decide +kernel
theorem dX12_empty_108 : decode cX12_empty 108 = .ok (.iaload, 1) := by decide +kernel
theorem dX12_empty_109 : decode cX12_empty 109 = .ok (.aload_n 0, 1) := by decide +kernel
theorem dX12_empty_110 : decode cX12_empty 110 = .ok (.getfield 49, 3) := by decide +kernel
theorem dX12_empty_113 : decode cX12_empty 113 = .ok (.iload_n 2, 1) := by decide +kernel
theorem dX12_empty_114 : decode cX12_empty 114 = .ok (.bipush 9, 2) := by decide +kernel
theorem dX12_empty_116 : decode cX12_empty 116 = .ok (.iadd, 1) := by decide +kernel
theorem dX12_empty_117 : decode cX12_empty 117 = .ok (.iaload, 1) := by decide +kernel
theorem dX12_empty_118 : decode cX12_empty 118 = .ok (.iload 6, 2) := by decide +kernel
theorem dX12_empty_120 : decode cX12_empty 120 = .ok (.iadd, 1) := by decide +kernel
theorem dX12_empty_121 : decode cX12_empty 121 = .ok (.aload_n 0, 1) := by decide +kernel
theorem dX12_empty_122 : decode cX12_empty 122 = .ok (.getfield 49, 3) := by decide +kernel
theorem dX12_empty_125 : decode cX12_empty 125 = .ok (.iload_n 2, 1) := by decide +kernel
theorem dX12_empty_126 : decode cX12_empty 126 = .ok (.iconst 1, 1) := by decide +kernel
theorem dX12_empty_127 : decode cX12_empty 127 = .ok (.iadd, 1) := by decide +kernel
theorem dX12_empty_128 : decode cX12_empty 128 = .ok (.iaload, 1) := by decide +kernel
theorem dX12_empty_129 : decode cX12_empty 129 = .ok (.isub, 1) := by decide +kernel
theorem dX12_empty_130 : decode cX12_empty 130 = .ok (.iconst 0, 1) := by decide +kernel
theorem dX12_empty_131 : decode cX12_empty 131 = .ok (.invokevirtual 322, 3) := by decide +kernel
theorem dX12_empty_134 : decode cX12_empty 134 = .ok (.istore 7, 2) := by decide +kernel
theorem dX12_empty_136 : decode cX12_empty 136 = .ok (.lload_n 3, 1) := by decide +kernel
theorem dX12_empty_137 : decode cX12_empty 137 = .ok (.lload_n 3, 1) := by decide +kernel
theorem dX12_empty_138 : decode cX12_empty 138 = .ok (.aload_n 0, 1) := by decide +kernel
theorem dX12_empty_139 : decode cX12_empty 139 = .ok (.iload_n 1, 1) := by decide +kernel
theorem dX12_empty_140 : decode cX12_empty 140 = .ok (.iload 5, 2) := by decide +kernel
theorem dX12_empty_142 : decode cX12_empty 142 = .ok (.iload 7, 2) := by decide +kernel
theorem dX12_empty_144 : decode cX12_empty 144 = .ok (.iload 6, 2) := by decide +kernel
theorem dX12_empty_146 : decode cX12_empty 146 = .ok (.iconst 0, 1) := by decide +kernel
theorem dX12_empty_147 : decode cX12_empty 147 = .ok (.invokevirtual 343, 3) := by decide +kernel
theorem dX12_empty_150 : decode cX12_empty 150 = .ok (.i2l, 1) := by decide +kernel
theorem dX12_empty_151 : decode cX12_empty 151 = .ok (.lmul, 1) := by decide +kernel
theorem dX12_empty_152 : decode cX12_empty 152 = .ok (.ldc2_w 334, 3) := by decide +kernel
theorem dX12_empty_155 : decode cX12_empty 155 = .ok (.ldiv, 1) := by decide +kernel
theorem dX12_empty_156 : decode cX12_empty 156 = .ok (.lsub, 1) := by decide +kernel
theorem dX12_empty_157 : decode cX12_empty 157 = .ok (.lstore_n 3, 1) := by decide +kernel
theorem dX12_empty_158 : decode cX12_empty 158 = .ok (.iinc 6 1, 3) := by decide +kernel
theorem dX12_empty_161 : decode cX12_empty 161 = .ok (.goto (-83), 3) := by decide +kernel
theorem dX12_empty_164 : decode cX12_empty 164 = .ok (.lload_n 3, 1) := by decide +kernel
theorem dX12_empty_165 : decode cX12_empty 165 = .ok (.l2i, 1) := by decide +kernel
theorem dX12_empty_166 : decode cX12_empty 166 = .ok (.ireturn, 1) := by decide +kernel
theorem dX12_needs_0 : decode cX12_needs 0 = .ok (.aload_n 0, 1) := by decide +kernel
theorem dX12_needs_1 : decode cX12_needs 1 = .ok (.iconst 0, 1) := by decide +kernel
theorem dX12_needs_2 : decode cX12_needs 2 = .ok (.putfield 103, 3) := by decide +kernel
theorem dX12_needs_5 : decode cX12_needs 5 = .ok (.aload_n 0, 1) := by decide +kernel
theorem dX12_needs_6 : decode cX12_needs 6 = .ok (.iload_n 1, 1) := by decide +kernel
theorem dX12_needs_7 : decode cX12_needs 7 = .ok (.invokevirtual 354, 3) := by decide +kernel
theorem dX12_needs_10 : decode cX12_needs 10 = .ok (.ifCond .eq 38, 3) := by decide +kernel
theorem dX12_needs_13 : decode cX12_needs 13 = .ok (.aload_n 0, 1) := by decide +kernel
theorem dX12_needs_14 : decode cX12_needs 14 = .ok (.aload_n 0, 1) := by decide +kernel
theorem dX12_needs_15 : decode cX12_needs 15 = .ok (.getfield 49, 3) := by decide +kernel
theorem dX12_needs_18 : decode cX12_needs 18 = .ok (.iload_n 1, 1) := by decide +kernel
theorem dX12_needs_19 : decode cX12_needs 19 = .ok (.invokevirtual 287, 3) := by decide +kernel
theorem dX12_needs_22 : decode cX12_needs 22 = .ok (.ifCond .eq 26, 3) := by decide +kernel
theorem dX12_needs_25 : decode cX12_needs 25 = .ok (.aload_n 0, 1) := by decide +kernel
theorem dX12_needs_26 : decode cX12_needs 26 = .ok (.getfield 49, 3) := by decide +kernel
theorem dX12_needs_29 : decode cX12_needs 29 = .ok (.bipush 66, 2) := by decide +kernel
theorem dX12_needs_31 : decode cX12_needs 31 = .ok (.iaload, 1) := by decide +kernel
theorem dX12_needs_32 : decode cX12_needs 32 = .ok (.iconst 1, 1) := by decide +kernel
theorem dX12_needs_33 : decode cX12_needs 33 = .ok (.if_icmp .ne 15, 3) := by decide +kernel
theorem dX12_needs_36 : decode cX12_needs 36 = .ok (.iload_n 2, 1) := by decide +kernel
theorem dX12_needs_37 : decode cX12_needs 37 = .ok (.i2l, 1) := by decide +kernel
theorem dX12_needs_38 : decode cX12_needs 38 = .ok (.lconst 1, 1) := by decide +kernel
theorem dX12_needs_39 : decode cX12_needs 39 = .ok (.ldc2_w 336, 3) := by decide +kernel
theorem dX12_needs_42 : decode cX12_needs 42 = .ok (.invokestatic 224, 3) := by decide +kernel
theorem dX12_needs_45 : decode cX12_needs 45 = .ok (.ifCond .ne 5, 3) := by decide +kernel
theorem dX12_needs_48 : decode cX12_needs 48 = .ok (.iconst (-1), 1) := by decide +kernel
theorem dX12_needs_49 : decode cX12_needs 49 = .ok (.ireturn, 1) := by decide +kernel
theorem dX12_needs_50 : decode cX12_needs 50 = .ok (.aload_n 0, 1) := by decide +kernel
theorem dX12_needs_51 : decode cX12_needs 51 = .ok (.aload_n 0, 1) := by decide +kernel
theorem dX12_needs_52 : decode cX12_needs 52 = .ok (.getfield 49, 3) := by decide +kernel
theorem dX12_needs_55 : decode cX12_needs 55 = .ok (.iload_n 1, 1) := by decide +kernel
theorem dX12_needs_56 : decode cX12_needs 56 = .ok (.invokevirtual 386, 3) := by decide +kernel
theorem dX12_needs_59 : decode cX12_needs 59 = .ok (.istore_n 3, 1) := by decide +kernel
theorem dX12_needs_60 : decode cX12_needs 60 = .ok (.iload_n 3, 1) := by decide +kernel
theorem dX12_needs_61 : decode cX12_needs 61 = .ok (.bipush 99, 2) := by decide +kernel
theorem dX12_needs_63 : decode cX12_needs 63 = .ok (.if_icmp .gt 77, 3) := by decide +kernel
theorem dX12_needs_66 : decode cX12_needs 66 = .ok (.aload_n 0, 1) := by decide +kernel
theorem dX12_needs_67 : decode cX12_needs 67 = .ok (.getfield 49, 3) := by decide +kernel
theorem dX12_needs_70 : decode cX12_needs 70 = .ok (.aload_n 0, 1) := by decide +kernel
theorem dX12_needs_71 : decode cX12_needs 71 = .ok (.getfield 52, 3) := by decide +kernel
theorem dX12_needs_74 : decode cX12_needs 74 = .ok (.invokestatic 414, 3) := by decide +kernel
theorem dX12_needs_77 : decode cX12_needs 77 = .ok (.aload_n 0, 1) := by decide +kernel
theorem dX12_needs_78 : decode cX12_needs 78 = .ok (.getfield 52, 3) := by decide +kernel
theorem dX12_needs_81 : decode cX12_needs 81 = .ok (.bipush 11, 2) := by decide +kernel
theorem dX12_needs_83 : decode cX12_needs 83 = .ok (.iload_n 1, 1) := by decide +kernel
theorem dX12_needs_84 : decode cX12_needs 84 = .ok (.imul, 1) := by decide +kernel
theorem dX12_needs_85 : decode cX12_needs 85 = .ok (.iconst 2, 1) := by decide +kernel
theorem dX12_needs_86 : decode cX12_needs 86 = .ok (.iadd, 1) := by decide +kernel
theorem dX12_needs_87 : decode cX12_needs 87 = .ok (.iconst 1, 1) := by decide +kernel
theorem dX12_needs_88 : decode cX12_needs 88 = .ok (.iadd, 1) := by decide +kernel
theorem dX12_needs_89 : decode cX12_needs 89 = .ok (.iload_n 3, 1) := by decide +kernel
theorem dX12_needs_90 : decode cX12_needs 90 = .ok (.iastore, 1) := by decide +kernel
theorem dX12_needs_91 : decode cX12_needs 91 = .ok (.aload_n 0, 1) := by decide +kernel
theorem dX12_needs_92 : decode cX12_needs 92 = .ok (.getfield 52, 3) := by decide +kernel
theorem dX12_needs_95 : decode cX12_needs 95 = .ok (.bipush 11, 2) := by decide +kernel
theorem dX12_needs_97 : decode cX12_needs 97 = .ok (.iload_n 1, 1) := by decide +kernel
theorem dX12_needs_98 : decode cX12_needs 98 = .ok (.imul, 1) := by decide +kernel
theorem dX12_needs_99 : decode cX12_needs 99 = .ok (.bipush 10, 2) := by decide +kernel
theorem dX12_needs_101 : decode cX12_needs 101 = .ok (.iadd, 1) := by decide +kernel
theorem dX12_needs_102 : decode cX12_needs 102 = .ok (.aload_n 0, 1) := by decide +kernel
theorem dX12_needs_103 : decode cX12_needs 103 = .ok (.getfield 49, 3) := by decide +kernel
theorem dX12_needs_106 : decode cX12_needs 106 = .ok (.bipush 70, 2) := by decide +kernel
theorem dX12_needs_108 : decode cX12_needs 108 = .ok (.iaload, 1) := by decide +kernel
theorem dX12_needs_109 : decode cX12_needs 109 = .ok (.iastore, 1) := by decide +kernel
theorem dX12_needs_110 : decode cX12_needs 110 = .ok (.aload_n 0, 1) := by decide +kernel
theorem dX12_needs_111 : decode cX12_needs 111 = .ok (.aload_n 0, 1) := by decide +kernel
theorem dX12_needs_112 : decode cX12_needs 112 = .ok (.getfield 52, 3) := by decide +kernel
theorem dX12_needs_115 : decode cX12_needs 115 = .ok (.iload_n 1, 1) := by decide +kernel
theorem dX12_needs_116 : decode cX12_needs 116 = .ok (.invokevirtual 352, 3) := by decide +kernel
theorem dX12_needs_119 : decode cX12_needs 119 = .ok (.istore 4, 2) := by decide +kernel
theorem dX12_needs_121 : decode cX12_needs 121 = .ok (.iload 4, 2) := by decide +kernel
theorem dX12_needs_123 : decode cX12_needs 123 = .ok (.ifCond .le 11, 3) := by decide +kernel
theorem dX12_needs_126 : decode cX12_needs 126 = .ok (.iload 4, 2) := by decide +kernel
theorem dX12_needs_128 : decode cX12_needs 128 = .ok (.iload_n 2, 1) := by decide +kernel
theorem dX12_needs_129 : decode cX12_needs 129 = .ok (.if_icmp .gt 5, 3) := by decide +kernel
theorem dX12_needs_132 : decode cX12_needs 132 = .ok (.iload_n 3, 1) := by decide +kernel
theorem dX12_needs_133 : decode cX12_needs 133 = .ok (.ireturn, 1) := by decide +kernel
theorem dX12_needs_134 : decode cX12_needs 134 = .ok (.iinc 3 1, 3) := by decide +kernel
theorem dX12_needs_137 : decode cX12_needs 137 = .ok (.goto (-77), 3) := by decide +kernel
theorem dX12_needs_140 : decode cX12_needs 140 = .ok (.iconst (-1), 1) := by decide +kernel
theorem dX12_needs_141 : decode cX12_needs 141 = .ok (.ireturn, 1) := by decide +kernel
theorem dX12_waits_0 : decode cX12_waits 0 = .ok (.aload_n 0, 1) := by decide +kernel
theorem dX12_waits_1 : decode cX12_waits 1 = .ok (.iconst 0, 1) := by decide +kernel
theorem dX12_waits_2 : decode cX12_waits 2 = .ok (.putfield 103, 3) := by decide +kernel
theorem dX12_waits_5 : decode cX12_waits 5 = .ok (.aload_n 0, 1) := by decide +kernel
theorem dX12_waits_6 : decode cX12_waits 6 = .ok (.iload_n 1, 1) := by decide +kernel
theorem dX12_waits_7 : decode cX12_waits 7 = .ok (.invokevirtual 354, 3) := by decide +kernel
theorem dX12_waits_10 : decode cX12_waits 10 = .ok (.ifCond .eq 15, 3) := by decide +kernel
theorem dX12_waits_13 : decode cX12_waits 13 = .ok (.aload_n 0, 1) := by decide +kernel
theorem dX12_waits_14 : decode cX12_waits 14 = .ok (.aload_n 0, 1) := by decide +kernel
theorem dX12_waits_15 : decode cX12_waits 15 = .ok (.getfield 49, 3) := by decide +kernel
theorem dX12_waits_18 : decode cX12_waits 18 = .ok (.iload_n 1, 1) := by decide +kernel
theorem dX12_waits_19 : decode cX12_waits 19 = .ok (.invokevirtual 287, 3) := by decide +kernel
theorem dX12_waits_22 : decode cX12_waits 22 = .ok (.ifCond .ne 5, 3) := by decide +kernel
theorem dX12_waits_25 : decode cX12_waits 25 = .ok (.iconst (-1), 1) := by decide +kernel
theorem dX12_waits_26 : decode cX12_waits 26 = .ok (.ireturn, 1) := by decide +kernel
theorem dX12_waits_27 : decode cX12_waits 27 = .ok (.aload_n 0, 1) := by decide +kernel
theorem dX12_waits_28 : decode cX12_waits 28 = .ok (.getfield 49, 3) := by decide +kernel
theorem dX12_waits_31 : decode cX12_waits 31 = .ok (.aload_n 0, 1) := by decide +kernel
theorem dX12_waits_32 : decode cX12_waits 32 = .ok (.getfield 52, 3) := by decide +kernel
theorem dX12_waits_35 : decode cX12_waits 35 = .ok (.invokestatic 414, 3) := by decide +kernel
theorem dX12_waits_38 : decode cX12_waits 38 = .ok (.iconst 0, 1) := by decide +kernel
theorem dX12_waits_39 : decode cX12_waits 39 = .ok (.istore_n 2, 1) := by decide +kernel
theorem dX12_waits_40 : decode cX12_waits 40 = .ok (.aload_n 0, 1) := by decide +kernel
theorem dX12_waits_41 : decode cX12_waits 41 = .ok (.aload_n 0, 1) := by decide +kernel
theorem dX12_waits_42 : decode cX12_waits 42 = .ok (.getfield 52, 3) := by decide +kernel
theorem dX12_waits_45 : decode cX12_waits 45 = .ok (.invokevirtual 366, 3) := by decide +kernel
theorem dX12_waits_48 : decode cX12_waits 48 = .ok (.iload_n 1, 1) := by decide +kernel
theorem dX12_waits_49 : decode cX12_waits 49 = .ok (.if_icmp .eq 27, 3) := by decide +kernel
theorem dX12_waits_52 : decode cX12_waits 52 = .ok (.aload_n 0, 1) := by decide +kernel
theorem dX12_waits_53 : decode cX12_waits 53 = .ok (.aload_n 0, 1) := by decide +kernel
theorem dX12_waits_54 : decode cX12_waits 54 = .ok (.getfield 52, 3) := by decide +kernel
theorem dX12_waits_57 : decode cX12_waits 57 = .ok (.aload_n 0, 1) := by decide +kernel
theorem dX12_waits_58 : decode cX12_waits 58 = .ok (.aload_n 0, 1) := by decide +kernel
theorem dX12_waits_59 : decode cX12_waits 59 = .ok (.getfield 52, 3) := by decide +kernel
theorem dX12_waits_62 : decode cX12_waits 62 = .ok (.invokevirtual 366, 3) := by decide +kernel
theorem dX12_waits_65 : decode cX12_waits 65 = .ok (.bipush 7, 2) := by decide +kernel
theorem dX12_waits_67 : decode cX12_waits 67 = .ok (.invokevirtual 382, 3) := by decide +kernel
theorem dX12_waits_70 : decode cX12_waits 70 = .ok (.iinc 2 1, 3) := by decide +kernel
theorem dX12_waits_73 : decode cX12_waits 73 = .ok (.goto (-33), 3) := by decide +kernel
theorem dX12_waits_76 : decode cX12_waits 76 = .ok (.iload_n 2, 1) := by decide +kernel
theorem dX12_waits_77 : decode cX12_waits 77 = .ok (.ireturn, 1) := by decide +kernel
theorem dX12_colder_0 : decode cX12_colder 0 = .ok (.aload_n 0, 1) := by decide +kernel
theorem dX12_colder_1 : decode cX12_colder 1 = .ok (.iconst 0, 1) := by decide +kernel
theorem dX12_colder_2 : decode cX12_colder 2 = .ok (.putfield 103, 3) := by decide +kernel
theorem dX12_colder_5 : decode cX12_colder 5 = .ok (.aload_n 0, 1) := by decide +kernel
theorem dX12_colder_6 : decode cX12_colder 6 = .ok (.iload_n 1, 1) := by decide +kernel
theorem dX12_colder_7 : decode cX12_colder 7 = .ok (.invokevirtual 354, 3) := by decide +kernel
theorem dX12_colder_10 : decode cX12_colder 10 = .ok (.ifCond .eq 27, 3) := by decide +kernel
theorem dX12_colder_13 : decode cX12_colder 13 = .ok (.aload_n 0, 1) := by decide +kernel
theorem dX12_colder_14 : decode cX12_colder 14 = .ok (.aload_n 0, 1) := by decide +kernel
theorem dX12_colder_15 : decode cX12_colder 15 = .ok (.getfield 49, 3) := by decide +kernel
theorem dX12_colder_18 : decode cX12_colder 18 = .ok (.iload_n 1, 1) := by decide +kernel
theorem dX12_colder_19 : decode cX12_colder 19 = .ok (.invokevirtual 287, 3) := by decide +kernel
theorem dX12_colder_22 : decode cX12_colder 22 = .ok (.ifCond .eq 15, 3) := by decide +kernel
theorem dX12_colder_25 : decode cX12_colder 25 = .ok (.iload_n 2, 1) := by decide +kernel
theorem dX12_colder_26 : decode cX12_colder 26 = .ok (.i2l, 1) := by decide +kernel
theorem dX12_colder_27 : decode cX12_colder 27 = .ok (.lconst 0, 1) := by decide +kernel
theorem dX12_colder_28 : decode cX12_colder 28 = .ok (.ldc2_w 456, 3) := by decide +kernel
theorem dX12_colder_31 : decode cX12_colder 31 = .ok (.invokestatic 224, 3) := by decide +kernel
theorem dX12_colder_34 : decode cX12_colder 34 = .ok (.ifCond .ne 7, 3) := by decide +kernel
theorem dX12_colder_37 : decode cX12_colder 37 = .ok (.ldc_w 376, 3) := by decide +kernel
theorem dX12_colder_40 : decode cX12_colder 40 = .ok (.ireturn, 1) := by decide +kernel
theorem dX12_colder_41 : decode cX12_colder 41 = .ok (.bipush 11, 2) := by decide +kernel
theorem dX12_colder_43 : decode cX12_colder 43 = .ok (.iload_n 1, 1) := by decide +kernel
theorem dX12_colder_44 : decode cX12_colder 44 = .ok (.imul, 1) := by decide +kernel
theorem dX12_colder_45 : decode cX12_colder 45 = .ok (.istore_n 3, 1) := by decide +kernel
theorem dX12_colder_46 : decode cX12_colder 46 = .ok (.aload_n 0, 1) := by decide +kernel
theorem dX12_colder_47 : decode cX12_colder 47 = .ok (.aload_n 0, 1) := by decide +kernel
theorem dX12_colder_48 : decode cX12_colder 48 = .ok (.getfield 49, 3) := by decide +kernel
theorem dX12_colder_51 : decode cX12_colder 51 = .ok (.iload_n 1, 1) := by decide +kernel
theorem dX12_colder_52 : decode cX12_colder 52 = .ok (.invokevirtual 319, 3) := by decide +kernel
theorem dX12_colder_55 : decode cX12_colder 55 = .ok (.iload_n 2, 1) := by decide +kernel
theorem dX12_colder_56 : decode cX12_colder 56 = .ok (.iadd, 1) := by decide +kernel
theorem dX12_colder_57 : decode cX12_colder 57 = .ok (.istore 4, 2) := by decide +kernel
theorem dX12_colder_59 : decode cX12_colder 59 = .ok (.aload_n 0, 1) := by decide +kernel
theorem dX12_colder_60 : decode cX12_colder 60 = .ok (.iload_n 1, 1) := by decide +kernel
theorem dX12_colder_61 : decode cX12_colder 61 = .ok (.aload_n 0, 1) := by decide +kernel
theorem dX12_colder_62 : decode cX12_colder 62 = .ok (.aload_n 0, 1) := by decide +kernel
theorem dX12_colder_63 : decode cX12_colder 63 = .ok (.getfield 49, 3) := by decide +kernel
theorem dX12_colder_66 : decode cX12_colder 66 = .ok (.iload_n 1, 1) := by decide +kernel
theorem dX12_colder_67 : decode cX12_colder 67 = .ok (.invokevirtual 315, 3) := by decide +kernel
theorem dX12_colder_70 : decode cX12_colder 70 = .ok (.aload_n 0, 1) := by decide +kernel
theorem dX12_colder_71 : decode cX12_colder 71 = .ok (.getfield 49, 3) := by decide +kernel
theorem dX12_colder_74 : decode cX12_colder 74 = .ok (.iload_n 3, 1) := by decide +kernel
theorem dX12_colder_75 : decode cX12_colder 75 = .ok (.bipush 7, 2) := by decide +kernel
theorem dX12_colder_77 : decode cX12_colder 77 = .ok (.iadd, 1) := by decide +kernel
theorem dX12_colder_78 : decode cX12_colder 78 = .ok (.iaload, 1) := by decide +kernel
theorem dX12_colder_79 : decode cX12_colder 79 = .ok (.aload_n 0, 1) := by decide +kernel
theorem dX12_colder_80 : decode cX12_colder 80 = .ok (.getfield 49, 3) := by decide +kernel
theorem dX12_colder_83 : decode cX12_colder 83 = .ok (.iload_n 3, 1) := by decide +kernel
theorem dX12_colder_84 : decode cX12_colder 84 = .ok (.bipush 9, 2) := by decide +kernel
theorem dX12_colder_86 : decode cX12_colder 86 = .ok (.iadd, 1) := by decide +kernel
theorem dX12_colder_87 : decode cX12_colder 87 = .ok (.iaload, 1) := by decide +kernel
theorem dX12_colder_88 : decode cX12_colder 88 = .ok (.iload 4, 2) := by decide +kernel
theorem dX12_colder_90 : decode cX12_colder 90 = .ok (.invokevirtual 322, 3) := by decide +kernel
theorem dX12_colder_93 : decode cX12_colder 93 = .ok (.istore 5, 2) := by decide +kernel
theorem dX12_colder_95 : decode cX12_colder 95 = .ok (.aload_n 0, 1) := by decide +kernel
theorem dX12_colder_96 : decode cX12_colder 96 = .ok (.aload_n 0, 1) := by decide +kernel
theorem dX12_colder_97 : decode cX12_colder 97 = .ok (.getfield 49, 3) := by decide +kernel
theorem dX12_colder_100 : decode cX12_colder 100 = .ok (.iload_n 1, 1) := by decide +kernel
theorem dX12_colder_101 : decode cX12_colder 101 = .ok (.aload_n 0, 1) := by decide +kernel
theorem dX12_colder_102 : decode cX12_colder 102 = .ok (.getfield 49, 3) := by decide +kernel
theorem dX12_colder_105 : decode cX12_colder 105 = .ok (.iload_n 3, 1) := by decide +kernel
theorem dX12_colder_106 : decode cX12_colder 106 = .ok (.iconst 0, 1) := by decide +kernel
theorem dX12_colder_107 : decode cX12_colder 107 = .ok (.iadd, 1) := by decide +kernel
theorem dX12_colder_108 : decode cX12_colder 108 = .ok (.iaload, 1) := by decide +kernel
theorem dX12_colder_109 : decode cX12_colder 109 = .ok (.invokevirtual 369, 3) := by decide +kernel
theorem dX12_colder_112 : decode cX12_colder 112 = .ok (.aload_n 0, 1) := by decide +kernel
theorem dX12_colder_113 : decode cX12_colder 113 = .ok (.iload_n 1, 1) := by decide +kernel
theorem dX12_colder_114 : decode cX12_colder 114 = .ok (.aload_n 0, 1) := by decide +kernel
theorem dX12_colder_115 : decode cX12_colder 115 = .ok (.getfield 49, 3) := by decide +kernel
theorem dX12_colder_118 : decode cX12_colder 118 = .ok (.iload_n 3, 1) := by decide +kernel
theorem dX12_colder_119 : decode cX12_colder 119 = .ok (.iconst 0, 1) := by decide +kernel
theorem dX12_colder_120 : decode cX12_colder 120 = .ok (.iadd, 1) := by decide +kernel
theorem dX12_colder_121 : decode cX12_colder 121 = .ok (.iaload, 1) := by decide +kernel
theorem dX12_colder_122 : decode cX12_colder 122 = .ok (.iload 5, 2) := by decide +kernel
theorem dX12_colder_124 : decode cX12_colder 124 = .ok (.aload_n 0, 1) := by decide +kernel
theorem dX12_colder_125 : decode cX12_colder 125 = .ok (.getfield 49, 3) := by decide +kernel
theorem dX12_colder_128 : decode cX12_colder 128 = .ok (.iload_n 3, 1) := by decide +kernel
theorem dX12_colder_129 : decode cX12_colder 129 = .ok (.iconst 1, 1) := by decide +kernel
theorem dX12_colder_130 : decode cX12_colder 130 = .ok (.iadd, 1) := by decide +kernel
theorem dX12_colder_131 : decode cX12_colder 131 = .ok (.iaload, 1) := by decide +kernel
theorem dX12_colder_132 : decode cX12_colder 132 = .ok (.iload 4, 2) := by decide +kernel
theorem dX12_colder_134 : decode cX12_colder 134 = .ok (.invokevirtual 343, 3) := by decide +kernel
theorem dX12_colder_137 : decode cX12_colder 137 = .ok (.isub, 1) := by decide +kernel
theorem dX12_colder_138 : decode cX12_colder 138 = .ok (.ireturn, 1) := by decide +kernel
theorem dX12_isOfRound_0 : decode cX12_isOfRound 0 = .ok (.aload_n 0, 1) := by decide +kernel
theorem dX12_isOfRound_1 : decode cX12_isOfRound 1 = .ok (.getfield 49, 3) := by decide +kernel
theorem dX12_isOfRound_4 : decode cX12_isOfRound 4 = .ok (.bipush 71, 2) := by decide +kernel
theorem dX12_isOfRound_6 : decode cX12_isOfRound 6 = .ok (.iconst 5, 1) := by decide +kernel
theorem dX12_isOfRound_7 : decode cX12_isOfRound 7 = .ok (.iload_n 1, 1) := by decide +kernel
theorem dX12_isOfRound_8 : decode cX12_isOfRound 8 = .ok (.imul, 1) := by decide +kernel
theorem dX12_isOfRound_9 : decode cX12_isOfRound 9 = .ok (.iadd, 1) := by decide +kernel
theorem dX12_isOfRound_10 : decode cX12_isOfRound 10 = .ok (.iaload, 1) := by decide +kernel
theorem dX12_isOfRound_11 : decode cX12_isOfRound 11 = .ok (.iload_n 2, 1) := by decide +kernel
theorem dX12_isOfRound_12 : decode cX12_isOfRound 12 = .ok (.if_icmp .ne 24, 3) := by decide +kernel
theorem dX12_isOfRound_15 : decode cX12_isOfRound 15 = .ok (.aload_n 0, 1) := by decide +kernel
theorem dX12_isOfRound_16 : decode cX12_isOfRound 16 = .ok (.getfield 49, 3) := by decide +kernel
theorem dX12_isOfRound_19 : decode cX12_isOfRound 19 = .ok (.bipush 71, 2) := by decide +kernel
theorem dX12_isOfRound_21 : decode cX12_isOfRound 21 = .ok (.iconst 5, 1) := by decide +kernel
theorem dX12_isOfRound_22 : decode cX12_isOfRound 22 = .ok (.iload_n 1, 1) := by decide +kernel
theorem dX12_isOfRound_23 : decode cX12_isOfRound 23 = .ok (.imul, 1) := by decide +kernel
theorem dX12_isOfRound_24 : decode cX12_isOfRound 24 = .ok (.iadd, 1) := by decide +kernel
theorem dX12_isOfRound_25 : decode cX12_isOfRound 25 = .ok (.iconst 4, 1) := by decide +kernel
theorem dX12_isOfRound_26 : decode cX12_isOfRound 26 = .ok (.iadd, 1) := by decide +kernel
theorem dX12_isOfRound_27 : decode cX12_isOfRound 27 = .ok (.iaload, 1) := by decide +kernel
theorem dX12_isOfRound_28 : decode cX12_isOfRound 28 = .ok (.iload_n 3, 1) := by decide +kernel
theorem dX12_isOfRound_29 : decode cX12_isOfRound 29 = .ok (.if_icmp .ne 7, 3) := by decide +kernel
theorem dX12_isOfRound_32 : decode cX12_isOfRound 32 = .ok (.iconst 1, 1) := by decide +kernel
theorem dX12_isOfRound_33 : decode cX12_isOfRound 33 = .ok (.goto 4, 3) := by decide +kernel
theorem dX12_isOfRound_36 : decode cX12_isOfRound 36 = .ok (.iconst 0, 1) := by decide +kernel
theorem dX12_isOfRound_37 : decode cX12_isOfRound 37 = .ok (.ireturn, 1) := by decide +kernel
theorem dX12_isGoodLift_0 : decode cX12_isGoodLift 0 = .ok (.aload_n 0, 1) := by decide +kernel
theorem dX12_isGoodLift_1 : decode cX12_isGoodLift 1 = .ok (.getfield 49, 3) := by decide +kernel
theorem dX12_isGoodLift_4 : decode cX12_isGoodLift 4 = .ok (.bipush 71, 2) := by decide +kernel
theorem dX12_isGoodLift_6 : decode cX12_isGoodLift 6 = .ok (.iconst 5, 1) := by decide +kernel
theorem dX12_isGoodLift_7 : decode cX12_isGoodLift 7 = .ok (.iload_n 1, 1) := by decide +kernel
theorem dX12_isGoodLift_8 : decode cX12_isGoodLift 8 = .ok (.imul, 1) := by decide +kernel
theorem dX12_isGoodLift_9 : decode cX12_isGoodLift 9 = .ok (.iadd, 1) := by decide +kernel
theorem dX12_isGoodLift_10 : decode cX12_isGoodLift 10 = .ok (.iconst 2, 1) := by decide +kernel
theorem dX12_isGoodLift_11 : decode cX12_isGoodLift 11 = .ok (.iadd, 1) := by decide +kernel
theorem dX12_isGoodLift_12 : decode cX12_isGoodLift 12 = .ok (.iaload, 1) := by decide +kernel
theorem dX12_isGoodLift_13 : decode cX12_isGoodLift 13 = .ok (.invokestatic 304, 3) := by decide +kernel
theorem dX12_isGoodLift_16 : decode cX12_isGoodLift 16 = .ok (.ireturn, 1) := by decide +kernel
theorem dX12_much_0 : decode cX12_much 0 = .ok (.aload_n 0, 1) := by decide +kernel
theorem dX12_much_1 : decode cX12_much 1 = .ok (.iconst 0, 1) := by decide +kernel
theorem dX12_much_2 : decode cX12_much 2 = .ok (.putfield 103, 3) := by decide +kernel
theorem dX12_much_5 : decode cX12_much 5 = .ok (.aload_n 0, 1) := by decide +kernel
theorem dX12_much_6 : decode cX12_much 6 = .ok (.iload_n 1, 1) := by decide +kernel
theorem dX12_much_7 : decode cX12_much 7 = .ok (.invokevirtual 354, 3) := by decide +kernel
theorem dX12_much_10 : decode cX12_much 10 = .ok (.ifCond .eq 38, 3) := by decide +kernel
theorem dX12_much_13 : decode cX12_much 13 = .ok (.iload_n 2, 1) := by decide +kernel
theorem dX12_much_14 : decode cX12_much 14 = .ok (.i2l, 1) := by decide +kernel
theorem dX12_much_15 : decode cX12_much 15 = .ok (.lconst 0, 1) := by decide +kernel
theorem dX12_much_16 : decode cX12_much 16 = .ok (.lconst 1, 1) := by decide +kernel
theorem dX12_much_17 : decode cX12_much 17 = .ok (.invokestatic 224, 3) := by decide +kernel
theorem dX12_much_20 : decode cX12_much 20 = .ok (.ifCond .eq 28, 3) := by decide +kernel
theorem dX12_much_23 : decode cX12_much 23 = .ok (.iload_n 3, 1) := by decide +kernel
theorem dX12_much_24 : decode cX12_much 24 = .ok (.i2l, 1) := by decide +kernel
theorem dX12_much_25 : decode cX12_much 25 = .ok (.lconst 0, 1) := by decide +kernel
theorem dX12_much_26 : decode cX12_much 26 = .ok (.ldc2_w 458, 3) := by decide +kernel
theorem dX12_much_29 : decode cX12_much 29 = .ok (.invokestatic 224, 3) := by decide +kernel
theorem dX12_much_32 : decode cX12_much 32 = .ok (.ifCond .eq 16, 3) := by decide +kernel
theorem dX12_much_35 : decode cX12_much 35 = .ok (.iload 4, 2) := by decide +kernel
theorem dX12_much_37 : decode cX12_much 37 = .ok (.i2l, 1) := by decide +kernel
theorem dX12_much_38 : decode cX12_much 38 = .ok (.lconst 0, 1) := by decide +kernel
theorem dX12_much_39 : decode cX12_much 39 = .ok (.ldc2_w 460, 3) := by decide +kernel
theorem dX12_much_42 : decode cX12_much 42 = .ok (.invokestatic 224, 3) := by decide +kernel
theorem dX12_much_45 : decode cX12_much 45 = .ok (.ifCond .ne 7, 3) := by decide +kernel
theorem dX12_much_48 : decode cX12_much 48 = .ok (.ldc_w 376, 3) := by decide +kernel
theorem dX12_much_51 : decode cX12_much 51 = .ok (.ireturn, 1) := by decide +kernel
theorem dX12_much_52 : decode cX12_much 52 = .ok (.iconst 0, 1) := by decide +kernel
theorem dX12_much_53 : decode cX12_much 53 = .ok (.istore 5, 2) := by decide +kernel
theorem dX12_much_55 : decode cX12_much 55 = .ok (.iconst (-1), 1) := by decide +kernel
theorem dX12_much_56 : decode cX12_much 56 = .ok (.istore 6, 2) := by decide +kernel
theorem dX12_much_58 : decode cX12_much 58 = .ok (.iconst (-1), 1) := by decide +kernel
theorem dX12_much_59 : decode cX12_much 59 = .ok (.istore 7, 2) := by decide +kernel
theorem dX12_much_61 : decode cX12_much 61 = .ok (.iconst 0, 1) := by decide +kernel
theorem dX12_much_62 : decode cX12_much 62 = .ok (.istore 8, 2) := by decide +kernel
theorem dX12_much_64 : decode cX12_much 64 = .ok (.iload 8, 2) := by decide +kernel
theorem dX12_much_66 : decode cX12_much 66 = .ok (.bipush 120, 2) := by decide +kernel
theorem dX12_much_68 : decode cX12_much 68 = .ok (.if_icmp .gt 132, 3) := by decide +kernel
theorem dX12_much_71 : decode cX12_much 71 = .ok (.iconst 1, 1) := by decide +kernel
theorem dX12_much_72 : decode cX12_much 72 = .ok (.istore 9, 2) := by decide +kernel
theorem dX12_much_74 : decode cX12_much 74 = .ok (.iconst 0, 1) := by decide +kernel
theorem dX12_much_75 : decode cX12_much 75 = .ok (.istore 10, 2) := by decide +kernel
theorem dX12_much_77 : decode cX12_much 77 = .ok (.iload 10, 2) := by decide +kernel
theorem dX12_much_79 : decode cX12_much 79 = .ok (.aload_n 0, 1) := by decide +kernel
theorem dX12_much_80 : decode cX12_much 80 = .ok (.getfield 49, 3) := by decide +kernel
theorem dX12_much_83 : decode cX12_much 83 = .ok (.bipush 70, 2) := by decide +kernel
theorem dX12_much_85 : decode cX12_much 85 = .ok (.iaload, 1) := by decide +kernel
theorem dX12_much_86 : decode cX12_much 86 = .ok (.if_icmp .ge 78, 3) := by decide +kernel
theorem dX12_much_89 : decode cX12_much 89 = .ok (.aload_n 0, 1) := by decide +kernel
theorem dX12_much_90 : decode cX12_much 90 = .ok (.getfield 49, 3) := by decide +kernel
theorem dX12_much_93 : decode cX12_much 93 = .ok (.bipush 71, 2) := by decide +kernel
theorem dX12_much_95 : decode cX12_much 95 = .ok (.iconst 5, 1) := by decide +kernel
theorem dX12_much_96 : decode cX12_much 96 = .ok (.iload 10, 2) := by decide +kernel
theorem dX12_much_98 : decode cX12_much 98 = .ok (.imul, 1) := by decide +kernel
theorem dX12_much_99 : decode cX12_much 99 = .ok (.iadd, 1) := by decide +kernel
theorem dX12_much_100 : decode cX12_much 100 = .ok (.iconst 1, 1) := by decide +kernel
theorem dX12_much_101 : decode cX12_much 101 = .ok (.iadd, 1) := by decide +kernel
theorem dX12_much_102 : decode cX12_much 102 = .ok (.iaload, 1) := by decide +kernel
theorem dX12_much_103 : decode cX12_much 103 = .ok (.istore 11, 2) := by decide +kernel
theorem dX12_much_105 : decode cX12_much 105 = .ok (.iload 9, 2) := by decide +kernel
theorem dX12_much_107 : decode cX12_much 107 = .ok (.ifCond .eq 48, 3) := by decide +kernel
theorem dX12_much_110 : decode cX12_much 110 = .ok (.aload_n 0, 1) := by decide +kernel
theorem dX12_much_111 : decode cX12_much 111 = .ok (.iload 10, 2) := by decide +kernel
theorem dX12_much_113 : decode cX12_much 113 = .ok (.iload_n 1, 1) := by decide +kernel
theorem dX12_much_114 : decode cX12_much 114 = .ok (.iload_n 2, 1) := by decide +kernel
theorem dX12_much_115 : decode cX12_much 115 = .ok (.invokevirtual 462, 3) := by decide +kernel
theorem dX12_much_118 : decode cX12_much 118 = .ok (.ifCond .eq 33, 3) := by decide +kernel
theorem dX12_much_121 : decode cX12_much 121 = .ok (.aload_n 0, 1) := by decide +kernel
theorem dX12_much_122 : decode cX12_much 122 = .ok (.iload 10, 2) := by decide +kernel
theorem dX12_much_124 : decode cX12_much 124 = .ok (.invokevirtual 466, 3) := by decide +kernel
theorem dX12_much_127 : decode cX12_much 127 = .ok (.ifCond .eq 15, 3) := by decide +kernel
theorem dX12_much_130 : decode cX12_much 130 = .ok (.iload 11, 2) := by decide +kernel
theorem dX12_much_132 : decode cX12_much 132 = .ok (.iload 8, 2) := by decide +kernel
theorem dX12_much_134 : decode cX12_much 134 = .ok (.iload_n 3, 1) := by decide +kernel
theorem dX12_much_135 : decode cX12_much 135 = .ok (.iadd, 1) := by decide +kernel
theorem dX12_much_136 : decode cX12_much 136 = .ok (.if_icmp .gt 19, 3) := by decide +kernel
theorem dX12_much_139 : decode cX12_much 139 = .ok (.goto 12, 3) := by decide +kernel
theorem dX12_much_142 : decode cX12_much 142 = .ok (.iload 11, 2) := by decide +kernel
theorem dX12_much_144 : decode cX12_much 144 = .ok (.iload 8, 2) := by decide +kernel
theorem dX12_much_146 : decode cX12_much 146 = .ok (.iload_n 3, 1) := by decide +kernel
theorem dX12_much_147 : decode cX12_much 147 = .ok (.isub, 1) := by decide +kernel
theorem dX12_much_148 : decode cX12_much 148 = .ok (.if_icmp .lt 7, 3) := by decide +kernel
theorem dX12_much_151 : decode cX12_much 151 = .ok (.iconst 1, 1) := by decide +kernel
theorem dX12_much_152 : decode cX12_much 152 = .ok (.goto 4, 3) := by decide +kernel
theorem dX12_much_155 : decode cX12_much 155 = .ok (.iconst 0, 1) := by decide +kernel
theorem dX12_much_156 : decode cX12_much 156 = .ok (.istore 9, 2) := by decide +kernel
theorem dX12_much_158 : decode cX12_much 158 = .ok (.iinc 10 1, 3) := by decide +kernel
theorem dX12_much_161 : decode cX12_much 161 = .ok (.goto (-84), 3) := by decide +kernel
theorem dX12_much_164 : decode cX12_much 164 = .ok (.iload 9, 2) := by decide +kernel
theorem dX12_much_166 : decode cX12_much 166 = .ok (.ifCond .ne 6, 3) := by decide +kernel
theorem dX12_much_169 : decode cX12_much 169 = .ok (.goto 25, 3) := by decide +kernel
theorem dX12_much_172 : decode cX12_much 172 = .ok (.iinc 5 1, 3) := by decide +kernel
theorem dX12_much_175 : decode cX12_much 175 = .ok (.iload 6, 2) := by decide +kernel
theorem dX12_much_177 : decode cX12_much 177 = .ok (.iconst (-1), 1) := by decide +kernel
theorem dX12_much_178 : decode cX12_much 178 = .ok (.if_icmp .ne 8, 3) := by decide +kernel
theorem dX12_much_181 : decode cX12_much 181 = .ok (.iload 8, 2) := by decide +kernel
theorem dX12_much_183 : decode cX12_much 183 = .ok (.goto 5, 3) := by decide +kernel
theorem dX12_much_186 : decode cX12_much 186 = .ok (.iload 6, 2) := by decide +kernel
theorem dX12_much_188 : decode cX12_much 188 = .ok (.istore 6, 2) := by decide +kernel
theorem dX12_much_190 : decode cX12_much 190 = .ok (.iload 8, 2) := by decide +kernel
theorem dX12_much_192 : decode cX12_much 192 = .ok (.istore 7, 2) := by decide +kernel
theorem dX12_much_194 : decode cX12_much 194 = .ok (.iinc 8 1, 3) := by decide +kernel
theorem dX12_much_197 : decode cX12_much 197 = .ok (.goto (-133), 3) := by decide +kernel
theorem dX12_much_200 : decode cX12_much 200 = .ok (.iload 4, 2) := by decide +kernel
theorem dX12_much_202 : decode cX12_much 202 = .ok (.ifCond .ne 8, 3) := by decide +kernel
theorem dX12_much_205 : decode cX12_much 205 = .ok (.iload 5, 2) := by decide +kernel
theorem dX12_much_207 : decode cX12_much 207 = .ok (.goto 16, 3) := by decide +kernel
theorem dX12_much_210 : decode cX12_much 210 = .ok (.iload 4, 2) := by decide +kernel
theorem dX12_much_212 : decode cX12_much 212 = .ok (.iconst 1, 1) := by decide +kernel
theorem dX12_much_213 : decode cX12_much 213 = .ok (.if_icmp .ne 8, 3) := by decide +kernel
theorem dX12_much_216 : decode cX12_much 216 = .ok (.iload 6, 2) := by decide +kernel
theorem dX12_much_218 : decode cX12_much 218 = .ok (.goto 5, 3) := by decide +kernel
theorem dX12_much_221 : decode cX12_much 221 = .ok (.iload 7, 2) := by decide +kernel
theorem dX12_much_223 : decode cX12_much 223 = .ok (.ireturn, 1) := by decide +kernel
theorem dX12_lose_0 : decode cX12_lose 0 = .ok (.aload_n 0, 1) := by decide +kernel
theorem dX12_lose_1 : decode cX12_lose 1 = .ok (.iconst 0, 1) := by decide +kernel
theorem dX12_lose_2 : decode cX12_lose 2 = .ok (.putfield 103, 3) := by decide +kernel
theorem dX12_lose_5 : decode cX12_lose 5 = .ok (.aload_n 0, 1) := by decide +kernel
theorem dX12_lose_6 : decode cX12_lose 6 = .ok (.iload_n 1, 1) := by decide +kernel
theorem dX12_lose_7 : decode cX12_lose 7 = .ok (.invokevirtual 354, 3) := by decide +kernel
theorem dX12_lose_10 : decode cX12_lose 10 = .ok (.ifCond .eq 14, 3) := by decide +kernel
theorem dX12_lose_13 : decode cX12_lose 13 = .ok (.aload_n 0, 1) := by decide +kernel
theorem dX12_lose_14 : decode cX12_lose 14 = .ok (.getfield 49, 3) := by decide +kernel
theorem dX12_lose_17 : decode cX12_lose 17 = .ok (.iload_n 1, 1) := by decide +kernel
theorem dX12_lose_18 : decode cX12_lose 18 = .ok (.invokestatic 346, 3) := by decide +kernel
theorem dX12_lose_21 : decode cX12_lose 21 = .ok (.ifCond .ne 5, 3) := by decide +kernel
theorem dX12_lose_24 : decode cX12_lose 24 = .ok (.iconst (-1), 1) := by decide +kernel
theorem dX12_lose_25 : decode cX12_lose 25 = .ok (.ireturn, 1) := by decide +kernel
theorem dX12_lose_26 : decode cX12_lose 26 = .ok (.iconst 0, 1) := by decide +kernel
theorem dX12_lose_27 : decode cX12_lose 27 = .ok (.istore_n 2, 1) := by decide +kernel
theorem dX12_lose_28 : decode cX12_lose 28 = .ok (.iload_n 2, 1) := by decide +kernel
theorem dX12_lose_29 : decode cX12_lose 29 = .ok (.bipush 20, 2) := by decide +kernel
theorem dX12_lose_31 : decode cX12_lose 31 = .ok (.if_icmp .gt 114, 3) := by decide +kernel
theorem dX12_lose_34 : decode cX12_lose 34 = .ok (.iload_n 2, 1) := by decide +kernel
theorem dX12_lose_35 : decode cX12_lose 35 = .ok (.aload_n 0, 1) := by decide +kernel
theorem dX12_lose_36 : decode cX12_lose 36 = .ok (.getfield 37, 3) := by decide +kernel
theorem dX12_lose_39 : decode cX12_lose 39 = .ok (.bipush 10, 2) := by decide +kernel
theorem dX12_lose_41 : decode cX12_lose 41 = .ok (.iload_n 1, 1) := by decide +kernel
theorem dX12_lose_42 : decode cX12_lose 42 = .ok (.imul, 1) := by decide +kernel
theorem dX12_lose_43 : decode cX12_lose 43 = .ok (.iconst 2, 1) := by decide +kernel
theorem dX12_lose_44 : decode cX12_lose 44 = .ok (.iadd, 1) := by decide +kernel
theorem dX12_lose_45 : decode cX12_lose 45 = .ok (.iaload, 1) := by decide +kernel
theorem dX12_lose_46 : decode cX12_lose 46 = .ok (.if_icmp .ge 99, 3) := by decide +kernel
theorem dX12_lose_49 : decode cX12_lose 49 = .ok (.iconst 1, 1) := by decide +kernel
theorem dX12_lose_50 : decode cX12_lose 50 = .ok (.istore_n 3, 1) := by decide +kernel
theorem dX12_lose_51 : decode cX12_lose 51 = .ok (.iconst 0, 1) := by decide +kernel
theorem dX12_lose_52 : decode cX12_lose 52 = .ok (.istore 4, 2) := by decide +kernel
theorem dX12_lose_54 : decode cX12_lose 54 = .ok (.iload 4, 2) := by decide +kernel
theorem dX12_lose_56 : decode cX12_lose 56 = .ok (.aload_n 0, 1) := by decide +kernel
theorem dX12_lose_57 : decode cX12_lose 57 = .ok (.getfield 278, 3) := by decide +kernel
theorem dX12_lose_60 : decode cX12_lose 60 = .ok (.if_icmp .ge 73, 3) := by decide +kernel
theorem dX12_lose_63 : decode cX12_lose 63 = .ok (.iload_n 3, 1) := by decide +kernel
theorem dX12_lose_64 : decode cX12_lose 64 = .ok (.ifCond .eq 61, 3) := by decide +kernel
theorem dX12_lose_67 : decode cX12_lose 67 = .ok (.iload 4, 2) := by decide +kernel
theorem dX12_lose_69 : decode cX12_lose 69 = .ok (.iload_n 1, 1) := by decide +kernel
theorem dX12_lose_70 : decode cX12_lose 70 = .ok (.if_icmp .eq 51, 3) := by decide +kernel
theorem dX12_lose_73 : decode cX12_lose 73 = .ok (.aload_n 0, 1) := by decide +kernel
theorem dX12_lose_74 : decode cX12_lose 74 = .ok (.getfield 49, 3) := by decide +kernel
theorem dX12_lose_77 : decode cX12_lose 77 = .ok (.iload 4, 2) := by decide +kernel
theorem dX12_lose_79 : decode cX12_lose 79 = .ok (.invokestatic 346, 3) := by decide +kernel
theorem dX12_lose_82 : decode cX12_lose 82 = .ok (.aload_n 0, 1) := by decide +kernel
theorem dX12_lose_83 : decode cX12_lose 83 = .ok (.getfield 49, 3) := by decide +kernel
theorem dX12_lose_86 : decode cX12_lose 86 = .ok (.iload_n 1, 1) := by decide +kernel
theorem dX12_lose_87 : decode cX12_lose 87 = .ok (.invokestatic 346, 3) := by decide +kernel
theorem dX12_lose_90 : decode cX12_lose 90 = .ok (.if_icmp .ne 31, 3) := by decide +kernel
theorem dX12_lose_93 : decode cX12_lose 93 = .ok (.aload_n 0, 1) := by decide +kernel
theorem dX12_lose_94 : decode cX12_lose 94 = .ok (.getfield 37, 3) := by decide +kernel
theorem dX12_lose_97 : decode cX12_lose 97 = .ok (.bipush 10, 2) := by decide +kernel
theorem dX12_lose_99 : decode cX12_lose 99 = .ok (.iload_n 1, 1) := by decide +kernel
theorem dX12_lose_100 : decode cX12_lose 100 = .ok (.imul, 1) := by decide +kernel
theorem dX12_lose_101 : decode cX12_lose 101 = .ok (.iconst 2, 1) := by decide +kernel
theorem dX12_lose_102 : decode cX12_lose 102 = .ok (.iadd, 1) := by decide +kernel
theorem dX12_lose_103 : decode cX12_lose 103 = .ok (.iaload, 1) := by decide +kernel
theorem dX12_lose_104 : decode cX12_lose 104 = .ok (.iload_n 2, 1) := by decide +kernel
theorem dX12_lose_105 : decode cX12_lose 105 = .ok (.isub, 1) := by decide +kernel
theorem dX12_lose_106 : decode cX12_lose 106 = .ok (.aload_n 0, 1) := by decide +kernel
theorem dX12_lose_107 : decode cX12_lose 107 = .ok (.getfield 37, 3) := by decide +kernel
theorem dX12_lose_110 : decode cX12_lose 110 = .ok (.bipush 10, 2) := by decide +kernel
theorem dX12_lose_112 : decode cX12_lose 112 = .ok (.iload 4, 2) := by decide +kernel
theorem dX12_lose_114 : decode cX12_lose 114 = .ok (.imul, 1) := by decide +kernel
theorem dX12_lose_115 : decode cX12_lose 115 = .ok (.iconst 2, 1) := by decide +kernel
theorem dX12_lose_116 : decode cX12_lose 116 = .ok (.iadd, 1) := by decide +kernel
theorem dX12_lose_117 : decode cX12_lose 117 = .ok (.iaload, 1) := by decide +kernel
theorem dX12_lose_118 : decode cX12_lose 118 = .ok (.if_icmp .ge 7, 3) := by decide +kernel
theorem dX12_lose_121 : decode cX12_lose 121 = .ok (.iconst 1, 1) := by decide +kernel
theorem dX12_lose_122 : decode cX12_lose 122 = .ok (.goto 4, 3) := by decide +kernel
theorem dX12_lose_125 : decode cX12_lose 125 = .ok (.iconst 0, 1) := by decide +kernel
theorem dX12_lose_126 : decode cX12_lose 126 = .ok (.istore_n 3, 1) := by decide +kernel
theorem dX12_lose_127 : decode cX12_lose 127 = .ok (.iinc 4 1, 3) := by decide +kernel
theorem dX12_lose_130 : decode cX12_lose 130 = .ok (.goto (-76), 3) := by decide +kernel
theorem dX12_lose_133 : decode cX12_lose 133 = .ok (.iload_n 3, 1) := by decide +kernel
theorem dX12_lose_134 : decode cX12_lose 134 = .ok (.ifCond .eq 5, 3) := by decide +kernel
theorem dX12_lose_137 : decode cX12_lose 137 = .ok (.iload_n 2, 1) := by decide +kernel
theorem dX12_lose_138 : decode cX12_lose 138 = .ok (.ireturn, 1) := by decide +kernel
theorem dX12_lose_139 : decode cX12_lose 139 = .ok (.iinc 2 1, 3) := by decide +kernel
theorem dX12_lose_142 : decode cX12_lose 142 = .ok (.goto (-114), 3) := by decide +kernel
theorem dX12_lose_145 : decode cX12_lose 145 = .ok (.iconst (-1), 1) := by decide +kernel
theorem dX12_lose_146 : decode cX12_lose 146 = .ok (.ireturn, 1) := by decide +kernel
theorem dX12_judge_0 : decode cX12_judge 0 = .ok (.aload_n 0, 1) := by decide +kernel
theorem dX12_judge_1 : decode cX12_judge 1 = .ok (.iconst 0, 1) := by decide +kernel
theorem dX12_judge_2 : decode cX12_judge 2 = .ok (.putfield 103, 3) := by decide +kernel
theorem dX12_judge_5 : decode cX12_judge 5 = .ok (.aload_n 0, 1) := by decide +kernel
theorem dX12_judge_6 : decode cX12_judge 6 = .ok (.getfield 278, 3) := by decide +kernel
theorem dX12_judge_9 : decode cX12_judge 9 = .ok (.ifCond .eq 25, 3) := by decide +kernel
theorem dX12_judge_12 : decode cX12_judge 12 = .ok (.iload_n 1, 1) := by decide +kernel
theorem dX12_judge_13 : decode cX12_judge 13 = .ok (.i2l, 1) := by decide +kernel
theorem dX12_judge_14 : decode cX12_judge 14 = .ok (.lconst 0, 1) := by decide +kernel
theorem dX12_judge_15 : decode cX12_judge 15 = .ok (.ldc2_w 460, 3) := by decide +kernel
theorem dX12_judge_18 : decode cX12_judge 18 = .ok (.invokestatic 224, 3) := by decide +kernel
theorem dX12_judge_21 : decode cX12_judge 21 = .ok (.ifCond .eq 13, 3) := by decide +kernel
theorem dX12_judge_24 : decode cX12_judge 24 = .ok (.iload_n 2, 1) := by decide +kernel
theorem dX12_judge_25 : decode cX12_judge 25 = .ok (.i2l, 1) := by decide +kernel
theorem dX12_judge_26 : decode cX12_judge 26 = .ok (.lconst 0, 1) := by decide +kernel
theorem dX12_judge_27 : decode cX12_judge 27 = .ok (.lconst 1, 1) := by decide +kernel
theorem dX12_judge_28 : decode cX12_judge 28 = .ok (.invokestatic 224, 3) := by decide +kernel
theorem dX12_judge_31 : decode cX12_judge 31 = .ok (.ifCond .ne 5, 3) := by decide +kernel
theorem dX12_judge_34 : decode cX12_judge 34 = .ok (.iconst (-1), 1) := by decide +kernel
theorem dX12_judge_35 : decode cX12_judge 35 = .ok (.ireturn, 1) := by decide +kernel
theorem dX12_judge_36 : decode cX12_judge 36 = .ok (.iconst 0, 1) := by decide +kernel
theorem dX12_judge_37 : decode cX12_judge 37 = .ok (.istore_n 3, 1) := by decide +kernel
theorem dX12_judge_38 : decode cX12_judge 38 = .ok (.iconst 0, 1) := by decide +kernel
theorem dX12_judge_39 : decode cX12_judge 39 = .ok (.istore 4, 2) := by decide +kernel
theorem dX12_judge_41 : decode cX12_judge 41 = .ok (.iload 4, 2) := by decide +kernel
theorem dX12_judge_43 : decode cX12_judge 43 = .ok (.aload_n 0, 1) := by decide +kernel
theorem dX12_judge_44 : decode cX12_judge 44 = .ok (.getfield 49, 3) := by decide +kernel
theorem dX12_judge_47 : decode cX12_judge 47 = .ok (.bipush 70, 2) := by decide +kernel
theorem dX12_judge_49 : decode cX12_judge 49 = .ok (.iaload, 1) := by decide +kernel
theorem dX12_judge_50 : decode cX12_judge 50 = .ok (.if_icmp .ge 87, 3) := by decide +kernel
theorem dX12_judge_53 : decode cX12_judge 53 = .ok (.aload_n 0, 1) := by decide +kernel
theorem dX12_judge_54 : decode cX12_judge 54 = .ok (.getfield 49, 3) := by decide +kernel
theorem dX12_judge_57 : decode cX12_judge 57 = .ok (.bipush 71, 2) := by decide +kernel
theorem dX12_judge_59 : decode cX12_judge 59 = .ok (.iconst 5, 1) := by decide +kernel
theorem dX12_judge_60 : decode cX12_judge 60 = .ok (.iload 4, 2) := by decide +kernel
theorem dX12_judge_62 : decode cX12_judge 62 = .ok (.imul, 1) := by decide +kernel
theorem dX12_judge_63 : decode cX12_judge 63 = .ok (.iadd, 1) := by decide +kernel
theorem dX12_judge_64 : decode cX12_judge 64 = .ok (.iconst 2, 1) := by decide +kernel
theorem dX12_judge_65 : decode cX12_judge 65 = .ok (.iadd, 1) := by decide +kernel
theorem dX12_judge_66 : decode cX12_judge 66 = .ok (.iaload, 1) := by decide +kernel
theorem dX12_judge_67 : decode cX12_judge 67 = .ok (.istore 5, 2) := by decide +kernel
theorem dX12_judge_69 : decode cX12_judge 69 = .ok (.iload 5, 2) := by decide +kernel
theorem dX12_judge_71 : decode cX12_judge 71 = .ok (.iconst 1, 1) := by decide +kernel
theorem dX12_judge_72 : decode cX12_judge 72 = .ok (.iload_n 1, 1) := by decide +kernel
theorem dX12_judge_73 : decode cX12_judge 73 = .ok (.ishl, 1) := by decide +kernel
theorem dX12_judge_74 : decode cX12_judge 74 = .ok (.iconst (-1), 1) := by decide +kernel
theorem dX12_judge_75 : decode cX12_judge 75 = .ok (.ixor, 1) := by decide +kernel
theorem dX12_judge_76 : decode cX12_judge 76 = .ok (.iand, 1) := by decide +kernel
theorem dX12_judge_77 : decode cX12_judge 77 = .ok (.invokestatic 299, 3) := by decide +kernel
theorem dX12_judge_80 : decode cX12_judge 80 = .ok (.istore 6, 2) := by decide +kernel
theorem dX12_judge_82 : decode cX12_judge 82 = .ok (.iload_n 3, 1) := by decide +kernel
theorem dX12_judge_83 : decode cX12_judge 83 = .ok (.iload_n 2, 1) := by decide +kernel
theorem dX12_judge_84 : decode cX12_judge 84 = .ok (.ifCond .ne 12, 3) := by decide +kernel
theorem dX12_judge_87 : decode cX12_judge 87 = .ok (.iload 5, 2) := by decide +kernel
theorem dX12_judge_89 : decode cX12_judge 89 = .ok (.iload_n 1, 1) := by decide +kernel
theorem dX12_judge_90 : decode cX12_judge 90 = .ok (.ishr, 1) := by decide +kernel
theorem dX12_judge_91 : decode cX12_judge 91 = .ok (.iconst 1, 1) := by decide +kernel
theorem dX12_judge_92 : decode cX12_judge 92 = .ok (.iand, 1) := by decide +kernel
theorem dX12_judge_93 : decode cX12_judge 93 = .ok (.goto 36, 3) := by decide +kernel
theorem dX12_judge_96 : decode cX12_judge 96 = .ok (.iload 5, 2) := by decide +kernel
theorem dX12_judge_98 : decode cX12_judge 98 = .ok (.iload_n 1, 1) := by decide +kernel
theorem dX12_judge_99 : decode cX12_judge 99 = .ok (.invokestatic 236, 3) := by decide +kernel
theorem dX12_judge_102 : decode cX12_judge 102 = .ok (.ifCond .eq 16, 3) := by decide +kernel
theorem dX12_judge_105 : decode cX12_judge 105 = .ok (.iload 6, 2) := by decide +kernel
theorem dX12_judge_107 : decode cX12_judge 107 = .ok (.ifCond .ne 7, 3) := by decide +kernel
theorem dX12_judge_110 : decode cX12_judge 110 = .ok (.iconst 1, 1) := by decide +kernel
theorem dX12_judge_111 : decode cX12_judge 111 = .ok (.goto 18, 3) := by decide +kernel
theorem dX12_judge_114 : decode cX12_judge 114 = .ok (.iconst 0, 1) := by decide +kernel
theorem dX12_judge_115 : decode cX12_judge 115 = .ok (.goto 14, 3) := by decide +kernel
theorem dX12_judge_118 : decode cX12_judge 118 = .ok (.iload 6, 2) := by decide +kernel
theorem dX12_judge_120 : decode cX12_judge 120 = .ok (.iconst 2, 1) := by decide +kernel
theorem dX12_judge_121 : decode cX12_judge 121 = .ok (.if_icmp .ne 7, 3) := by decide +kernel
theorem dX12_judge_124 : decode cX12_judge 124 = .ok (.iconst 1, 1) := by decide +kernel
theorem dX12_judge_125 : decode cX12_judge 125 = .ok (.goto 4, 3) := by decide +kernel
theorem dX12_judge_128 : decode cX12_judge 128 = .ok (.iconst 0, 1) := by decide +kernel
theorem dX12_judge_129 : decode cX12_judge 129 = .ok (.iadd, 1) := by decide +kernel
theorem dX12_judge_130 : decode cX12_judge 130 = .ok (.istore_n 3, 1) := by decide +kernel
theorem dX12_judge_131 : decode cX12_judge 131 = .ok (.iinc 4 1, 3) := by decide +kernel
theorem dX12_judge_134 : decode cX12_judge 134 = .ok (.goto (-93), 3) := by decide +kernel
theorem dX12_judge_137 : decode cX12_judge 137 = .ok (.iload_n 3, 1) := by decide +kernel
theorem dX12_judge_138 : decode cX12_judge 138 = .ok (.ireturn, 1) := by decide +kernel
theorem dX12_layOrder_0 : decode cX12_layOrder 0 = .ok (.iload_n 1, 1) := by decide +kernel
theorem dX12_layOrder_1 : decode cX12_layOrder 1 = .ok (.ifCond .ge 5, 3) := by decide +kernel
theorem dX12_layOrder_4 : decode cX12_layOrder 4 = .ok (.iconst 0, 1) := by decide +kernel
theorem dX12_layOrder_5 : decode cX12_layOrder 5 = .ok (.ireturn, 1) := by decide +kernel
theorem dX12_layOrder_6 : decode cX12_layOrder 6 = .ok (.iload_n 1, 1) := by decide +kernel
theorem dX12_layOrder_7 : decode cX12_layOrder 7 = .ok (.istore_n 2, 1) := by decide +kernel
theorem dX12_layOrder_8 : decode cX12_layOrder 8 = .ok (.iconst 0, 1) := by decide +kernel
theorem dX12_layOrder_9 : decode cX12_layOrder 9 = .ok (.istore_n 3, 1) := by decide +kernel
theorem dX12_layOrder_10 : decode cX12_layOrder 10 = .ok (.aload_n 0, 1) := by decide +kernel
theorem dX12_layOrder_11 : decode cX12_layOrder 11 = .ok (.getfield 278, 3) := by decide +kernel
theorem dX12_layOrder_14 : decode cX12_layOrder 14 = .ok (.iconst 1, 1) := by decide +kernel
theorem dX12_layOrder_15 : decode cX12_layOrder 15 = .ok (.isub, 1) := by decide +kernel
theorem dX12_layOrder_16 : decode cX12_layOrder 16 = .ok (.istore 4, 2) := by decide +kernel
theorem dX12_layOrder_18 : decode cX12_layOrder 18 = .ok (.iload 4, 2) := by decide +kernel
theorem dX12_layOrder_20 : decode cX12_layOrder 20 = .ok (.ifCond .lt 67, 3) := by decide +kernel
theorem dX12_layOrder_23 : decode cX12_layOrder 23 = .ok (.aload_n 0, 1) := by decide +kernel
theorem dX12_layOrder_24 : decode cX12_layOrder 24 = .ok (.getfield 94, 3) := by decide +kernel
theorem dX12_layOrder_27 : decode cX12_layOrder 27 = .ok (.iload 4, 2) := by decide +kernel
theorem dX12_layOrder_29 : decode cX12_layOrder 29 = .ok (.iload_n 2, 1) := by decide +kernel
theorem dX12_layOrder_30 : decode cX12_layOrder 30 = .ok (.bipush 10, 2) := by decide +kernel
theorem dX12_layOrder_32 : decode cX12_layOrder 32 = .ok (.irem, 1) := by decide +kernel
theorem dX12_layOrder_33 : decode cX12_layOrder 33 = .ok (.iastore, 1) := by decide +kernel
theorem dX12_layOrder_34 : decode cX12_layOrder 34 = .ok (.iload_n 2, 1) := by decide +kernel
theorem dX12_layOrder_35 : decode cX12_layOrder 35 = .ok (.bipush 10, 2) := by decide +kernel
theorem dX12_layOrder_37 : decode cX12_layOrder 37 = .ok (.idiv, 1) := by decide +kernel
theorem dX12_layOrder_38 : decode cX12_layOrder 38 = .ok (.istore_n 2, 1) := by decide +kernel
theorem dX12_layOrder_39 : decode cX12_layOrder 39 = .ok (.aload_n 0, 1) := by decide +kernel
theorem dX12_layOrder_40 : decode cX12_layOrder 40 = .ok (.getfield 94, 3) := by decide +kernel
theorem dX12_layOrder_43 : decode cX12_layOrder 43 = .ok (.iload 4, 2) := by decide +kernel
theorem dX12_layOrder_45 : decode cX12_layOrder 45 = .ok (.iaload, 1) := by decide +kernel
theorem dX12_layOrder_46 : decode cX12_layOrder 46 = .ok (.aload_n 0, 1) := by decide +kernel
theorem dX12_layOrder_47 : decode cX12_layOrder 47 = .ok (.getfield 278, 3) := by decide +kernel
theorem dX12_layOrder_50 : decode cX12_layOrder 50 = .ok (.if_icmp .ge 17, 3) := by decide +kernel
theorem dX12_layOrder_53 : decode cX12_layOrder 53 = .ok (.iload_n 3, 1) := by decide +kernel
theorem dX12_layOrder_54 : decode cX12_layOrder 54 = .ok (.aload_n 0, 1) := by decide +kernel
theorem dX12_layOrder_55 : decode cX12_layOrder 55 = .ok (.getfield 94, 3) := by decide +kernel
theorem dX12_layOrder_58 : decode cX12_layOrder 58 = .ok (.iload 4, 2) := by decide +kernel
theorem dX12_layOrder_60 : decode cX12_layOrder 60 = .ok (.iaload, 1) := by decide +kernel
theorem dX12_layOrder_61 : decode cX12_layOrder 61 = .ok (.invokestatic 236, 3) := by decide +kernel
theorem dX12_layOrder_64 : decode cX12_layOrder 64 = .ok (.ifCond .eq 5, 3) := by decide +kernel
theorem dX12_layOrder_67 : decode cX12_layOrder 67 = .ok (.iconst 0, 1) := by decide +kernel
theorem dX12_layOrder_68 : decode cX12_layOrder 68 = .ok (.ireturn, 1) := by decide +kernel
theorem dX12_layOrder_69 : decode cX12_layOrder 69 = .ok (.iload_n 3, 1) := by decide +kernel
theorem dX12_layOrder_70 : decode cX12_layOrder 70 = .ok (.iconst 1, 1) := by decide +kernel
theorem dX12_layOrder_71 : decode cX12_layOrder 71 = .ok (.aload_n 0, 1) := by decide +kernel
theorem dX12_layOrder_72 : decode cX12_layOrder 72 = .ok (.getfield 94, 3) := by decide +kernel
theorem dX12_layOrder_75 : decode cX12_layOrder 75 = .ok (.iload 4, 2) := by decide +kernel
theorem dX12_layOrder_77 : decode cX12_layOrder 77 = .ok (.iaload, 1) := by decide +kernel
theorem dX12_layOrder_78 : decode cX12_layOrder 78 = .ok (.ishl, 1) := by decide +kernel
theorem dX12_layOrder_79 : decode cX12_layOrder 79 = .ok (.ior, 1) := by decide +kernel
theorem dX12_layOrder_80 : decode cX12_layOrder 80 = .ok (.istore_n 3, 1) := by decide +kernel
theorem dX12_layOrder_81 : decode cX12_layOrder 81 = .ok (.iinc 4 (-1), 3) := by decide +kernel
theorem dX12_layOrder_84 : decode cX12_layOrder 84 = .ok (.goto (-66), 3) := by decide +kernel
theorem dX12_layOrder_87 : decode cX12_layOrder 87 = .ok (.iload_n 2, 1) := by decide +kernel
theorem dX12_layOrder_88 : decode cX12_layOrder 88 = .ok (.ifCond .ne 7, 3) := by decide +kernel
theorem dX12_layOrder_91 : decode cX12_layOrder 91 = .ok (.iconst 1, 1) := by decide +kernel
theorem dX12_layOrder_92 : decode cX12_layOrder 92 = .ok (.goto 4, 3) := by decide +kernel
theorem dX12_layOrder_95 : decode cX12_layOrder 95 = .ok (.iconst 0, 1) := by decide +kernel
theorem dX12_layOrder_96 : decode cX12_layOrder 96 = .ok (.ireturn, 1) := by decide +kernel
theorem dX12_calls_0 : decode cX12_calls 0 = .ok (.aload_n 0, 1) := by decide +kernel
theorem dX12_calls_1 : decode cX12_calls 1 = .ok (.iconst 0, 1) := by decide +kernel
theorem dX12_calls_2 : decode cX12_calls 2 = .ok (.putfield 103, 3) := by decide +kernel
theorem dX12_calls_5 : decode cX12_calls 5 = .ok (.aload_n 0, 1) := by decide +kernel
theorem dX12_calls_6 : decode cX12_calls 6 = .ok (.getfield 278, 3) := by decide +kernel
theorem dX12_calls_9 : decode cX12_calls 9 = .ok (.ifCond .eq 49, 3) := by decide +kernel
theorem dX12_calls_12 : decode cX12_calls 12 = .ok (.aload_n 0, 1) := by decide +kernel
theorem dX12_calls_13 : decode cX12_calls 13 = .ok (.getfield 278, 3) := by decide +kernel
theorem dX12_calls_16 : decode cX12_calls 16 = .ok (.iconst 4, 1) := by decide +kernel
theorem dX12_calls_17 : decode cX12_calls 17 = .ok (.if_icmp .gt 41, 3) := by decide +kernel
theorem dX12_calls_20 : decode cX12_calls 20 = .ok (.iload_n 2, 1) := by decide +kernel
theorem dX12_calls_21 : decode cX12_calls 21 = .ok (.i2l, 1) := by decide +kernel
theorem dX12_calls_22 : decode cX12_calls 22 = .ok (.lconst 1, 1) := by decide +kernel
theorem dX12_calls_23 : decode cX12_calls 23 = .ok (.ldc2_w 469, 3) := by decide +kernel
theorem dX12_calls_26 : decode cX12_calls 26 = .ok (.invokestatic 224, 3) := by decide +kernel
theorem dX12_calls_29 : decode cX12_calls 29 = .ok (.ifCond .eq 29, 3) := by decide +kernel
theorem dX12_calls_32 : decode cX12_calls 32 = .ok (.iload_n 3, 1) := by decide +kernel
theorem dX12_calls_33 : decode cX12_calls 33 = .ok (.i2l, 1) := by decide +kernel
theorem dX12_calls_34 : decode cX12_calls 34 = .ok (.lconst 1, 1) := by decide +kernel
theorem dX12_calls_35 : decode cX12_calls 35 = .ok (.ldc2_w 471, 3) := by decide +kernel
theorem dX12_calls_38 : decode cX12_calls 38 = .ok (.invokestatic 224, 3) := by decide +kernel
theorem dX12_calls_41 : decode cX12_calls 41 = .ok (.ifCond .eq 17, 3) := by decide +kernel
theorem dX12_calls_44 : decode cX12_calls 44 = .ok (.iload 4, 2) := by decide +kernel
theorem dX12_calls_46 : decode cX12_calls 46 = .ok (.iconst (-1), 1) := by decide +kernel
theorem dX12_calls_47 : decode cX12_calls 47 = .ok (.if_icmp .lt 11, 3) := by decide +kernel
theorem dX12_calls_50 : decode cX12_calls 50 = .ok (.aload_n 0, 1) := by decide +kernel
theorem dX12_calls_51 : decode cX12_calls 51 = .ok (.iload_n 1, 1) := by decide +kernel
theorem dX12_calls_52 : decode cX12_calls 52 = .ok (.invokevirtual 473, 3) := by decide +kernel
theorem dX12_calls_55 : decode cX12_calls 55 = .ok (.ifCond .ne 5, 3) := by decide +kernel
theorem dX12_calls_58 : decode cX12_calls 58 = .ok (.iconst (-1), 1) := by decide +kernel
theorem dX12_calls_59 : decode cX12_calls 59 = .ok (.ireturn, 1) := by decide +kernel
theorem dX12_calls_60 : decode cX12_calls 60 = .ok (.iconst 1, 1) := by decide +kernel
theorem dX12_calls_61 : decode cX12_calls 61 = .ok (.istore 5, 2) := by decide +kernel
theorem dX12_calls_63 : decode cX12_calls 63 = .ok (.iconst 0, 1) := by decide +kernel
theorem dX12_calls_64 : decode cX12_calls 64 = .ok (.istore 6, 2) := by decide +kernel
theorem dX12_calls_66 : decode cX12_calls 66 = .ok (.iload 6, 2) := by decide +kernel
theorem dX12_calls_68 : decode cX12_calls 68 = .ok (.aload_n 0, 1) := by decide +kernel
theorem dX12_calls_69 : decode cX12_calls 69 = .ok (.getfield 278, 3) := by decide +kernel
theorem dX12_calls_72 : decode cX12_calls 72 = .ok (.if_icmp .ge 15, 3) := by decide +kernel
theorem dX12_calls_75 : decode cX12_calls 75 = .ok (.iload 5, 2) := by decide +kernel
theorem dX12_calls_77 : decode cX12_calls 77 = .ok (.iload_n 3, 1) := by decide +kernel
theorem dX12_calls_78 : decode cX12_calls 78 = .ok (.imul, 1) := by decide +kernel
theorem dX12_calls_79 : decode cX12_calls 79 = .ok (.istore 5, 2) := by decide +kernel
theorem dX12_calls_81 : decode cX12_calls 81 = .ok (.iinc 6 1, 3) := by decide +kernel
theorem dX12_calls_84 : decode cX12_calls 84 = .ok (.goto (-18), 3) := by decide +kernel
theorem dX12_calls_87 : decode cX12_calls 87 = .ok (.iconst 0, 1) := by decide +kernel
theorem dX12_calls_88 : decode cX12_calls 88 = .ok (.istore 6, 2) := by decide +kernel
theorem dX12_calls_90 : decode cX12_calls 90 = .ok (.iconst 0, 1) := by decide +kernel
theorem dX12_calls_91 : decode cX12_calls 91 = .ok (.istore 7, 2) := by decide +kernel
theorem dX12_calls_93 : decode cX12_calls 93 = .ok (.iload 7, 2) := by decide +kernel
theorem dX12_calls_95 : decode cX12_calls 95 = .ok (.iload 5, 2) := by decide +kernel
theorem dX12_calls_97 : decode cX12_calls 97 = .ok (.if_icmp .ge 200, 3) := by decide +kernel
theorem dX12_calls_100 : decode cX12_calls 100 = .ok (.iload 7, 2) := by decide +kernel
theorem dX12_calls_102 : decode cX12_calls 102 = .ok (.istore 8, 2) := by decide +kernel
theorem dX12_calls_104 : decode cX12_calls 104 = .ok (.aload_n 0, 1) := by decide +kernel
theorem dX12_calls_105 : decode cX12_calls 105 = .ok (.getfield 278, 3) := by decide +kernel
theorem dX12_calls_108 : decode cX12_calls 108 = .ok (.iconst 1, 1) := by decide +kernel
theorem dX12_calls_109 : decode cX12_calls 109 = .ok (.isub, 1) := by decide +kernel
theorem dX12_calls_110 : decode cX12_calls 110 = .ok (.istore 9, 2) := by decide +kernel
theorem dX12_calls_112 : decode cX12_calls 112 = .ok (.iload 9, 2) := by decide +kernel
theorem dX12_calls_114 : decode cX12_calls 114 = .ok (.ifCond .lt 26, 3) := by decide +kernel
theorem dX12_calls_117 : decode cX12_calls 117 = .ok (.aload_n 0, 1) := by decide +kernel
theorem dX12_calls_118 : decode cX12_calls 118 = .ok (.getfield 97, 3) := by decide +kernel
theorem dX12_calls_121 : decode cX12_calls 121 = .ok (.iload 9, 2) := by decide +kernel
theorem dX12_calls_123 : decode cX12_calls 123 = .ok (.iload 8, 2) := by decide +kernel
theorem dX12_calls_125 : decode cX12_calls 125 = .ok (.iload_n 3, 1) := by decide +kernel
theorem dX12_calls_126 : decode cX12_calls 126 = .ok (.irem, 1) := by decide +kernel
theorem dX12_calls_127 : decode cX12_calls 127 = .ok (.iastore, 1) := by decide +kernel
theorem dX12_calls_128 : decode cX12_calls 128 = .ok (.iload 8, 2) := by decide +kernel
theorem dX12_calls_130 : decode cX12_calls 130 = .ok (.iload_n 3, 1) := by decide +kernel
theorem dX12_calls_131 : decode cX12_calls 131 = .ok (.idiv, 1) := by decide +kernel
theorem dX12_calls_132 : decode cX12_calls 132 = .ok (.istore 8, 2) := by decide +kernel
theorem dX12_calls_134 : decode cX12_calls 134 = .ok (.iinc 9 (-1), 3) := by decide +kernel
theorem dX12_calls_137 : decode cX12_calls 137 = .ok (.goto (-25), 3) := by decide +kernel
theorem dX12_calls_140 : decode cX12_calls 140 = .ok (.iconst 1, 1) := by decide +kernel
theorem dX12_calls_141 : decode cX12_calls 141 = .ok (.istore 9, 2) := by decide +kernel
theorem dX12_calls_143 : decode cX12_calls 143 = .ok (.iconst 1, 1) := by decide +kernel
theorem dX12_calls_144 : decode cX12_calls 144 = .ok (.istore 10, 2) := by decide +kernel
theorem dX12_calls_146 : decode cX12_calls 146 = .ok (.iload 10, 2) := by decide +kernel
theorem dX12_calls_148 : decode cX12_calls 148 = .ok (.aload_n 0, 1) := by decide +kernel
theorem dX12_calls_149 : decode cX12_calls 149 = .ok (.getfield 278, 3) := by decide +kernel
theorem dX12_calls_152 : decode cX12_calls 152 = .ok (.if_icmp .ge 82, 3) := by decide +kernel
theorem dX12_calls_155 : decode cX12_calls 155 = .ok (.aload_n 0, 1) := by decide +kernel
theorem dX12_calls_156 : decode cX12_calls 156 = .ok (.getfield 94, 3) := by decide +kernel
theorem dX12_calls_159 : decode cX12_calls 159 = .ok (.iload 10, 2) := by decide +kernel
theorem dX12_calls_161 : decode cX12_calls 161 = .ok (.iconst 1, 1) := by decide +kernel
theorem dX12_calls_162 : decode cX12_calls 162 = .ok (.isub, 1) := by decide +kernel
theorem dX12_calls_163 : decode cX12_calls 163 = .ok (.iaload, 1) := by decide +kernel
theorem dX12_calls_164 : decode cX12_calls 164 = .ok (.istore 11, 2) := by decide +kernel
theorem dX12_calls_166 : decode cX12_calls 166 = .ok (.aload_n 0, 1) := by decide +kernel
theorem dX12_calls_167 : decode cX12_calls 167 = .ok (.getfield 94, 3) := by decide +kernel
theorem dX12_calls_170 : decode cX12_calls 170 = .ok (.iload 10, 2) := by decide +kernel
theorem dX12_calls_172 : decode cX12_calls 172 = .ok (.iaload, 1) := by decide +kernel
theorem dX12_calls_173 : decode cX12_calls 173 = .ok (.istore 12, 2) := by decide +kernel
theorem dX12_calls_175 : decode cX12_calls 175 = .ok (.iload 9, 2) := by decide +kernel
theorem dX12_calls_177 : decode cX12_calls 177 = .ok (.ifCond .eq 48, 3) := by decide +kernel
theorem dX12_calls_180 : decode cX12_calls 180 = .ok (.aload_n 0, 1) := by decide +kernel
theorem dX12_calls_181 : decode cX12_calls 181 = .ok (.getfield 97, 3) := by decide +kernel
theorem dX12_calls_184 : decode cX12_calls 184 = .ok (.iload 11, 2) := by decide +kernel
theorem dX12_calls_186 : decode cX12_calls 186 = .ok (.iaload, 1) := by decide +kernel
theorem dX12_calls_187 : decode cX12_calls 187 = .ok (.aload_n 0, 1) := by decide +kernel
theorem dX12_calls_188 : decode cX12_calls 188 = .ok (.getfield 97, 3) := by decide +kernel
theorem dX12_calls_191 : decode cX12_calls 191 = .ok (.iload 12, 2) := by decide +kernel
theorem dX12_calls_193 : decode cX12_calls 193 = .ok (.iaload, 1) := by decide +kernel
theorem dX12_calls_194 : decode cX12_calls 194 = .ok (.if_icmp .lt 27, 3) := by decide +kernel
theorem dX12_calls_197 : decode cX12_calls 197 = .ok (.aload_n 0, 1) := by decide +kernel
theorem dX12_calls_198 : decode cX12_calls 198 = .ok (.getfield 97, 3) := by decide +kernel
theorem dX12_calls_201 : decode cX12_calls 201 = .ok (.iload 11, 2) := by decide +kernel
theorem dX12_calls_203 : decode cX12_calls 203 = .ok (.iaload, 1) := by decide +kernel
theorem dX12_calls_204 : decode cX12_calls 204 = .ok (.aload_n 0, 1) := by decide +kernel
theorem dX12_calls_205 : decode cX12_calls 205 = .ok (.getfield 97, 3) := by decide +kernel
theorem dX12_calls_208 : decode cX12_calls 208 = .ok (.iload 12, 2) := by decide +kernel
theorem dX12_calls_210 : decode cX12_calls 210 = .ok (.iaload, 1) := by decide +kernel
theorem dX12_calls_211 : decode cX12_calls 211 = .ok (.if_icmp .ne 14, 3) := by decide +kernel
theorem dX12_calls_214 : decode cX12_calls 214 = .ok (.iload 11, 2) := by decide +kernel
theorem dX12_calls_216 : decode cX12_calls 216 = .ok (.iload 12, 2) := by decide +kernel
theorem dX12_calls_218 : decode cX12_calls 218 = .ok (.if_icmp .ge 7, 3) := by decide +kernel
theorem dX12_calls_221 : decode cX12_calls 221 = .ok (.iconst 1, 1) := by decide +kernel
theorem dX12_calls_222 : decode cX12_calls 222 = .ok (.goto 4, 3) := by decide +kernel
theorem dX12_calls_225 : decode cX12_calls 225 = .ok (.iconst 0, 1) := by decide +kernel
theorem dX12_calls_226 : decode cX12_calls 226 = .ok (.istore 9, 2) := by decide +kernel
theorem dX12_calls_228 : decode cX12_calls 228 = .ok (.iinc 10 1, 3) := by decide +kernel
theorem dX12_calls_231 : decode cX12_calls 231 = .ok (.goto (-85), 3) := by decide +kernel
theorem dX12_calls_234 : decode cX12_calls 234 = .ok (.iload 9, 2) := by decide +kernel
theorem dX12_calls_236 : decode cX12_calls 236 = .ok (.ifCond .ne 6, 3) := by decide +kernel
theorem dX12_calls_239 : decode cX12_calls 239 = .ok (.goto 52, 3) := by decide +kernel
theorem dX12_calls_242 : decode cX12_calls 242 = .ok (.iconst 0, 1) := by decide +kernel
theorem dX12_calls_243 : decode cX12_calls 243 = .ok (.istore 10, 2) := by decide +kernel
theorem dX12_calls_245 : decode cX12_calls 245 = .ok (.iconst 0, 1) := by decide +kernel
theorem dX12_calls_246 : decode cX12_calls 246 = .ok (.istore 11, 2) := by decide +kernel
theorem dX12_calls_248 : decode cX12_calls 248 = .ok (.iload 11, 2) := by decide +kernel
theorem dX12_calls_250 : decode cX12_calls 250 = .ok (.aload_n 0, 1) := by decide +kernel
theorem dX12_calls_251 : decode cX12_calls 251 = .ok (.getfield 278, 3) := by decide +kernel
theorem dX12_calls_254 : decode cX12_calls 254 = .ok (.if_icmp .ge 24, 3) := by decide +kernel
theorem dX12_calls_257 : decode cX12_calls 257 = .ok (.bipush 10, 2) := by decide +kernel
theorem dX12_calls_259 : decode cX12_calls 259 = .ok (.iload 10, 2) := by decide +kernel
theorem dX12_calls_261 : decode cX12_calls 261 = .ok (.imul, 1) := by decide +kernel
theorem dX12_calls_262 : decode cX12_calls 262 = .ok (.aload_n 0, 1) := by decide +kernel
theorem dX12_calls_263 : decode cX12_calls 263 = .ok (.getfield 97, 3) := by decide +kernel
theorem dX12_calls_266 : decode cX12_calls 266 = .ok (.iload 11, 2) := by decide +kernel
theorem dX12_calls_268 : decode cX12_calls 268 = .ok (.iaload, 1) := by decide +kernel
theorem dX12_calls_269 : decode cX12_calls 269 = .ok (.iadd, 1) := by decide +kernel
theorem dX12_calls_270 : decode cX12_calls 270 = .ok (.istore 10, 2) := by decide +kernel
theorem dX12_calls_272 : decode cX12_calls 272 = .ok (.iinc 11 1, 3) := by decide +kernel
theorem dX12_calls_275 : decode cX12_calls 275 = .ok (.goto (-27), 3) := by decide +kernel
theorem dX12_calls_278 : decode cX12_calls 278 = .ok (.iload 6, 2) := by decide +kernel
theorem dX12_calls_280 : decode cX12_calls 280 = .ok (.iload 4, 2) := by decide +kernel
theorem dX12_calls_282 : decode cX12_calls 282 = .ok (.if_icmp .ne 6, 3) := by decide +kernel
theorem dX12_calls_285 : decode cX12_calls 285 = .ok (.iload 10, 2) := by decide +kernel
theorem dX12_calls_287 : decode cX12_calls 287 = .ok (.ireturn, 1) := by decide +kernel
theorem dX12_calls_288 : decode cX12_calls 288 = .ok (.iinc 6 1, 3) := by decide +kernel
theorem dX12_calls_291 : decode cX12_calls 291 = .ok (.iinc 7 1, 3) := by decide +kernel
theorem dX12_calls_294 : decode cX12_calls 294 = .ok (.goto (-201), 3) := by decide +kernel
theorem dX12_calls_297 : decode cX12_calls 297 = .ok (.iload 4, 2) := by decide +kernel
theorem dX12_calls_299 : decode cX12_calls 299 = .ok (.iconst (-1), 1) := by decide +kernel
theorem dX12_calls_300 : decode cX12_calls 300 = .ok (.if_icmp .ne 8, 3) := by decide +kernel
theorem dX12_calls_303 : decode cX12_calls 303 = .ok (.iload 6, 2) := by decide +kernel
theorem dX12_calls_305 : decode cX12_calls 305 = .ok (.goto 4, 3) := by decide +kernel
theorem dX12_calls_308 : decode cX12_calls 308 = .ok (.iconst (-1), 1) := by decide +kernel
theorem dX12_calls_309 : decode cX12_calls 309 = .ok (.ireturn, 1) := by decide +kernel
theorem dX12_kilosOf_0 : decode cX12_kilosOf 0 = .ok (.iconst 0, 1) := by decide +kernel
theorem dX12_kilosOf_1 : decode cX12_kilosOf 1 = .ok (.istore_n 3, 1) := by decide +kernel
theorem dX12_kilosOf_2 : decode cX12_kilosOf 2 = .ok (.iconst 0, 1) := by decide +kernel
theorem dX12_kilosOf_3 : decode cX12_kilosOf 3 = .ok (.istore 4, 2) := by decide +kernel
theorem dX12_kilosOf_5 : decode cX12_kilosOf 5 = .ok (.iload 4, 2) := by decide +kernel
theorem dX12_kilosOf_7 : decode cX12_kilosOf 7 = .ok (.aload_n 0, 1) := by decide +kernel
theorem dX12_kilosOf_8 : decode cX12_kilosOf 8 = .ok (.getfield 49, 3) := by decide +kernel
theorem dX12_kilosOf_11 : decode cX12_kilosOf 11 = .ok (.bipush 70, 2) := by decide +kernel
theorem dX12_kilosOf_13 : decode cX12_kilosOf 13 = .ok (.iaload, 1) := by decide +kernel
theorem dX12_kilosOf_14 : decode cX12_kilosOf 14 = .ok (.if_icmp .ge 50, 3) := by decide +kernel
theorem dX12_kilosOf_17 : decode cX12_kilosOf 17 = .ok (.iload_n 3, 1) := by decide +kernel
theorem dX12_kilosOf_18 : decode cX12_kilosOf 18 = .ok (.aload_n 0, 1) := by decide +kernel
theorem dX12_kilosOf_19 : decode cX12_kilosOf 19 = .ok (.iload 4, 2) := by decide +kernel
theorem dX12_kilosOf_21 : decode cX12_kilosOf 21 = .ok (.iload_n 1, 1) := by decide +kernel
theorem dX12_kilosOf_22 : decode cX12_kilosOf 22 = .ok (.iload_n 2, 1) := by decide +kernel
theorem dX12_kilosOf_23 : decode cX12_kilosOf 23 = .ok (.invokevirtual 462, 3) := by decide +kernel
theorem dX12_kilosOf_26 : decode cX12_kilosOf 26 = .ok (.ifCond .eq 29, 3) := by decide +kernel
theorem dX12_kilosOf_29 : decode cX12_kilosOf 29 = .ok (.aload_n 0, 1) := by decide +kernel
theorem dX12_kilosOf_30 : decode cX12_kilosOf 30 = .ok (.iload 4, 2) := by decide +kernel
theorem dX12_kilosOf_32 : decode cX12_kilosOf 32 = .ok (.invokevirtual 466, 3) := by decide +kernel
theorem dX12_kilosOf_35 : decode cX12_kilosOf 35 = .ok (.ifCond .eq 20, 3) := by decide +kernel
theorem dX12_kilosOf_38 : decode cX12_kilosOf 38 = .ok (.aload_n 0, 1) := by decide +kernel
theorem dX12_kilosOf_39 : decode cX12_kilosOf 39 = .ok (.getfield 49, 3) := by decide +kernel
theorem dX12_kilosOf_42 : decode cX12_kilosOf 42 = .ok (.bipush 71, 2) := by decide +kernel
theorem dX12_kilosOf_44 : decode cX12_kilosOf 44 = .ok (.iconst 5, 1) := by decide +kernel
theorem dX12_kilosOf_45 : decode cX12_kilosOf 45 = .ok (.iload 4, 2) := by decide +kernel
theorem dX12_kilosOf_47 : decode cX12_kilosOf 47 = .ok (.imul, 1) := by decide +kernel
theorem dX12_kilosOf_48 : decode cX12_kilosOf 48 = .ok (.iadd, 1) := by decide +kernel
theorem dX12_kilosOf_49 : decode cX12_kilosOf 49 = .ok (.iconst 1, 1) := by decide +kernel
theorem dX12_kilosOf_50 : decode cX12_kilosOf 50 = .ok (.iadd, 1) := by decide +kernel
theorem dX12_kilosOf_51 : decode cX12_kilosOf 51 = .ok (.iaload, 1) := by decide +kernel
theorem dX12_kilosOf_52 : decode cX12_kilosOf 52 = .ok (.goto 4, 3) := by decide +kernel
theorem dX12_kilosOf_55 : decode cX12_kilosOf 55 = .ok (.iconst 0, 1) := by decide +kernel
theorem dX12_kilosOf_56 : decode cX12_kilosOf 56 = .ok (.iadd, 1) := by decide +kernel
theorem dX12_kilosOf_57 : decode cX12_kilosOf 57 = .ok (.istore_n 3, 1) := by decide +kernel
theorem dX12_kilosOf_58 : decode cX12_kilosOf 58 = .ok (.iinc 4 1, 3) := by decide +kernel
theorem dX12_kilosOf_61 : decode cX12_kilosOf 61 = .ok (.goto (-56), 3) := by decide +kernel
theorem dX12_kilosOf_64 : decode cX12_kilosOf 64 = .ok (.iload_n 3, 1) := by decide +kernel
theorem dX12_kilosOf_65 : decode cX12_kilosOf 65 = .ok (.ireturn, 1) := by decide +kernel
theorem dX12_goodMany_0 : decode cX12_goodMany 0 = .ok (.iconst 0, 1) := by decide +kernel
theorem dX12_goodMany_1 : decode cX12_goodMany 1 = .ok (.istore_n 2, 1) := by decide +kernel
theorem dX12_goodMany_2 : decode cX12_goodMany 2 = .ok (.iconst 0, 1) := by decide +kernel
theorem dX12_goodMany_3 : decode cX12_goodMany 3 = .ok (.istore_n 3, 1) := by decide +kernel
theorem dX12_goodMany_4 : decode cX12_goodMany 4 = .ok (.iload_n 3, 1) := by decide +kernel
theorem dX12_goodMany_5 : decode cX12_goodMany 5 = .ok (.aload_n 0, 1) := by decide +kernel
theorem dX12_goodMany_6 : decode cX12_goodMany 6 = .ok (.getfield 49, 3) := by decide +kernel
theorem dX12_goodMany_9 : decode cX12_goodMany 9 = .ok (.bipush 70, 2) := by decide +kernel
theorem dX12_goodMany_11 : decode cX12_goodMany 11 = .ok (.iaload, 1) := by decide +kernel
theorem dX12_goodMany_12 : decode cX12_goodMany 12 = .ok (.if_icmp .ge 40, 3) := by decide +kernel
theorem dX12_goodMany_15 : decode cX12_goodMany 15 = .ok (.iload_n 2, 1) := by decide +kernel
theorem dX12_goodMany_16 : decode cX12_goodMany 16 = .ok (.aload_n 0, 1) := by decide +kernel
theorem dX12_goodMany_17 : decode cX12_goodMany 17 = .ok (.getfield 49, 3) := by decide +kernel
theorem dX12_goodMany_20 : decode cX12_goodMany 20 = .ok (.bipush 71, 2) := by decide +kernel
theorem dX12_goodMany_22 : decode cX12_goodMany 22 = .ok (.iconst 5, 1) := by decide +kernel
theorem dX12_goodMany_23 : decode cX12_goodMany 23 = .ok (.iload_n 3, 1) := by decide +kernel
theorem dX12_goodMany_24 : decode cX12_goodMany 24 = .ok (.imul, 1) := by decide +kernel
theorem dX12_goodMany_25 : decode cX12_goodMany 25 = .ok (.iadd, 1) := by decide +kernel
theorem dX12_goodMany_26 : decode cX12_goodMany 26 = .ok (.iaload, 1) := by decide +kernel
theorem dX12_goodMany_27 : decode cX12_goodMany 27 = .ok (.iload_n 1, 1) := by decide +kernel
theorem dX12_goodMany_28 : decode cX12_goodMany 28 = .ok (.if_icmp .ne 15, 3) := by decide +kernel
theorem dX12_goodMany_31 : decode cX12_goodMany 31 = .ok (.aload_n 0, 1) := by decide +kernel
theorem dX12_goodMany_32 : decode cX12_goodMany 32 = .ok (.iload_n 3, 1) := by decide +kernel
theorem dX12_goodMany_33 : decode cX12_goodMany 33 = .ok (.invokevirtual 466, 3) := by decide +kernel
theorem dX12_goodMany_36 : decode cX12_goodMany 36 = .ok (.ifCond .eq 7, 3) := by decide +kernel
theorem dX12_goodMany_39 : decode cX12_goodMany 39 = .ok (.iconst 1, 1) := by decide +kernel
theorem dX12_goodMany_40 : decode cX12_goodMany 40 = .ok (.goto 4, 3) := by decide +kernel
theorem dX12_goodMany_43 : decode cX12_goodMany 43 = .ok (.iconst 0, 1) := by decide +kernel
theorem dX12_goodMany_44 : decode cX12_goodMany 44 = .ok (.iadd, 1) := by decide +kernel
theorem dX12_goodMany_45 : decode cX12_goodMany 45 = .ok (.istore_n 2, 1) := by decide +kernel
theorem dX12_goodMany_46 : decode cX12_goodMany 46 = .ok (.iinc 3 1, 3) := by decide +kernel
theorem dX12_goodMany_49 : decode cX12_goodMany 49 = .ok (.goto (-45), 3) := by decide +kernel
theorem dX12_goodMany_52 : decode cX12_goodMany 52 = .ok (.iload_n 2, 1) := by decide +kernel
theorem dX12_goodMany_53 : decode cX12_goodMany 53 = .ok (.ireturn, 1) := by decide +kernel
theorem dX12_byLaw_0 : decode cX12_byLaw 0 = .ok (.iload_n 2, 1) := by decide +kernel
theorem dX12_byLaw_1 : decode cX12_byLaw 1 = .ok (.tableswitch 71 0 2 #[27, 41, 65], 27) := by decide +kernel
theorem dX12_byLaw_28 : decode cX12_byLaw 28 = .ok (.aload_n 0, 1) := by decide +kernel
theorem dX12_byLaw_29 : decode cX12_byLaw 29 = .ok (.getfield 49, 3) := by decide +kernel
theorem dX12_byLaw_32 : decode cX12_byLaw 32 = .ok (.bipush 11, 2) := by decide +kernel
theorem dX12_byLaw_34 : decode cX12_byLaw 34 = .ok (.iload_n 1, 1) := by decide +kernel
theorem dX12_byLaw_35 : decode cX12_byLaw 35 = .ok (.imul, 1) := by decide +kernel
theorem dX12_byLaw_36 : decode cX12_byLaw 36 = .ok (.iconst 2, 1) := by decide +kernel
theorem dX12_byLaw_37 : decode cX12_byLaw 37 = .ok (.iadd, 1) := by decide +kernel
theorem dX12_byLaw_38 : decode cX12_byLaw 38 = .ok (.iconst 1, 1) := by decide +kernel
theorem dX12_byLaw_39 : decode cX12_byLaw 39 = .ok (.iadd, 1) := by decide +kernel
theorem dX12_byLaw_40 : decode cX12_byLaw 40 = .ok (.iaload, 1) := by decide +kernel
theorem dX12_byLaw_41 : decode cX12_byLaw 41 = .ok (.ireturn, 1) := by decide +kernel
theorem dX12_byLaw_42 : decode cX12_byLaw 42 = .ok (.bipush 100, 2) := by decide +kernel
theorem dX12_byLaw_44 : decode cX12_byLaw 44 = .ok (.aload_n 0, 1) := by decide +kernel
theorem dX12_byLaw_45 : decode cX12_byLaw 45 = .ok (.getfield 49, 3) := by decide +kernel
theorem dX12_byLaw_48 : decode cX12_byLaw 48 = .ok (.iload_n 1, 1) := by decide +kernel
theorem dX12_byLaw_49 : decode cX12_byLaw 49 = .ok (.invokestatic 346, 3) := by decide +kernel
theorem dX12_byLaw_52 : decode cX12_byLaw 52 = .ok (.imul, 1) := by decide +kernel
theorem dX12_byLaw_53 : decode cX12_byLaw 53 = .ok (.aload_n 0, 1) := by decide +kernel
theorem dX12_byLaw_54 : decode cX12_byLaw 54 = .ok (.getfield 37, 3) := by decide +kernel
theorem dX12_byLaw_57 : decode cX12_byLaw 57 = .ok (.bipush 10, 2) := by decide +kernel
theorem dX12_byLaw_59 : decode cX12_byLaw 59 = .ok (.iload_n 1, 1) := by decide +kernel
theorem dX12_byLaw_60 : decode cX12_byLaw 60 = .ok (.imul, 1) := by decide +kernel
theorem dX12_byLaw_61 : decode cX12_byLaw 61 = .ok (.iconst 2, 1) := by decide +kernel
theorem dX12_byLaw_62 : decode cX12_byLaw 62 = .ok (.iadd, 1) := by decide +kernel
theorem dX12_byLaw_63 : decode cX12_byLaw 63 = .ok (.iaload, 1) := by decide +kernel
theorem dX12_byLaw_64 : decode cX12_byLaw 64 = .ok (.idiv, 1) := by decide +kernel
theorem dX12_byLaw_65 : decode cX12_byLaw 65 = .ok (.ireturn, 1) := by decide +kernel
theorem dX12_byLaw_66 : decode cX12_byLaw 66 = .ok (.aload_n 0, 1) := by decide +kernel
theorem dX12_byLaw_67 : decode cX12_byLaw 67 = .ok (.iload_n 1, 1) := by decide +kernel
theorem dX12_byLaw_68 : decode cX12_byLaw 68 = .ok (.invokevirtual 476, 3) := by decide +kernel
theorem dX12_byLaw_71 : decode cX12_byLaw 71 = .ok (.ireturn, 1) := by decide +kernel
theorem dX12_byLaw_72 : decode cX12_byLaw 72 = .ok (.aload_n 0, 1) := by decide +kernel
theorem dX12_byLaw_73 : decode cX12_byLaw 73 = .ok (.iload_n 1, 1) := by decide +kernel
theorem dX12_byLaw_74 : decode cX12_byLaw 74 = .ok (.iconst 0, 1) := by decide +kernel
theorem dX12_byLaw_75 : decode cX12_byLaw 75 = .ok (.invokevirtual 479, 3) := by decide +kernel
theorem dX12_byLaw_78 : decode cX12_byLaw 78 = .ok (.aload_n 0, 1) := by decide +kernel
theorem dX12_byLaw_79 : decode cX12_byLaw 79 = .ok (.iload_n 1, 1) := by decide +kernel
theorem dX12_byLaw_80 : decode cX12_byLaw 80 = .ok (.iconst 1, 1) := by decide +kernel
theorem dX12_byLaw_81 : decode cX12_byLaw 81 = .ok (.invokevirtual 479, 3) := by decide +kernel
theorem dX12_byLaw_84 : decode cX12_byLaw 84 = .ok (.iadd, 1) := by decide +kernel
theorem dX12_byLaw_85 : decode cX12_byLaw 85 = .ok (.ireturn, 1) := by decide +kernel
theorem dX12_other_0 : decode cX12_other 0 = .ok (.aload_n 0, 1) := by decide +kernel
theorem dX12_other_1 : decode cX12_other 1 = .ok (.iconst 0, 1) := by decide +kernel
theorem dX12_other_2 : decode cX12_other 2 = .ok (.putfield 103, 3) := by decide +kernel
theorem dX12_other_5 : decode cX12_other 5 = .ok (.aload_n 0, 1) := by decide +kernel
theorem dX12_other_6 : decode cX12_other 6 = .ok (.getfield 278, 3) := by decide +kernel
theorem dX12_other_9 : decode cX12_other 9 = .ok (.ifCond .eq 25, 3) := by decide +kernel
theorem dX12_other_12 : decode cX12_other 12 = .ok (.iload_n 1, 1) := by decide +kernel
theorem dX12_other_13 : decode cX12_other 13 = .ok (.i2l, 1) := by decide +kernel
theorem dX12_other_14 : decode cX12_other 14 = .ok (.lconst 0, 1) := by decide +kernel
theorem dX12_other_15 : decode cX12_other 15 = .ok (.ldc2_w 359, 3) := by decide +kernel
theorem dX12_other_18 : decode cX12_other 18 = .ok (.invokestatic 224, 3) := by decide +kernel
theorem dX12_other_21 : decode cX12_other 21 = .ok (.ifCond .eq 13, 3) := by decide +kernel
theorem dX12_other_24 : decode cX12_other 24 = .ok (.iload_n 2, 1) := by decide +kernel
theorem dX12_other_25 : decode cX12_other 25 = .ok (.i2l, 1) := by decide +kernel
theorem dX12_other_26 : decode cX12_other 26 = .ok (.lconst 0, 1) := by decide +kernel
theorem dX12_other_27 : decode cX12_other 27 = .ok (.lconst 1, 1) := by decide +kernel
theorem dX12_other_28 : decode cX12_other 28 = .ok (.invokestatic 224, 3) := by decide +kernel
theorem dX12_other_31 : decode cX12_other 31 = .ok (.ifCond .ne 5, 3) := by decide +kernel
theorem dX12_other_34 : decode cX12_other 34 = .ok (.iconst (-1), 1) := by decide +kernel
theorem dX12_other_35 : decode cX12_other 35 = .ok (.ireturn, 1) := by decide +kernel
theorem dX12_other_36 : decode cX12_other 36 = .ok (.iconst 0, 1) := by decide +kernel
theorem dX12_other_37 : decode cX12_other 37 = .ok (.istore_n 3, 1) := by decide +kernel
theorem dX12_other_38 : decode cX12_other 38 = .ok (.iconst 1, 1) := by decide +kernel
theorem dX12_other_39 : decode cX12_other 39 = .ok (.istore 4, 2) := by decide +kernel
theorem dX12_other_41 : decode cX12_other 41 = .ok (.iload 4, 2) := by decide +kernel
theorem dX12_other_43 : decode cX12_other 43 = .ok (.aload_n 0, 1) := by decide +kernel
theorem dX12_other_44 : decode cX12_other 44 = .ok (.getfield 278, 3) := by decide +kernel
theorem dX12_other_47 : decode cX12_other 47 = .ok (.if_icmp .ge 32, 3) := by decide +kernel
theorem dX12_other_50 : decode cX12_other 50 = .ok (.aload_n 0, 1) := by decide +kernel
theorem dX12_other_51 : decode cX12_other 51 = .ok (.iload 4, 2) := by decide +kernel
theorem dX12_other_53 : decode cX12_other 53 = .ok (.iload_n 1, 1) := by decide +kernel
theorem dX12_other_54 : decode cX12_other 54 = .ok (.invokevirtual 482, 3) := by decide +kernel
theorem dX12_other_57 : decode cX12_other 57 = .ok (.aload_n 0, 1) := by decide +kernel
theorem dX12_other_58 : decode cX12_other 58 = .ok (.iload_n 3, 1) := by decide +kernel
theorem dX12_other_59 : decode cX12_other 59 = .ok (.iload_n 1, 1) := by decide +kernel
theorem dX12_other_60 : decode cX12_other 60 = .ok (.invokevirtual 482, 3) := by decide +kernel
theorem dX12_other_63 : decode cX12_other 63 = .ok (.if_icmp .le 8, 3) := by decide +kernel
theorem dX12_other_66 : decode cX12_other 66 = .ok (.iload 4, 2) := by decide +kernel
theorem dX12_other_68 : decode cX12_other 68 = .ok (.goto 4, 3) := by decide +kernel
theorem dX12_other_71 : decode cX12_other 71 = .ok (.iload_n 3, 1) := by decide +kernel
theorem dX12_other_72 : decode cX12_other 72 = .ok (.istore_n 3, 1) := by decide +kernel
theorem dX12_other_73 : decode cX12_other 73 = .ok (.iinc 4 1, 3) := by decide +kernel
theorem dX12_other_76 : decode cX12_other 76 = .ok (.goto (-35), 3) := by decide +kernel
theorem dX12_other_79 : decode cX12_other 79 = .ok (.iload_n 2, 1) := by decide +kernel
theorem dX12_other_80 : decode cX12_other 80 = .ok (.ifCond .ne 7, 3) := by decide +kernel
theorem dX12_other_83 : decode cX12_other 83 = .ok (.iload_n 3, 1) := by decide +kernel
theorem dX12_other_84 : decode cX12_other 84 = .ok (.goto 9, 3) := by decide +kernel
theorem dX12_other_87 : decode cX12_other 87 = .ok (.aload_n 0, 1) := by decide +kernel
theorem dX12_other_88 : decode cX12_other 88 = .ok (.iload_n 3, 1) := by decide +kernel
theorem dX12_other_89 : decode cX12_other 89 = .ok (.iload_n 1, 1) := by decide +kernel
theorem dX12_other_90 : decode cX12_other 90 = .ok (.invokevirtual 482, 3) := by decide +kernel
theorem dX12_other_93 : decode cX12_other 93 = .ok (.ireturn, 1) := by decide +kernel
theorem dX12_ready_0 : decode cX12_ready 0 = .ok (.aload_n 0, 1) := by decide +kernel
theorem dX12_ready_1 : decode cX12_ready 1 = .ok (.iconst 0, 1) := by decide +kernel
theorem dX12_ready_2 : decode cX12_ready 2 = .ok (.putfield 103, 3) := by decide +kernel
theorem dX12_ready_5 : decode cX12_ready 5 = .ok (.aload_n 0, 1) := by decide +kernel
theorem dX12_ready_6 : decode cX12_ready 6 = .ok (.iload_n 1, 1) := by decide +kernel
theorem dX12_ready_7 : decode cX12_ready 7 = .ok (.invokevirtual 354, 3) := by decide +kernel
theorem dX12_ready_10 : decode cX12_ready 10 = .ok (.ifCond .eq 25, 3) := by decide +kernel
theorem dX12_ready_13 : decode cX12_ready 13 = .ok (.aload_n 0, 1) := by decide +kernel
theorem dX12_ready_14 : decode cX12_ready 14 = .ok (.aload_n 0, 1) := by decide +kernel
theorem dX12_ready_15 : decode cX12_ready 15 = .ok (.getfield 49, 3) := by decide +kernel
theorem dX12_ready_18 : decode cX12_ready 18 = .ok (.iload_n 1, 1) := by decide +kernel
theorem dX12_ready_19 : decode cX12_ready 19 = .ok (.invokevirtual 287, 3) := by decide +kernel
theorem dX12_ready_22 : decode cX12_ready 22 = .ok (.ifCond .eq 13, 3) := by decide +kernel
theorem dX12_ready_25 : decode cX12_ready 25 = .ok (.iload_n 2, 1) := by decide +kernel
theorem dX12_ready_26 : decode cX12_ready 26 = .ok (.i2l, 1) := by decide +kernel
theorem dX12_ready_27 : decode cX12_ready 27 = .ok (.lconst 0, 1) := by decide +kernel
theorem dX12_ready_28 : decode cX12_ready 28 = .ok (.lconst 1, 1) := by decide +kernel
theorem dX12_ready_29 : decode cX12_ready 29 = .ok (.invokestatic 224, 3) := by decide +kernel
theorem dX12_ready_32 : decode cX12_ready 32 = .ok (.ifCond .ne 5, 3) := by decide +kernel
theorem dX12_ready_35 : decode cX12_ready 35 = .ok (.iconst (-1), 1) := by decide +kernel
theorem dX12_ready_36 : decode cX12_ready 36 = .ok (.ireturn, 1) := by decide +kernel
theorem dX12_ready_37 : decode cX12_ready 37 = .ok (.bipush 11, 2) := by decide +kernel
theorem dX12_ready_39 : decode cX12_ready 39 = .ok (.iload_n 1, 1) := by decide +kernel
theorem dX12_ready_40 : decode cX12_ready 40 = .ok (.imul, 1) := by decide +kernel
theorem dX12_ready_41 : decode cX12_ready 41 = .ok (.istore_n 3, 1) := by decide +kernel
theorem dX12_ready_42 : decode cX12_ready 42 = .ok (.iconst (-1), 1) := by decide +kernel
theorem dX12_ready_43 : decode cX12_ready 43 = .ok (.istore 4, 2) := by decide +kernel
theorem dX12_ready_45 : decode cX12_ready 45 = .ok (.iconst 0, 1) := by decide +kernel
theorem dX12_ready_46 : decode cX12_ready 46 = .ok (.istore 5, 2) := by decide +kernel
theorem dX12_ready_48 : decode cX12_ready 48 = .ok (.iconst 0, 1) := by decide +kernel
theorem dX12_ready_49 : decode cX12_ready 49 = .ok (.istore 6, 2) := by decide +kernel
theorem dX12_ready_51 : decode cX12_ready 51 = .ok (.iload 6, 2) := by decide +kernel
theorem dX12_ready_53 : decode cX12_ready 53 = .ok (.bipush 10, 2) := by decide +kernel
theorem dX12_ready_55 : decode cX12_ready 55 = .ok (.if_icmp .ge 124, 3) := by decide +kernel
theorem dX12_ready_58 : decode cX12_ready 58 = .ok (.iload 6, 2) := by decide +kernel
theorem dX12_ready_60 : decode cX12_ready 60 = .ok (.ifCond .ne 15, 3) := by decide +kernel
theorem dX12_ready_63 : decode cX12_ready 63 = .ok (.aload_n 0, 1) := by decide +kernel
theorem dX12_ready_64 : decode cX12_ready 64 = .ok (.aload_n 0, 1) := by decide +kernel
theorem dX12_ready_65 : decode cX12_ready 65 = .ok (.getfield 49, 3) := by decide +kernel
theorem dX12_ready_68 : decode cX12_ready 68 = .ok (.iload_n 1, 1) := by decide +kernel
theorem dX12_ready_69 : decode cX12_ready 69 = .ok (.invokevirtual 319, 3) := by decide +kernel
theorem dX12_ready_72 : decode cX12_ready 72 = .ok (.goto 4, 3) := by decide +kernel
theorem dX12_ready_75 : decode cX12_ready 75 = .ok (.iconst 0, 1) := by decide +kernel
theorem dX12_ready_76 : decode cX12_ready 76 = .ok (.istore 7, 2) := by decide +kernel
theorem dX12_ready_78 : decode cX12_ready 78 = .ok (.aload_n 0, 1) := by decide +kernel
theorem dX12_ready_79 : decode cX12_ready 79 = .ok (.iload_n 1, 1) := by decide +kernel
theorem dX12_ready_80 : decode cX12_ready 80 = .ok (.aload_n 0, 1) := by decide +kernel
theorem dX12_ready_81 : decode cX12_ready 81 = .ok (.aload_n 0, 1) := by decide +kernel
theorem dX12_ready_82 : decode cX12_ready 82 = .ok (.getfield 49, 3) := by decide +kernel
theorem dX12_ready_85 : decode cX12_ready 85 = .ok (.iload_n 1, 1) := by decide +kernel
theorem dX12_ready_86 : decode cX12_ready 86 = .ok (.invokevirtual 315, 3) := by decide +kernel
theorem dX12_ready_89 : decode cX12_ready 89 = .ok (.bipush 9, 2) := by decide +kernel
theorem dX12_ready_91 : decode cX12_ready 91 = .ok (.aload_n 0, 1) := by decide +kernel
theorem dX12_ready_92 : decode cX12_ready 92 = .ok (.getfield 49, 3) := by decide +kernel
theorem dX12_ready_95 : decode cX12_ready 95 = .ok (.iload_n 3, 1) := by decide +kernel
theorem dX12_ready_96 : decode cX12_ready 96 = .ok (.bipush 7, 2) := by decide +kernel
theorem dX12_ready_98 : decode cX12_ready 98 = .ok (.iadd, 1) := by decide +kernel
theorem dX12_ready_99 : decode cX12_ready 99 = .ok (.iaload, 1) := by decide +kernel
theorem dX12_ready_100 : decode cX12_ready 100 = .ok (.iload 6, 2) := by decide +kernel
theorem dX12_ready_102 : decode cX12_ready 102 = .ok (.iadd, 1) := by decide +kernel
theorem dX12_ready_103 : decode cX12_ready 103 = .ok (.invokestatic 309, 3) := by decide +kernel
theorem dX12_ready_106 : decode cX12_ready 106 = .ok (.aload_n 0, 1) := by decide +kernel
theorem dX12_ready_107 : decode cX12_ready 107 = .ok (.getfield 49, 3) := by decide +kernel
theorem dX12_ready_110 : decode cX12_ready 110 = .ok (.iload_n 3, 1) := by decide +kernel
theorem dX12_ready_111 : decode cX12_ready 111 = .ok (.bipush 9, 2) := by decide +kernel
theorem dX12_ready_113 : decode cX12_ready 113 = .ok (.iadd, 1) := by decide +kernel
theorem dX12_ready_114 : decode cX12_ready 114 = .ok (.iaload, 1) := by decide +kernel
theorem dX12_ready_115 : decode cX12_ready 115 = .ok (.iload 7, 2) := by decide +kernel
theorem dX12_ready_117 : decode cX12_ready 117 = .ok (.invokevirtual 322, 3) := by decide +kernel
theorem dX12_ready_120 : decode cX12_ready 120 = .ok (.istore 8, 2) := by decide +kernel
theorem dX12_ready_122 : decode cX12_ready 122 = .ok (.aload_n 0, 1) := by decide +kernel
theorem dX12_ready_123 : decode cX12_ready 123 = .ok (.iload_n 1, 1) := by decide +kernel
theorem dX12_ready_124 : decode cX12_ready 124 = .ok (.aload_n 0, 1) := by decide +kernel
theorem dX12_ready_125 : decode cX12_ready 125 = .ok (.getfield 49, 3) := by decide +kernel
theorem dX12_ready_128 : decode cX12_ready 128 = .ok (.iload_n 3, 1) := by decide +kernel
theorem dX12_ready_129 : decode cX12_ready 129 = .ok (.iconst 0, 1) := by decide +kernel
theorem dX12_ready_130 : decode cX12_ready 130 = .ok (.iadd, 1) := by decide +kernel
theorem dX12_ready_131 : decode cX12_ready 131 = .ok (.iaload, 1) := by decide +kernel
theorem dX12_ready_132 : decode cX12_ready 132 = .ok (.iload 8, 2) := by decide +kernel
theorem dX12_ready_134 : decode cX12_ready 134 = .ok (.aload_n 0, 1) := by decide +kernel
theorem dX12_ready_135 : decode cX12_ready 135 = .ok (.getfield 49, 3) := by decide +kernel
theorem dX12_ready_138 : decode cX12_ready 138 = .ok (.iload_n 3, 1) := by decide +kernel
theorem dX12_ready_139 : decode cX12_ready 139 = .ok (.iconst 1, 1) := by decide +kernel
theorem dX12_ready_140 : decode cX12_ready 140 = .ok (.iadd, 1) := by decide +kernel
theorem dX12_ready_141 : decode cX12_ready 141 = .ok (.iaload, 1) := by decide +kernel
theorem dX12_ready_142 : decode cX12_ready 142 = .ok (.iload 7, 2) := by decide +kernel
theorem dX12_ready_144 : decode cX12_ready 144 = .ok (.invokevirtual 343, 3) := by decide +kernel
theorem dX12_ready_147 : decode cX12_ready 147 = .ok (.istore 9, 2) := by decide +kernel
theorem dX12_ready_149 : decode cX12_ready 149 = .ok (.iload 4, 2) := by decide +kernel
theorem dX12_ready_151 : decode cX12_ready 151 = .ok (.iconst (-1), 1) := by decide +kernel
theorem dX12_ready_152 : decode cX12_ready 152 = .ok (.if_icmp .eq 13, 3) := by decide +kernel
theorem dX12_ready_155 : decode cX12_ready 155 = .ok (.iload 9, 2) := by decide +kernel
theorem dX12_ready_157 : decode cX12_ready 157 = .ok (.iload 5, 2) := by decide +kernel
theorem dX12_ready_159 : decode cX12_ready 159 = .ok (.if_icmp .gt 6, 3) := by decide +kernel
theorem dX12_ready_162 : decode cX12_ready 162 = .ok (.goto 11, 3) := by decide +kernel
theorem dX12_ready_165 : decode cX12_ready 165 = .ok (.iload 6, 2) := by decide +kernel
theorem dX12_ready_167 : decode cX12_ready 167 = .ok (.istore 4, 2) := by decide +kernel
theorem dX12_ready_169 : decode cX12_ready 169 = .ok (.iload 9, 2) := by decide +kernel
theorem dX12_ready_171 : decode cX12_ready 171 = .ok (.istore 5, 2) := by decide +kernel
theorem dX12_ready_173 : decode cX12_ready 173 = .ok (.iinc 6 1, 3) := by decide +kernel
theorem dX12_ready_176 : decode cX12_ready 176 = .ok (.goto (-125), 3) := by decide +kernel
theorem dX12_ready_179 : decode cX12_ready 179 = .ok (.iload_n 2, 1) := by decide +kernel
theorem dX12_ready_180 : decode cX12_ready 180 = .ok (.ifCond .ne 8, 3) := by decide +kernel
theorem dX12_ready_183 : decode cX12_ready 183 = .ok (.iload 4, 2) := by decide +kernel
theorem dX12_ready_185 : decode cX12_ready 185 = .ok (.goto 5, 3) := by decide +kernel
theorem dX12_ready_188 : decode cX12_ready 188 = .ok (.iload 5, 2) := by decide +kernel
theorem dX12_ready_190 : decode cX12_ready 190 = .ok (.ireturn, 1) := by decide +kernel
theorem dX12_yields_0 : decode cX12_yields 0 = .ok (.aload_n 0, 1) := by decide +kernel
theorem dX12_yields_1 : decode cX12_yields 1 = .ok (.iconst 0, 1) := by decide +kernel
theorem dX12_yields_2 : decode cX12_yields 2 = .ok (.putfield 103, 3) := by decide +kernel
theorem dX12_yields_5 : decode cX12_yields 5 = .ok (.aload_n 0, 1) := by decide +kernel
theorem dX12_yields_6 : decode cX12_yields 6 = .ok (.iload_n 1, 1) := by decide +kernel
theorem dX12_yields_7 : decode cX12_yields 7 = .ok (.invokevirtual 354, 3) := by decide +kernel
theorem dX12_yields_10 : decode cX12_yields 10 = .ok (.ifCond .eq 40, 3) := by decide +kernel
theorem dX12_yields_13 : decode cX12_yields 13 = .ok (.aload_n 0, 1) := by decide +kernel
theorem dX12_yields_14 : decode cX12_yields 14 = .ok (.iload_n 2, 1) := by decide +kernel
theorem dX12_yields_15 : decode cX12_yields 15 = .ok (.invokevirtual 354, 3) := by decide +kernel
theorem dX12_yields_18 : decode cX12_yields 18 = .ok (.ifCond .eq 32, 3) := by decide +kernel
theorem dX12_yields_21 : decode cX12_yields 21 = .ok (.iload_n 1, 1) := by decide +kernel
theorem dX12_yields_22 : decode cX12_yields 22 = .ok (.iload_n 2, 1) := by decide +kernel
theorem dX12_yields_23 : decode cX12_yields 23 = .ok (.if_icmp .eq 27, 3) := by decide +kernel
theorem dX12_yields_26 : decode cX12_yields 26 = .ok (.aload_n 0, 1) := by decide +kernel
theorem dX12_yields_27 : decode cX12_yields 27 = .ok (.aload_n 0, 1) := by decide +kernel
theorem dX12_yields_28 : decode cX12_yields 28 = .ok (.getfield 49, 3) := by decide +kernel
theorem dX12_yields_31 : decode cX12_yields 31 = .ok (.iload_n 1, 1) := by decide +kernel
theorem dX12_yields_32 : decode cX12_yields 32 = .ok (.invokevirtual 287, 3) := by decide +kernel
theorem dX12_yields_35 : decode cX12_yields 35 = .ok (.ifCond .eq 15, 3) := by decide +kernel
theorem dX12_yields_38 : decode cX12_yields 38 = .ok (.aload_n 0, 1) := by decide +kernel
theorem dX12_yields_39 : decode cX12_yields 39 = .ok (.aload_n 0, 1) := by decide +kernel
theorem dX12_yields_40 : decode cX12_yields 40 = .ok (.getfield 49, 3) := by decide +kernel
theorem dX12_yields_43 : decode cX12_yields 43 = .ok (.iload_n 2, 1) := by decide +kernel
theorem dX12_yields_44 : decode cX12_yields 44 = .ok (.invokevirtual 287, 3) := by decide +kernel
theorem dX12_yields_47 : decode cX12_yields 47 = .ok (.ifCond .ne 5, 3) := by decide +kernel
theorem dX12_yields_50 : decode cX12_yields 50 = .ok (.iconst (-1), 1) := by decide +kernel
theorem dX12_yields_51 : decode cX12_yields 51 = .ok (.ireturn, 1) := by decide +kernel
theorem dX12_yields_52 : decode cX12_yields 52 = .ok (.aload_n 0, 1) := by decide +kernel
theorem dX12_yields_53 : decode cX12_yields 53 = .ok (.aload_n 0, 1) := by decide +kernel
theorem dX12_yields_54 : decode cX12_yields 54 = .ok (.getfield 49, 3) := by decide +kernel
theorem dX12_yields_57 : decode cX12_yields 57 = .ok (.iload_n 1, 1) := by decide +kernel
theorem dX12_yields_58 : decode cX12_yields 58 = .ok (.invokevirtual 386, 3) := by decide +kernel
theorem dX12_yields_61 : decode cX12_yields 61 = .ok (.istore_n 3, 1) := by decide +kernel
theorem dX12_yields_62 : decode cX12_yields 62 = .ok (.iload_n 3, 1) := by decide +kernel
theorem dX12_yields_63 : decode cX12_yields 63 = .ok (.bipush 99, 2) := by decide +kernel
theorem dX12_yields_65 : decode cX12_yields 65 = .ok (.if_icmp .gt 47, 3) := by decide +kernel
theorem dX12_yields_68 : decode cX12_yields 68 = .ok (.aload_n 0, 1) := by decide +kernel
theorem dX12_yields_69 : decode cX12_yields 69 = .ok (.getfield 49, 3) := by decide +kernel
theorem dX12_yields_72 : decode cX12_yields 72 = .ok (.aload_n 0, 1) := by decide +kernel
theorem dX12_yields_73 : decode cX12_yields 73 = .ok (.getfield 52, 3) := by decide +kernel
theorem dX12_yields_76 : decode cX12_yields 76 = .ok (.invokestatic 414, 3) := by decide +kernel
theorem dX12_yields_79 : decode cX12_yields 79 = .ok (.aload_n 0, 1) := by decide +kernel
theorem dX12_yields_80 : decode cX12_yields 80 = .ok (.getfield 52, 3) := by decide +kernel
theorem dX12_yields_83 : decode cX12_yields 83 = .ok (.bipush 11, 2) := by decide +kernel
theorem dX12_yields_85 : decode cX12_yields 85 = .ok (.iload_n 1, 1) := by decide +kernel
theorem dX12_yields_86 : decode cX12_yields 86 = .ok (.imul, 1) := by decide +kernel
theorem dX12_yields_87 : decode cX12_yields 87 = .ok (.iconst 0, 1) := by decide +kernel
theorem dX12_yields_88 : decode cX12_yields 88 = .ok (.iadd, 1) := by decide +kernel
theorem dX12_yields_89 : decode cX12_yields 89 = .ok (.iload_n 3, 1) := by decide +kernel
theorem dX12_yields_90 : decode cX12_yields 90 = .ok (.iastore, 1) := by decide +kernel
theorem dX12_yields_91 : decode cX12_yields 91 = .ok (.aload_n 0, 1) := by decide +kernel
theorem dX12_yields_92 : decode cX12_yields 92 = .ok (.aload_n 0, 1) := by decide +kernel
theorem dX12_yields_93 : decode cX12_yields 93 = .ok (.getfield 52, 3) := by decide +kernel
theorem dX12_yields_96 : decode cX12_yields 96 = .ok (.iload_n 2, 1) := by decide +kernel
theorem dX12_yields_97 : decode cX12_yields 97 = .ok (.iload_n 1, 1) := by decide +kernel
theorem dX12_yields_98 : decode cX12_yields 98 = .ok (.invokevirtual 291, 3) := by decide +kernel
theorem dX12_yields_101 : decode cX12_yields 101 = .ok (.ifCond .eq 5, 3) := by decide +kernel
theorem dX12_yields_104 : decode cX12_yields 104 = .ok (.iload_n 3, 1) := by decide +kernel
theorem dX12_yields_105 : decode cX12_yields 105 = .ok (.ireturn, 1) := by decide +kernel
theorem dX12_yields_106 : decode cX12_yields 106 = .ok (.iinc 3 1, 3) := by decide +kernel
theorem dX12_yields_109 : decode cX12_yields 109 = .ok (.goto (-47), 3) := by decide +kernel
theorem dX12_yields_112 : decode cX12_yields 112 = .ok (.iconst (-1), 1) := by decide +kernel
theorem dX12_yields_113 : decode cX12_yields 113 = .ok (.ireturn, 1) := by decide +kernel
theorem dX12_goods_0 : decode cX12_goods 0 = .ok (.aload_n 0, 1) := by decide +kernel
theorem dX12_goods_1 : decode cX12_goods 1 = .ok (.iconst 0, 1) := by decide +kernel
theorem dX12_goods_2 : decode cX12_goods 2 = .ok (.putfield 103, 3) := by decide +kernel
theorem dX12_goods_5 : decode cX12_goods 5 = .ok (.aload_n 0, 1) := by decide +kernel
theorem dX12_goods_6 : decode cX12_goods 6 = .ok (.iload_n 1, 1) := by decide +kernel
theorem dX12_goods_7 : decode cX12_goods 7 = .ok (.invokevirtual 354, 3) := by decide +kernel
theorem dX12_goods_10 : decode cX12_goods 10 = .ok (.ifCond .eq 13, 3) := by decide +kernel
theorem dX12_goods_13 : decode cX12_goods 13 = .ok (.iload_n 2, 1) := by decide +kernel
theorem dX12_goods_14 : decode cX12_goods 14 = .ok (.i2l, 1) := by decide +kernel
theorem dX12_goods_15 : decode cX12_goods 15 = .ok (.lconst 0, 1) := by decide +kernel
theorem dX12_goods_16 : decode cX12_goods 16 = .ok (.lconst 1, 1) := by decide +kernel
theorem dX12_goods_17 : decode cX12_goods 17 = .ok (.invokestatic 224, 3) := by decide +kernel
theorem dX12_goods_20 : decode cX12_goods 20 = .ok (.ifCond .ne 5, 3) := by decide +kernel
theorem dX12_goods_23 : decode cX12_goods 23 = .ok (.iconst (-1), 1) := by decide +kernel
theorem dX12_goods_24 : decode cX12_goods 24 = .ok (.ireturn, 1) := by decide +kernel
theorem dX12_goods_25 : decode cX12_goods 25 = .ok (.iconst 0, 1) := by decide +kernel
theorem dX12_goods_26 : decode cX12_goods 26 = .ok (.istore_n 3, 1) := by decide +kernel
theorem dX12_goods_27 : decode cX12_goods 27 = .ok (.iconst 0, 1) := by decide +kernel
theorem dX12_goods_28 : decode cX12_goods 28 = .ok (.istore 4, 2) := by decide +kernel
theorem dX12_goods_30 : decode cX12_goods 30 = .ok (.iconst 0, 1) := by decide +kernel
theorem dX12_goods_31 : decode cX12_goods 31 = .ok (.istore 5, 2) := by decide +kernel
theorem dX12_goods_33 : decode cX12_goods 33 = .ok (.iload 5, 2) := by decide +kernel
theorem dX12_goods_35 : decode cX12_goods 35 = .ok (.aload_n 0, 1) := by decide +kernel
theorem dX12_goods_36 : decode cX12_goods 36 = .ok (.getfield 49, 3) := by decide +kernel
theorem dX12_goods_39 : decode cX12_goods 39 = .ok (.bipush 70, 2) := by decide +kernel
theorem dX12_goods_41 : decode cX12_goods 41 = .ok (.iaload, 1) := by decide +kernel
theorem dX12_goods_42 : decode cX12_goods 42 = .ok (.if_icmp .ge 46, 3) := by decide +kernel
theorem dX12_goods_45 : decode cX12_goods 45 = .ok (.aload_n 0, 1) := by decide +kernel
theorem dX12_goods_46 : decode cX12_goods 46 = .ok (.iload 5, 2) := by decide +kernel
theorem dX12_goods_48 : decode cX12_goods 48 = .ok (.iload_n 1, 1) := by decide +kernel
theorem dX12_goods_49 : decode cX12_goods 49 = .ok (.iload_n 2, 1) := by decide +kernel
theorem dX12_goods_50 : decode cX12_goods 50 = .ok (.invokevirtual 462, 3) := by decide +kernel
theorem dX12_goods_53 : decode cX12_goods 53 = .ok (.ifCond .ne 6, 3) := by decide +kernel
theorem dX12_goods_56 : decode cX12_goods 56 = .ok (.goto 26, 3) := by decide +kernel
theorem dX12_goods_59 : decode cX12_goods 59 = .ok (.iload_n 3, 1) := by decide +kernel
theorem dX12_goods_60 : decode cX12_goods 60 = .ok (.aload_n 0, 1) := by decide +kernel
theorem dX12_goods_61 : decode cX12_goods 61 = .ok (.iload 5, 2) := by decide +kernel
theorem dX12_goods_63 : decode cX12_goods 63 = .ok (.invokevirtual 466, 3) := by decide +kernel
theorem dX12_goods_66 : decode cX12_goods 66 = .ok (.ifCond .eq 10, 3) := by decide +kernel
theorem dX12_goods_69 : decode cX12_goods 69 = .ok (.iconst 1, 1) := by decide +kernel
theorem dX12_goods_70 : decode cX12_goods 70 = .ok (.iload 4, 2) := by decide +kernel
theorem dX12_goods_72 : decode cX12_goods 72 = .ok (.ishl, 1) := by decide +kernel
theorem dX12_goods_73 : decode cX12_goods 73 = .ok (.goto 4, 3) := by decide +kernel
theorem dX12_goods_76 : decode cX12_goods 76 = .ok (.iconst 0, 1) := by decide +kernel
theorem dX12_goods_77 : decode cX12_goods 77 = .ok (.ior, 1) := by decide +kernel
theorem dX12_goods_78 : decode cX12_goods 78 = .ok (.istore_n 3, 1) := by decide +kernel
theorem dX12_goods_79 : decode cX12_goods 79 = .ok (.iinc 4 1, 3) := by decide +kernel
theorem dX12_goods_82 : decode cX12_goods 82 = .ok (.iinc 5 1, 3) := by decide +kernel
theorem dX12_goods_85 : decode cX12_goods 85 = .ok (.goto (-52), 3) := by decide +kernel
theorem dX12_goods_88 : decode cX12_goods 88 = .ok (.iload_n 3, 1) := by decide +kernel
theorem dX12_goods_89 : decode cX12_goods 89 = .ok (.ireturn, 1) := by decide +kernel
theorem dX12_kilos_0 : decode cX12_kilos 0 = .ok (.aload_n 0, 1) := by decide +kernel
theorem dX12_kilos_1 : decode cX12_kilos 1 = .ok (.iconst 0, 1) := by decide +kernel
theorem dX12_kilos_2 : decode cX12_kilos 2 = .ok (.putfield 103, 3) := by decide +kernel
theorem dX12_kilos_5 : decode cX12_kilos 5 = .ok (.aload_n 0, 1) := by decide +kernel
theorem dX12_kilos_6 : decode cX12_kilos 6 = .ok (.iload_n 1, 1) := by decide +kernel
theorem dX12_kilos_7 : decode cX12_kilos 7 = .ok (.invokevirtual 354, 3) := by decide +kernel
theorem dX12_kilos_10 : decode cX12_kilos 10 = .ok (.ifCond .eq 22, 3) := by decide +kernel
theorem dX12_kilos_13 : decode cX12_kilos 13 = .ok (.iload_n 2, 1) := by decide +kernel
theorem dX12_kilos_14 : decode cX12_kilos 14 = .ok (.i2l, 1) := by decide +kernel
theorem dX12_kilos_15 : decode cX12_kilos 15 = .ok (.lconst 0, 1) := by decide +kernel
