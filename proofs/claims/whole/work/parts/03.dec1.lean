theorem dX6_judge_73 : decode cX6_judge 73 = .ok (.iload 5, 2) := by decide +kernel
theorem dX6_judge_75 : decode cX6_judge 75 = .ok (.daload, 1) := by decide +kernel
theorem dX6_judge_76 : decode cX6_judge 76 = .ok (.invokestatic 178, 3) := by decide +kernel
theorem dX6_judge_79 : decode cX6_judge 79 = .ok (.dload 10, 2) := by decide +kernel
theorem dX6_judge_81 : decode cX6_judge 81 = .ok (.ddiv, 1) := by decide +kernel
theorem dX6_judge_82 : decode cX6_judge 82 = .ok (.dstore 12, 2) := by decide +kernel
theorem dX6_judge_84 : decode cX6_judge 84 = .ok (.aload_n 0, 1) := by decide +kernel
theorem dX6_judge_85 : decode cX6_judge 85 = .ok (.dload 12, 2) := by decide +kernel
theorem dX6_judge_87 : decode cX6_judge 87 = .ok (.aload_n 0, 1) := by decide +kernel
theorem dX6_judge_88 : decode cX6_judge 88 = .ok (.getfield 62, 3) := by decide +kernel
theorem dX6_judge_91 : decode cX6_judge 91 = .ok (.dcmp .l, 1) := by decide +kernel
theorem dX6_judge_92 : decode cX6_judge 92 = .ok (.ifCond .le 8, 3) := by decide +kernel
theorem dX6_judge_95 : decode cX6_judge 95 = .ok (.dload 12, 2) := by decide +kernel
theorem dX6_judge_97 : decode cX6_judge 97 = .ok (.goto 7, 3) := by decide +kernel
theorem dX6_judge_100 : decode cX6_judge 100 = .ok (.aload_n 0, 1) := by decide +kernel
theorem dX6_judge_101 : decode cX6_judge 101 = .ok (.getfield 62, 3) := by decide +kernel
theorem dX6_judge_104 : decode cX6_judge 104 = .ok (.putfield 62, 3) := by decide +kernel
theorem dX6_judge_107 : decode cX6_judge 107 = .ok (.iinc 5 1, 3) := by decide +kernel
theorem dX6_judge_110 : decode cX6_judge 110 = .ok (.goto (-107), 3) := by decide +kernel
theorem dX6_judge_113 : decode cX6_judge 113 = .ok (.return_, 1) := by decide +kernel
theorem dX6_reckonEnd_0 : decode cX6_reckonEnd 0 = .ok (.aload_n 0, 1) := by decide +kernel
theorem dX6_reckonEnd_1 : decode cX6_reckonEnd 1 = .ok (.getfield 40, 3) := by decide +kernel
theorem dX6_reckonEnd_4 : decode cX6_reckonEnd 4 = .ok (.aload_n 0, 1) := by decide +kernel
theorem dX6_reckonEnd_5 : decode cX6_reckonEnd 5 = .ok (.getfield 55, 3) := by decide +kernel
theorem dX6_reckonEnd_8 : decode cX6_reckonEnd 8 = .ok (.aload_n 0, 1) := by decide +kernel
theorem dX6_reckonEnd_9 : decode cX6_reckonEnd 9 = .ok (.getfield 27, 3) := by decide +kernel
theorem dX6_reckonEnd_12 : decode cX6_reckonEnd 12 = .ok (.aload_n 0, 1) := by decide +kernel
theorem dX6_reckonEnd_13 : decode cX6_reckonEnd 13 = .ok (.getfield 40, 3) := by decide +kernel
theorem dX6_reckonEnd_16 : decode cX6_reckonEnd 16 = .ok (.getfield 109, 3) := by decide +kernel
theorem dX6_reckonEnd_19 : decode cX6_reckonEnd 19 = .ok (.invokevirtual 112, 3) := by decide +kernel
theorem dX6_reckonEnd_22 : decode cX6_reckonEnd 22 = .ok (.aload_n 0, 1) := by decide +kernel
theorem dX6_reckonEnd_23 : decode cX6_reckonEnd 23 = .ok (.getfield 40, 3) := by decide +kernel
theorem dX6_reckonEnd_26 : decode cX6_reckonEnd 26 = .ok (.aload_n 0, 1) := by decide +kernel
theorem dX6_reckonEnd_27 : decode cX6_reckonEnd 27 = .ok (.getfield 37, 3) := by decide +kernel
theorem dX6_reckonEnd_30 : decode cX6_reckonEnd 30 = .ok (.invokevirtual 116, 3) := by decide +kernel
theorem dX6_reckonEnd_33 : decode cX6_reckonEnd 33 = .ok (.return_, 1) := by decide +kernel
theorem dX6_blend_0 : decode cX6_blend 0 = .ok (.dload_n 2, 1) := by decide +kernel
theorem dX6_blend_1 : decode cX6_blend 1 = .ok (.dconst 0, 1) := by decide +kernel
theorem dX6_blend_2 : decode cX6_blend 2 = .ok (.dcmp .l, 1) := by decide +kernel
theorem dX6_blend_3 : decode cX6_blend 3 = .ok (.ifCond .ne 16, 3) := by decide +kernel
theorem dX6_blend_6 : decode cX6_blend 6 = .ok (.aload_n 0, 1) := by decide +kernel
theorem dX6_blend_7 : decode cX6_blend 7 = .ok (.getfield 24, 3) := by decide +kernel
theorem dX6_blend_10 : decode cX6_blend 10 = .ok (.iload_n 1, 1) := by decide +kernel
theorem dX6_blend_11 : decode cX6_blend 11 = .ok (.aload_n 0, 1) := by decide +kernel
theorem dX6_blend_12 : decode cX6_blend 12 = .ok (.getfield 20, 3) := by decide +kernel
theorem dX6_blend_15 : decode cX6_blend 15 = .ok (.invokevirtual 182, 3) := by decide +kernel
theorem dX6_blend_18 : decode cX6_blend 18 = .ok (.return_, 1) := by decide +kernel
theorem dX6_blend_19 : decode cX6_blend 19 = .ok (.dload_n 2, 1) := by decide +kernel
theorem dX6_blend_20 : decode cX6_blend 20 = .ok (.dconst 1, 1) := by decide +kernel
theorem dX6_blend_21 : decode cX6_blend 21 = .ok (.dcmp .l, 1) := by decide +kernel
theorem dX6_blend_22 : decode cX6_blend 22 = .ok (.ifCond .ne 16, 3) := by decide +kernel
theorem dX6_blend_25 : decode cX6_blend 25 = .ok (.aload_n 0, 1) := by decide +kernel
theorem dX6_blend_26 : decode cX6_blend 26 = .ok (.getfield 24, 3) := by decide +kernel
theorem dX6_blend_29 : decode cX6_blend 29 = .ok (.iload_n 1, 1) := by decide +kernel
theorem dX6_blend_30 : decode cX6_blend 30 = .ok (.aload_n 0, 1) := by decide +kernel
theorem dX6_blend_31 : decode cX6_blend 31 = .ok (.getfield 27, 3) := by decide +kernel
theorem dX6_blend_34 : decode cX6_blend 34 = .ok (.invokevirtual 182, 3) := by decide +kernel
theorem dX6_blend_37 : decode cX6_blend 37 = .ok (.return_, 1) := by decide +kernel
theorem dX6_blend_38 : decode cX6_blend 38 = .ok (.dconst 1, 1) := by decide +kernel
theorem dX6_blend_39 : decode cX6_blend 39 = .ok (.dload_n 2, 1) := by decide +kernel
theorem dX6_blend_40 : decode cX6_blend 40 = .ok (.dsub, 1) := by decide +kernel
theorem dX6_blend_41 : decode cX6_blend 41 = .ok (.dstore 4, 2) := by decide +kernel
theorem dX6_blend_43 : decode cX6_blend 43 = .ok (.aload_n 0, 1) := by decide +kernel
theorem dX6_blend_44 : decode cX6_blend 44 = .ok (.getfield 9, 3) := by decide +kernel
theorem dX6_blend_47 : decode cX6_blend 47 = .ok (.invokevirtual 141, 3) := by decide +kernel
theorem dX6_blend_50 : decode cX6_blend 50 = .ok (.aload_n 0, 1) := by decide +kernel
theorem dX6_blend_51 : decode cX6_blend 51 = .ok (.getfield 9, 3) := by decide +kernel
theorem dX6_blend_54 : decode cX6_blend 54 = .ok (.aload_n 0, 1) := by decide +kernel
theorem dX6_blend_55 : decode cX6_blend 55 = .ok (.getfield 9, 3) := by decide +kernel
theorem dX6_blend_58 : decode cX6_blend 58 = .ok (.dconst 1, 1) := by decide +kernel
theorem dX6_blend_59 : decode cX6_blend 59 = .ok (.ldc2_w 152, 3) := by decide +kernel
theorem dX6_blend_62 : decode cX6_blend 62 = .ok (.dload_n 2, 1) := by decide +kernel
theorem dX6_blend_63 : decode cX6_blend 63 = .ok (.dmul, 1) := by decide +kernel
theorem dX6_blend_64 : decode cX6_blend 64 = .ok (.dadd, 1) := by decide +kernel
theorem dX6_blend_65 : decode cX6_blend 65 = .ok (.aload_n 0, 1) := by decide +kernel
theorem dX6_blend_66 : decode cX6_blend 66 = .ok (.getfield 9, 3) := by decide +kernel
theorem dX6_blend_69 : decode cX6_blend 69 = .ok (.aload_n 0, 1) := by decide +kernel
theorem dX6_blend_70 : decode cX6_blend 70 = .ok (.getfield 20, 3) := by decide +kernel
theorem dX6_blend_73 : decode cX6_blend 73 = .ok (.iload_n 1, 1) := by decide +kernel
theorem dX6_blend_74 : decode cX6_blend 74 = .ok (.invokevirtual 123, 3) := by decide +kernel
theorem dX6_blend_77 : decode cX6_blend 77 = .ok (.invokevirtual 119, 3) := by decide +kernel
theorem dX6_blend_80 : decode cX6_blend 80 = .ok (.aload_n 0, 1) := by decide +kernel
theorem dX6_blend_81 : decode cX6_blend 81 = .ok (.getfield 9, 3) := by decide +kernel
theorem dX6_blend_84 : decode cX6_blend 84 = .ok (.dload_n 2, 1) := by decide +kernel
theorem dX6_blend_85 : decode cX6_blend 85 = .ok (.aload_n 0, 1) := by decide +kernel
theorem dX6_blend_86 : decode cX6_blend 86 = .ok (.getfield 52, 3) := by decide +kernel
theorem dX6_blend_89 : decode cX6_blend 89 = .ok (.dmul, 1) := by decide +kernel
theorem dX6_blend_90 : decode cX6_blend 90 = .ok (.aload_n 0, 1) := by decide +kernel
theorem dX6_blend_91 : decode cX6_blend 91 = .ok (.getfield 9, 3) := by decide +kernel
theorem dX6_blend_94 : decode cX6_blend 94 = .ok (.aload_n 0, 1) := by decide +kernel
theorem dX6_blend_95 : decode cX6_blend 95 = .ok (.getfield 30, 3) := by decide +kernel
theorem dX6_blend_98 : decode cX6_blend 98 = .ok (.iconst 0, 1) := by decide +kernel
theorem dX6_blend_99 : decode cX6_blend 99 = .ok (.aaload, 1) := by decide +kernel
theorem dX6_blend_100 : decode cX6_blend 100 = .ok (.iload_n 1, 1) := by decide +kernel
theorem dX6_blend_101 : decode cX6_blend 101 = .ok (.invokevirtual 123, 3) := by decide +kernel
theorem dX6_blend_104 : decode cX6_blend 104 = .ok (.invokevirtual 119, 3) := by decide +kernel
theorem dX6_blend_107 : decode cX6_blend 107 = .ok (.invokevirtual 127, 3) := by decide +kernel
theorem dX6_blend_110 : decode cX6_blend 110 = .ok (.dstore 6, 2) := by decide +kernel
theorem dX6_blend_112 : decode cX6_blend 112 = .ok (.aload_n 0, 1) := by decide +kernel
theorem dX6_blend_113 : decode cX6_blend 113 = .ok (.getfield 9, 3) := by decide +kernel
theorem dX6_blend_116 : decode cX6_blend 116 = .ok (.aload_n 0, 1) := by decide +kernel
theorem dX6_blend_117 : decode cX6_blend 117 = .ok (.getfield 9, 3) := by decide +kernel
theorem dX6_blend_120 : decode cX6_blend 120 = .ok (.dconst 1, 1) := by decide +kernel
theorem dX6_blend_121 : decode cX6_blend 121 = .ok (.ldc2_w 152, 3) := by decide +kernel
theorem dX6_blend_124 : decode cX6_blend 124 = .ok (.dload 4, 2) := by decide +kernel
theorem dX6_blend_126 : decode cX6_blend 126 = .ok (.dmul, 1) := by decide +kernel
theorem dX6_blend_127 : decode cX6_blend 127 = .ok (.dadd, 1) := by decide +kernel
theorem dX6_blend_128 : decode cX6_blend 128 = .ok (.aload_n 0, 1) := by decide +kernel
theorem dX6_blend_129 : decode cX6_blend 129 = .ok (.getfield 9, 3) := by decide +kernel
theorem dX6_blend_132 : decode cX6_blend 132 = .ok (.aload_n 0, 1) := by decide +kernel
theorem dX6_blend_133 : decode cX6_blend 133 = .ok (.getfield 27, 3) := by decide +kernel
theorem dX6_blend_136 : decode cX6_blend 136 = .ok (.iload_n 1, 1) := by decide +kernel
theorem dX6_blend_137 : decode cX6_blend 137 = .ok (.invokevirtual 123, 3) := by decide +kernel
theorem dX6_blend_140 : decode cX6_blend 140 = .ok (.invokevirtual 119, 3) := by decide +kernel
theorem dX6_blend_143 : decode cX6_blend 143 = .ok (.aload_n 0, 1) := by decide +kernel
theorem dX6_blend_144 : decode cX6_blend 144 = .ok (.getfield 9, 3) := by decide +kernel
theorem dX6_blend_147 : decode cX6_blend 147 = .ok (.dload 4, 2) := by decide +kernel
theorem dX6_blend_149 : decode cX6_blend 149 = .ok (.aload_n 0, 1) := by decide +kernel
theorem dX6_blend_150 : decode cX6_blend 150 = .ok (.getfield 52, 3) := by decide +kernel
theorem dX6_blend_153 : decode cX6_blend 153 = .ok (.dmul, 1) := by decide +kernel
theorem dX6_blend_154 : decode cX6_blend 154 = .ok (.aload_n 0, 1) := by decide +kernel
theorem dX6_blend_155 : decode cX6_blend 155 = .ok (.getfield 9, 3) := by decide +kernel
theorem dX6_blend_158 : decode cX6_blend 158 = .ok (.aload_n 0, 1) := by decide +kernel
theorem dX6_blend_159 : decode cX6_blend 159 = .ok (.getfield 37, 3) := by decide +kernel
theorem dX6_blend_162 : decode cX6_blend 162 = .ok (.iload_n 1, 1) := by decide +kernel
theorem dX6_blend_163 : decode cX6_blend 163 = .ok (.invokevirtual 123, 3) := by decide +kernel
theorem dX6_blend_166 : decode cX6_blend 166 = .ok (.invokevirtual 119, 3) := by decide +kernel
theorem dX6_blend_169 : decode cX6_blend 169 = .ok (.invokevirtual 154, 3) := by decide +kernel
theorem dX6_blend_172 : decode cX6_blend 172 = .ok (.dstore 8, 2) := by decide +kernel
theorem dX6_blend_174 : decode cX6_blend 174 = .ok (.aload_n 0, 1) := by decide +kernel
theorem dX6_blend_175 : decode cX6_blend 175 = .ok (.getfield 9, 3) := by decide +kernel
theorem dX6_blend_178 : decode cX6_blend 178 = .ok (.aload_n 0, 1) := by decide +kernel
theorem dX6_blend_179 : decode cX6_blend 179 = .ok (.getfield 9, 3) := by decide +kernel
theorem dX6_blend_182 : decode cX6_blend 182 = .ok (.dload 4, 2) := by decide +kernel
theorem dX6_blend_184 : decode cX6_blend 184 = .ok (.dload 4, 2) := by decide +kernel
theorem dX6_blend_186 : decode cX6_blend 186 = .ok (.dmul, 1) := by decide +kernel
theorem dX6_blend_187 : decode cX6_blend 187 = .ok (.dload 6, 2) := by decide +kernel
theorem dX6_blend_189 : decode cX6_blend 189 = .ok (.invokevirtual 119, 3) := by decide +kernel
theorem dX6_blend_192 : decode cX6_blend 192 = .ok (.aload_n 0, 1) := by decide +kernel
theorem dX6_blend_193 : decode cX6_blend 193 = .ok (.getfield 9, 3) := by decide +kernel
theorem dX6_blend_196 : decode cX6_blend 196 = .ok (.dload_n 2, 1) := by decide +kernel
theorem dX6_blend_197 : decode cX6_blend 197 = .ok (.dload_n 2, 1) := by decide +kernel
theorem dX6_blend_198 : decode cX6_blend 198 = .ok (.dmul, 1) := by decide +kernel
theorem dX6_blend_199 : decode cX6_blend 199 = .ok (.dload 8, 2) := by decide +kernel
theorem dX6_blend_201 : decode cX6_blend 201 = .ok (.invokevirtual 119, 3) := by decide +kernel
theorem dX6_blend_204 : decode cX6_blend 204 = .ok (.invokevirtual 127, 3) := by decide +kernel
theorem dX6_blend_207 : decode cX6_blend 207 = .ok (.dstore 10, 2) := by decide +kernel
theorem dX6_blend_209 : decode cX6_blend 209 = .ok (.aload_n 0, 1) := by decide +kernel
theorem dX6_blend_210 : decode cX6_blend 210 = .ok (.getfield 24, 3) := by decide +kernel
theorem dX6_blend_213 : decode cX6_blend 213 = .ok (.iload_n 1, 1) := by decide +kernel
theorem dX6_blend_214 : decode cX6_blend 214 = .ok (.dload 10, 2) := by decide +kernel
theorem dX6_blend_216 : decode cX6_blend 216 = .ok (.aload_n 0, 1) := by decide +kernel
theorem dX6_blend_217 : decode cX6_blend 217 = .ok (.getfield 9, 3) := by decide +kernel
theorem dX6_blend_220 : decode cX6_blend 220 = .ok (.getfield 130, 3) := by decide +kernel
theorem dX6_blend_223 : decode cX6_blend 223 = .ok (.aload_n 0, 1) := by decide +kernel
theorem dX6_blend_224 : decode cX6_blend 224 = .ok (.getfield 40, 3) := by decide +kernel
theorem dX6_blend_227 : decode cX6_blend 227 = .ok (.iload_n 1, 1) := by decide +kernel
theorem dX6_blend_228 : decode cX6_blend 228 = .ok (.invokevirtual 134, 3) := by decide +kernel
theorem dX6_blend_231 : decode cX6_blend 231 = .ok (.invokevirtual 137, 3) := by decide +kernel
theorem dX6_blend_234 : decode cX6_blend 234 = .ok (.return_, 1) := by decide +kernel
theorem dX6_blendAll_0 : decode cX6_blendAll 0 = .ok (.iconst 0, 1) := by decide +kernel
theorem dX6_blendAll_1 : decode cX6_blendAll 1 = .ok (.istore_n 3, 1) := by decide +kernel
theorem dX6_blendAll_2 : decode cX6_blendAll 2 = .ok (.iload_n 3, 1) := by decide +kernel
theorem dX6_blendAll_3 : decode cX6_blendAll 3 = .ok (.aload_n 0, 1) := by decide +kernel
theorem dX6_blendAll_4 : decode cX6_blendAll 4 = .ok (.getfield 40, 3) := by decide +kernel
theorem dX6_blendAll_7 : decode cX6_blendAll 7 = .ok (.getfield 95, 3) := by decide +kernel
theorem dX6_blendAll_10 : decode cX6_blendAll 10 = .ok (.if_icmp .ge 15, 3) := by decide +kernel
theorem dX6_blendAll_13 : decode cX6_blendAll 13 = .ok (.aload_n 0, 1) := by decide +kernel
theorem dX6_blendAll_14 : decode cX6_blendAll 14 = .ok (.iload_n 3, 1) := by decide +kernel
theorem dX6_blendAll_15 : decode cX6_blendAll 15 = .ok (.dload_n 1, 1) := by decide +kernel
theorem dX6_blendAll_16 : decode cX6_blendAll 16 = .ok (.invokevirtual 186, 3) := by decide +kernel
theorem dX6_blendAll_19 : decode cX6_blendAll 19 = .ok (.iinc 3 1, 3) := by decide +kernel
theorem dX6_blendAll_22 : decode cX6_blendAll 22 = .ok (.goto (-20), 3) := by decide +kernel
theorem dX6_blendAll_25 : decode cX6_blendAll 25 = .ok (.return_, 1) := by decide +kernel
theorem dX6_timeAt_0 : decode cX6_timeAt 0 = .ok (.aload_n 0, 1) := by decide +kernel
theorem dX6_timeAt_1 : decode cX6_timeAt 1 = .ok (.getfield 48, 3) := by decide +kernel
theorem dX6_timeAt_4 : decode cX6_timeAt 4 = .ok (.dload_n 1, 1) := by decide +kernel
theorem dX6_timeAt_5 : decode cX6_timeAt 5 = .ok (.aload_n 0, 1) := by decide +kernel
theorem dX6_timeAt_6 : decode cX6_timeAt 6 = .ok (.getfield 52, 3) := by decide +kernel
theorem dX6_timeAt_9 : decode cX6_timeAt 9 = .ok (.dmul, 1) := by decide +kernel
theorem dX6_timeAt_10 : decode cX6_timeAt 10 = .ok (.dadd, 1) := by decide +kernel
theorem dX6_timeAt_11 : decode cX6_timeAt 11 = .ok (.dreturn, 1) := by decide +kernel
theorem dX7_init_0 : decode cX7_init 0 = .ok (.aload_n 0, 1) := by decide +kernel
theorem dX7_init_1 : decode cX7_init 1 = .ok (.invokespecial 3, 3) := by decide +kernel
theorem dX7_init_4 : decode cX7_init 4 = .ok (.aload_n 0, 1) := by decide +kernel
theorem dX7_init_5 : decode cX7_init 5 = .ok (.bipush 10, 2) := by decide +kernel
theorem dX7_init_7 : decode cX7_init 7 = .ok (.newarray .double, 2) := by decide +kernel
theorem dX7_init_9 : decode cX7_init 9 = .ok (.putfield 9, 3) := by decide +kernel
theorem dX7_init_12 : decode cX7_init 12 = .ok (.ldc2_w 15, 3) := by decide +kernel
theorem dX7_init_15 : decode cX7_init 15 = .ok (.dstore_n 1, 1) := by decide +kernel
theorem dX7_init_16 : decode cX7_init 16 = .ok (.iconst 0, 1) := by decide +kernel
theorem dX7_init_17 : decode cX7_init 17 = .ok (.istore_n 3, 1) := by decide +kernel
theorem dX7_init_18 : decode cX7_init 18 = .ok (.iload_n 3, 1) := by decide +kernel
theorem dX7_init_19 : decode cX7_init 19 = .ok (.aload_n 0, 1) := by decide +kernel
theorem dX7_init_20 : decode cX7_init 20 = .ok (.getfield 9, 3) := by decide +kernel
theorem dX7_init_23 : decode cX7_init 23 = .ok (.arraylength, 1) := by decide +kernel
theorem dX7_init_24 : decode cX7_init 24 = .ok (.if_icmp .ge 35, 3) := by decide +kernel
theorem dX7_init_27 : decode cX7_init 27 = .ok (.aload_n 0, 1) := by decide +kernel
theorem dX7_init_28 : decode cX7_init 28 = .ok (.getfield 9, 3) := by decide +kernel
theorem dX7_init_31 : decode cX7_init 31 = .ok (.iload_n 3, 1) := by decide +kernel
theorem dX7_init_32 : decode cX7_init 32 = .ok (.dload_n 1, 1) := by decide +kernel
theorem dX7_init_33 : decode cX7_init 33 = .ok (.dastore, 1) := by decide +kernel
theorem dX7_init_34 : decode cX7_init 34 = .ok (.iload_n 3, 1) := by decide +kernel
theorem dX7_init_35 : decode cX7_init 35 = .ok (.aload_n 0, 1) := by decide +kernel
theorem dX7_init_36 : decode cX7_init 36 = .ok (.getfield 9, 3) := by decide +kernel
theorem dX7_init_39 : decode cX7_init 39 = .ok (.arraylength, 1) := by decide +kernel
theorem dX7_init_40 : decode cX7_init 40 = .ok (.iconst 1, 1) := by decide +kernel
theorem dX7_init_41 : decode cX7_init 41 = .ok (.isub, 1) := by decide +kernel
theorem dX7_init_42 : decode cX7_init 42 = .ok (.if_icmp .ge 9, 3) := by decide +kernel
theorem dX7_init_45 : decode cX7_init 45 = .ok (.dload_n 1, 1) := by decide +kernel
theorem dX7_init_46 : decode cX7_init 46 = .ok (.dload_n 1, 1) := by decide +kernel
theorem dX7_init_47 : decode cX7_init 47 = .ok (.dmul, 1) := by decide +kernel
theorem dX7_init_48 : decode cX7_init 48 = .ok (.goto 4, 3) := by decide +kernel
theorem dX7_init_51 : decode cX7_init 51 = .ok (.dload_n 1, 1) := by decide +kernel
theorem dX7_init_52 : decode cX7_init 52 = .ok (.dstore_n 1, 1) := by decide +kernel
theorem dX7_init_53 : decode cX7_init 53 = .ok (.iinc 3 1, 3) := by decide +kernel
theorem dX7_init_56 : decode cX7_init 56 = .ok (.goto (-38), 3) := by decide +kernel
theorem dX7_init_59 : decode cX7_init 59 = .ok (.return_, 1) := by decide +kernel
theorem dX7_told_0 : decode cX7_told 0 = .ok (.aload_n 1, 1) := by decide +kernel
theorem dX7_told_1 : decode cX7_told 1 = .ok (.getfield 17, 3) := by decide +kernel
theorem dX7_told_4 : decode cX7_told 4 = .ok (.iload_n 2, 1) := by decide +kernel
theorem dX7_told_5 : decode cX7_told 5 = .ok (.baload, 1) := by decide +kernel
theorem dX7_told_6 : decode cX7_told 6 = .ok (.ifCond .eq 9, 3) := by decide +kernel
theorem dX7_told_9 : decode cX7_told 9 = .ok (.ldc2_w 23, 3) := by decide +kernel
theorem dX7_told_12 : decode cX7_told 12 = .ok (.goto 13, 3) := by decide +kernel
theorem dX7_told_15 : decode cX7_told 15 = .ok (.aload_n 0, 1) := by decide +kernel
theorem dX7_told_16 : decode cX7_told 16 = .ok (.aload_n 1, 1) := by decide +kernel
theorem dX7_told_17 : decode cX7_told 17 = .ok (.getfield 25, 3) := by decide +kernel
theorem dX7_told_20 : decode cX7_told 20 = .ok (.iload_n 2, 1) := by decide +kernel
theorem dX7_told_21 : decode cX7_told 21 = .ok (.daload, 1) := by decide +kernel
theorem dX7_told_22 : decode cX7_told 22 = .ok (.invokevirtual 28, 3) := by decide +kernel
theorem dX7_told_25 : decode cX7_told 25 = .ok (.lreturn, 1) := by decide +kernel
theorem dX7_bits_0 : decode cX7_bits 0 = .ok (.dload_n 1, 1) := by decide +kernel
theorem dX7_bits_1 : decode cX7_bits 1 = .ok (.dconst 0, 1) := by decide +kernel
theorem dX7_bits_2 : decode cX7_bits 2 = .ok (.dcmp .g, 1) := by decide +kernel
theorem dX7_bits_3 : decode cX7_bits 3 = .ok (.ifCond .lt 17, 3) := by decide +kernel
theorem dX7_bits_6 : decode cX7_bits 6 = .ok (.dload_n 1, 1) := by decide +kernel
theorem dX7_bits_7 : decode cX7_bits 7 = .ok (.dconst 0, 1) := by decide +kernel
theorem dX7_bits_8 : decode cX7_bits 8 = .ok (.dcmp .l, 1) := by decide +kernel
theorem dX7_bits_9 : decode cX7_bits 9 = .ok (.ifCond .ne 15, 3) := by decide +kernel
theorem dX7_bits_12 : decode cX7_bits 12 = .ok (.dconst 1, 1) := by decide +kernel
theorem dX7_bits_13 : decode cX7_bits 13 = .ok (.dload_n 1, 1) := by decide +kernel
theorem dX7_bits_14 : decode cX7_bits 14 = .ok (.ddiv, 1) := by decide +kernel
theorem dX7_bits_15 : decode cX7_bits 15 = .ok (.dconst 0, 1) := by decide +kernel
theorem dX7_bits_16 : decode cX7_bits 16 = .ok (.dcmp .g, 1) := by decide +kernel
theorem dX7_bits_17 : decode cX7_bits 17 = .ok (.ifCond .ge 7, 3) := by decide +kernel
theorem dX7_bits_20 : decode cX7_bits 20 = .ok (.iconst 1, 1) := by decide +kernel
theorem dX7_bits_21 : decode cX7_bits 21 = .ok (.goto 4, 3) := by decide +kernel
theorem dX7_bits_24 : decode cX7_bits 24 = .ok (.iconst 0, 1) := by decide +kernel
theorem dX7_bits_25 : decode cX7_bits 25 = .ok (.istore_n 3, 1) := by decide +kernel
theorem dX7_bits_26 : decode cX7_bits 26 = .ok (.iload_n 3, 1) := by decide +kernel
theorem dX7_bits_27 : decode cX7_bits 27 = .ok (.ifCond .eq 9, 3) := by decide +kernel
theorem dX7_bits_30 : decode cX7_bits 30 = .ok (.ldc2_w 32, 3) := by decide +kernel
theorem dX7_bits_33 : decode cX7_bits 33 = .ok (.goto 4, 3) := by decide +kernel
theorem dX7_bits_36 : decode cX7_bits 36 = .ok (.lconst 0, 1) := by decide +kernel
theorem dX7_bits_37 : decode cX7_bits 37 = .ok (.lstore 4, 2) := by decide +kernel
theorem dX7_bits_39 : decode cX7_bits 39 = .ok (.lload 4, 2) := by decide +kernel
theorem dX7_bits_41 : decode cX7_bits 41 = .ok (.aload_n 0, 1) := by decide +kernel
theorem dX7_bits_42 : decode cX7_bits 42 = .ok (.iload_n 3, 1) := by decide +kernel
theorem dX7_bits_43 : decode cX7_bits 43 = .ok (.ifCond .eq 9, 3) := by decide +kernel
theorem dX7_bits_46 : decode cX7_bits 46 = .ok (.dconst 0, 1) := by decide +kernel
theorem dX7_bits_47 : decode cX7_bits 47 = .ok (.dload_n 1, 1) := by decide +kernel
theorem dX7_bits_48 : decode cX7_bits 48 = .ok (.dsub, 1) := by decide +kernel
theorem dX7_bits_49 : decode cX7_bits 49 = .ok (.goto 4, 3) := by decide +kernel
theorem dX7_bits_52 : decode cX7_bits 52 = .ok (.dload_n 1, 1) := by decide +kernel
theorem dX7_bits_53 : decode cX7_bits 53 = .ok (.invokevirtual 34, 3) := by decide +kernel
theorem dX7_bits_56 : decode cX7_bits 56 = .ok (.lor, 1) := by decide +kernel
theorem dX7_bits_57 : decode cX7_bits 57 = .ok (.lreturn, 1) := by decide +kernel
theorem dX7_bitsOfSize_0 : decode cX7_bitsOfSize 0 = .ok (.dload_n 1, 1) := by decide +kernel
theorem dX7_bitsOfSize_1 : decode cX7_bitsOfSize 1 = .ok (.ldc2_w 37, 3) := by decide +kernel
theorem dX7_bitsOfSize_4 : decode cX7_bitsOfSize 4 = .ok (.dcmp .l, 1) := by decide +kernel
theorem dX7_bitsOfSize_5 : decode cX7_bitsOfSize 5 = .ok (.ifCond .le 7, 3) := by decide +kernel
theorem dX7_bitsOfSize_8 : decode cX7_bitsOfSize 8 = .ok (.ldc2_w 39, 3) := by decide +kernel
theorem dX7_bitsOfSize_11 : decode cX7_bitsOfSize 11 = .ok (.lreturn, 1) := by decide +kernel
theorem dX7_bitsOfSize_12 : decode cX7_bitsOfSize 12 = .ok (.dload_n 1, 1) := by decide +kernel
theorem dX7_bitsOfSize_13 : decode cX7_bitsOfSize 13 = .ok (.ldc2_w 41, 3) := by decide +kernel
theorem dX7_bitsOfSize_16 : decode cX7_bitsOfSize 16 = .ok (.dcmp .g, 1) := by decide +kernel
theorem dX7_bitsOfSize_17 : decode cX7_bitsOfSize 17 = .ok (.ifCond .ge 26, 3) := by decide +kernel
theorem dX7_bitsOfSize_20 : decode cX7_bitsOfSize 20 = .ok (.dload_n 1, 1) := by decide +kernel
theorem dX7_bitsOfSize_21 : decode cX7_bitsOfSize 21 = .ok (.aload_n 0, 1) := by decide +kernel
theorem dX7_bitsOfSize_22 : decode cX7_bitsOfSize 22 = .ok (.getfield 9, 3) := by decide +kernel
theorem dX7_bitsOfSize_25 : decode cX7_bitsOfSize 25 = .ok (.bipush 9, 2) := by decide +kernel
theorem dX7_bitsOfSize_27 : decode cX7_bitsOfSize 27 = .ok (.daload, 1) := by decide +kernel
theorem dX7_bitsOfSize_28 : decode cX7_bitsOfSize 28 = .ok (.dmul, 1) := by decide +kernel
theorem dX7_bitsOfSize_29 : decode cX7_bitsOfSize 29 = .ok (.aload_n 0, 1) := by decide +kernel
theorem dX7_bitsOfSize_30 : decode cX7_bitsOfSize 30 = .ok (.getfield 9, 3) := by decide +kernel
theorem dX7_bitsOfSize_33 : decode cX7_bitsOfSize 33 = .ok (.bipush 9, 2) := by decide +kernel
theorem dX7_bitsOfSize_35 : decode cX7_bitsOfSize 35 = .ok (.daload, 1) := by decide +kernel
theorem dX7_bitsOfSize_36 : decode cX7_bitsOfSize 36 = .ok (.dmul, 1) := by decide +kernel
theorem dX7_bitsOfSize_37 : decode cX7_bitsOfSize 37 = .ok (.ldc2_w 43, 3) := by decide +kernel
theorem dX7_bitsOfSize_40 : decode cX7_bitsOfSize 40 = .ok (.dmul, 1) := by decide +kernel
theorem dX7_bitsOfSize_41 : decode cX7_bitsOfSize 41 = .ok (.d2l, 1) := by decide +kernel
theorem dX7_bitsOfSize_42 : decode cX7_bitsOfSize 42 = .ok (.lreturn, 1) := by decide +kernel
theorem dX7_bitsOfSize_43 : decode cX7_bitsOfSize 43 = .ok (.dload_n 1, 1) := by decide +kernel
theorem dX7_bitsOfSize_44 : decode cX7_bitsOfSize 44 = .ok (.dstore_n 3, 1) := by decide +kernel
theorem dX7_bitsOfSize_45 : decode cX7_bitsOfSize 45 = .ok (.ldc2_w 45, 3) := by decide +kernel
theorem dX7_bitsOfSize_48 : decode cX7_bitsOfSize 48 = .ok (.lstore 5, 2) := by decide +kernel
theorem dX7_bitsOfSize_50 : decode cX7_bitsOfSize 50 = .ok (.aload_n 0, 1) := by decide +kernel
theorem dX7_bitsOfSize_51 : decode cX7_bitsOfSize 51 = .ok (.getfield 9, 3) := by decide +kernel
theorem dX7_bitsOfSize_54 : decode cX7_bitsOfSize 54 = .ok (.arraylength, 1) := by decide +kernel
theorem dX7_bitsOfSize_55 : decode cX7_bitsOfSize 55 = .ok (.iconst 1, 1) := by decide +kernel
theorem dX7_bitsOfSize_56 : decode cX7_bitsOfSize 56 = .ok (.isub, 1) := by decide +kernel
theorem dX7_bitsOfSize_57 : decode cX7_bitsOfSize 57 = .ok (.istore 7, 2) := by decide +kernel
theorem dX7_bitsOfSize_59 : decode cX7_bitsOfSize 59 = .ok (.iload 7, 2) := by decide +kernel
theorem dX7_bitsOfSize_61 : decode cX7_bitsOfSize 61 = .ok (.ifCond .lt 40, 3) := by decide +kernel
theorem dX7_bitsOfSize_64 : decode cX7_bitsOfSize 64 = .ok (.dload_n 3, 1) := by decide +kernel
theorem dX7_bitsOfSize_65 : decode cX7_bitsOfSize 65 = .ok (.aload_n 0, 1) := by decide +kernel
theorem dX7_bitsOfSize_66 : decode cX7_bitsOfSize 66 = .ok (.getfield 9, 3) := by decide +kernel
theorem dX7_bitsOfSize_69 : decode cX7_bitsOfSize 69 = .ok (.iload 7, 2) := by decide +kernel
theorem dX7_bitsOfSize_71 : decode cX7_bitsOfSize 71 = .ok (.daload, 1) := by decide +kernel
theorem dX7_bitsOfSize_72 : decode cX7_bitsOfSize 72 = .ok (.dcmp .l, 1) := by decide +kernel
theorem dX7_bitsOfSize_73 : decode cX7_bitsOfSize 73 = .ok (.ifCond .lt 22, 3) := by decide +kernel
theorem dX7_bitsOfSize_76 : decode cX7_bitsOfSize 76 = .ok (.dload_n 3, 1) := by decide +kernel
theorem dX7_bitsOfSize_77 : decode cX7_bitsOfSize 77 = .ok (.aload_n 0, 1) := by decide +kernel
theorem dX7_bitsOfSize_78 : decode cX7_bitsOfSize 78 = .ok (.getfield 9, 3) := by decide +kernel
theorem dX7_bitsOfSize_81 : decode cX7_bitsOfSize 81 = .ok (.iload 7, 2) := by decide +kernel
theorem dX7_bitsOfSize_83 : decode cX7_bitsOfSize 83 = .ok (.daload, 1) := by decide +kernel
theorem dX7_bitsOfSize_84 : decode cX7_bitsOfSize 84 = .ok (.ddiv, 1) := by decide +kernel
theorem dX7_bitsOfSize_85 : decode cX7_bitsOfSize 85 = .ok (.dstore_n 3, 1) := by decide +kernel
theorem dX7_bitsOfSize_86 : decode cX7_bitsOfSize 86 = .ok (.lload 5, 2) := by decide +kernel
theorem dX7_bitsOfSize_88 : decode cX7_bitsOfSize 88 = .ok (.lconst 1, 1) := by decide +kernel
theorem dX7_bitsOfSize_89 : decode cX7_bitsOfSize 89 = .ok (.iload 7, 2) := by decide +kernel
theorem dX7_bitsOfSize_91 : decode cX7_bitsOfSize 91 = .ok (.lshl, 1) := by decide +kernel
theorem dX7_bitsOfSize_92 : decode cX7_bitsOfSize 92 = .ok (.ladd, 1) := by decide +kernel
theorem dX7_bitsOfSize_93 : decode cX7_bitsOfSize 93 = .ok (.lstore 5, 2) := by decide +kernel
theorem dX7_bitsOfSize_95 : decode cX7_bitsOfSize 95 = .ok (.iinc 7 (-1), 3) := by decide +kernel
theorem dX7_bitsOfSize_98 : decode cX7_bitsOfSize 98 = .ok (.goto (-39), 3) := by decide +kernel
theorem dX7_bitsOfSize_101 : decode cX7_bitsOfSize 101 = .ok (.aload_n 0, 1) := by decide +kernel
theorem dX7_bitsOfSize_102 : decode cX7_bitsOfSize 102 = .ok (.getfield 9, 3) := by decide +kernel
theorem dX7_bitsOfSize_105 : decode cX7_bitsOfSize 105 = .ok (.arraylength, 1) := by decide +kernel
theorem dX7_bitsOfSize_106 : decode cX7_bitsOfSize 106 = .ok (.iconst 1, 1) := by decide +kernel
theorem dX7_bitsOfSize_107 : decode cX7_bitsOfSize 107 = .ok (.isub, 1) := by decide +kernel
theorem dX7_bitsOfSize_108 : decode cX7_bitsOfSize 108 = .ok (.istore 7, 2) := by decide +kernel
theorem dX7_bitsOfSize_110 : decode cX7_bitsOfSize 110 = .ok (.iload 7, 2) := by decide +kernel
theorem dX7_bitsOfSize_112 : decode cX7_bitsOfSize 112 = .ok (.ifCond .lt 44, 3) := by decide +kernel
theorem dX7_bitsOfSize_115 : decode cX7_bitsOfSize 115 = .ok (.dload_n 3, 1) := by decide +kernel
theorem dX7_bitsOfSize_116 : decode cX7_bitsOfSize 116 = .ok (.aload_n 0, 1) := by decide +kernel
theorem dX7_bitsOfSize_117 : decode cX7_bitsOfSize 117 = .ok (.getfield 9, 3) := by decide +kernel
theorem dX7_bitsOfSize_120 : decode cX7_bitsOfSize 120 = .ok (.iload 7, 2) := by decide +kernel
theorem dX7_bitsOfSize_122 : decode cX7_bitsOfSize 122 = .ok (.daload, 1) := by decide +kernel
theorem dX7_bitsOfSize_123 : decode cX7_bitsOfSize 123 = .ok (.dmul, 1) := by decide +kernel
theorem dX7_bitsOfSize_124 : decode cX7_bitsOfSize 124 = .ok (.ldc2_w 15, 3) := by decide +kernel
theorem dX7_bitsOfSize_127 : decode cX7_bitsOfSize 127 = .ok (.dcmp .g, 1) := by decide +kernel
theorem dX7_bitsOfSize_128 : decode cX7_bitsOfSize 128 = .ok (.ifCond .ge 22, 3) := by decide +kernel
theorem dX7_bitsOfSize_131 : decode cX7_bitsOfSize 131 = .ok (.dload_n 3, 1) := by decide +kernel
theorem dX7_bitsOfSize_132 : decode cX7_bitsOfSize 132 = .ok (.aload_n 0, 1) := by decide +kernel
theorem dX7_bitsOfSize_133 : decode cX7_bitsOfSize 133 = .ok (.getfield 9, 3) := by decide +kernel
theorem dX7_bitsOfSize_136 : decode cX7_bitsOfSize 136 = .ok (.iload 7, 2) := by decide +kernel
theorem dX7_bitsOfSize_138 : decode cX7_bitsOfSize 138 = .ok (.daload, 1) := by decide +kernel
theorem dX7_bitsOfSize_139 : decode cX7_bitsOfSize 139 = .ok (.dmul, 1) := by decide +kernel
theorem dX7_bitsOfSize_140 : decode cX7_bitsOfSize 140 = .ok (.dstore_n 3, 1) := by decide +kernel
theorem dX7_bitsOfSize_141 : decode cX7_bitsOfSize 141 = .ok (.lload 5, 2) := by decide +kernel
theorem dX7_bitsOfSize_143 : decode cX7_bitsOfSize 143 = .ok (.lconst 1, 1) := by decide +kernel
theorem dX7_bitsOfSize_144 : decode cX7_bitsOfSize 144 = .ok (.iload 7, 2) := by decide +kernel
theorem dX7_bitsOfSize_146 : decode cX7_bitsOfSize 146 = .ok (.lshl, 1) := by decide +kernel
theorem dX7_bitsOfSize_147 : decode cX7_bitsOfSize 147 = .ok (.lsub, 1) := by decide +kernel
theorem dX7_bitsOfSize_148 : decode cX7_bitsOfSize 148 = .ok (.lstore 5, 2) := by decide +kernel
theorem dX7_bitsOfSize_150 : decode cX7_bitsOfSize 150 = .ok (.iinc 7 (-1), 3) := by decide +kernel
theorem dX7_bitsOfSize_153 : decode cX7_bitsOfSize 153 = .ok (.goto (-43), 3) := by decide +kernel
theorem dX7_bitsOfSize_156 : decode cX7_bitsOfSize 156 = .ok (.lload 5, 2) := by decide +kernel
theorem dX7_bitsOfSize_158 : decode cX7_bitsOfSize 158 = .ok (.bipush 52, 2) := by decide +kernel
theorem dX7_bitsOfSize_160 : decode cX7_bitsOfSize 160 = .ok (.lshl, 1) := by decide +kernel
theorem dX7_bitsOfSize_161 : decode cX7_bitsOfSize 161 = .ok (.dload_n 3, 1) := by decide +kernel
theorem dX7_bitsOfSize_162 : decode cX7_bitsOfSize 162 = .ok (.ldc2_w 47, 3) := by decide +kernel
theorem dX7_bitsOfSize_165 : decode cX7_bitsOfSize 165 = .ok (.dmul, 1) := by decide +kernel
theorem dX7_bitsOfSize_166 : decode cX7_bitsOfSize 166 = .ok (.d2l, 1) := by decide +kernel
theorem dX7_bitsOfSize_167 : decode cX7_bitsOfSize 167 = .ok (.ldc2_w 49, 3) := by decide +kernel
theorem dX7_bitsOfSize_170 : decode cX7_bitsOfSize 170 = .ok (.lsub, 1) := by decide +kernel
theorem dX7_bitsOfSize_171 : decode cX7_bitsOfSize 171 = .ok (.ladd, 1) := by decide +kernel
theorem dX7_bitsOfSize_172 : decode cX7_bitsOfSize 172 = .ok (.lreturn, 1) := by decide +kernel
theorem dX8_init_0 : decode cX8_init 0 = .ok (.aload_n 0, 1) := by decide +kernel
theorem dX8_init_1 : decode cX8_init 1 = .ok (.invokespecial 1, 3) := by decide +kernel
theorem dX8_init_4 : decode cX8_init 4 = .ok (.aload_n 0, 1) := by decide +kernel
theorem dX8_init_5 : decode cX8_init 5 = .ok (.new 7, 3) := by decide +kernel
theorem dX8_init_8 : decode cX8_init 8 = .ok (.dup, 1) := by decide +kernel
theorem dX8_init_9 : decode cX8_init 9 = .ok (.invokespecial 9, 3) := by decide +kernel
theorem dX8_init_12 : decode cX8_init 12 = .ok (.putfield 10, 3) := by decide +kernel
theorem dX8_init_15 : decode cX8_init 15 = .ok (.aload_n 0, 1) := by decide +kernel
theorem dX8_init_16 : decode cX8_init 16 = .ok (.new 16, 3) := by decide +kernel
theorem dX8_init_19 : decode cX8_init 19 = .ok (.dup, 1) := by decide +kernel
theorem dX8_init_20 : decode cX8_init 20 = .ok (.invokespecial 18, 3) := by decide +kernel
theorem dX8_init_23 : decode cX8_init 23 = .ok (.putfield 19, 3) := by decide +kernel
theorem dX8_init_26 : decode cX8_init 26 = .ok (.aload_n 0, 1) := by decide +kernel
theorem dX8_init_27 : decode cX8_init 27 = .ok (.bipush 8, 2) := by decide +kernel
theorem dX8_init_29 : decode cX8_init 29 = .ok (.anewarray 23, 3) := by decide +kernel
theorem dX8_init_32 : decode cX8_init 32 = .ok (.putfield 25, 3) := by decide +kernel
theorem dX8_init_35 : decode cX8_init 35 = .ok (.aload_n 0, 1) := by decide +kernel
theorem dX8_init_36 : decode cX8_init 36 = .ok (.bipush 8, 2) := by decide +kernel
theorem dX8_init_38 : decode cX8_init 38 = .ok (.anewarray 29, 3) := by decide +kernel
theorem dX8_init_41 : decode cX8_init 41 = .ok (.putfield 31, 3) := by decide +kernel
theorem dX8_init_44 : decode cX8_init 44 = .ok (.aload_n 0, 1) := by decide +kernel
theorem dX8_init_45 : decode cX8_init 45 = .ok (.iconst 4, 1) := by decide +kernel
theorem dX8_init_46 : decode cX8_init 46 = .ok (.anewarray 35, 3) := by decide +kernel
theorem dX8_init_49 : decode cX8_init 49 = .ok (.putfield 37, 3) := by decide +kernel
theorem dX8_init_52 : decode cX8_init 52 = .ok (.aload_n 0, 1) := by decide +kernel
theorem dX8_init_53 : decode cX8_init 53 = .ok (.iconst 5, 1) := by decide +kernel
theorem dX8_init_54 : decode cX8_init 54 = .ok (.anewarray 35, 3) := by decide +kernel
theorem dX8_init_57 : decode cX8_init 57 = .ok (.putfield 41, 3) := by decide +kernel
theorem dX8_init_60 : decode cX8_init 60 = .ok (.aload_n 0, 1) := by decide +kernel
theorem dX8_init_61 : decode cX8_init 61 = .ok (.new 44, 3) := by decide +kernel
theorem dX8_init_64 : decode cX8_init 64 = .ok (.dup, 1) := by decide +kernel
theorem dX8_init_65 : decode cX8_init 65 = .ok (.aload_n 0, 1) := by decide +kernel
theorem dX8_init_66 : decode cX8_init 66 = .ok (.getfield 10, 3) := by decide +kernel
theorem dX8_init_69 : decode cX8_init 69 = .ok (.invokespecial 46, 3) := by decide +kernel
theorem dX8_init_72 : decode cX8_init 72 = .ok (.putfield 49, 3) := by decide +kernel
theorem dX8_init_75 : decode cX8_init 75 = .ok (.aload_n 0, 1) := by decide +kernel
theorem dX8_init_76 : decode cX8_init 76 = .ok (.new 44, 3) := by decide +kernel
theorem dX8_init_79 : decode cX8_init 79 = .ok (.dup, 1) := by decide +kernel
theorem dX8_init_80 : decode cX8_init 80 = .ok (.aload_n 0, 1) := by decide +kernel
theorem dX8_init_81 : decode cX8_init 81 = .ok (.getfield 10, 3) := by decide +kernel
theorem dX8_init_84 : decode cX8_init 84 = .ok (.invokespecial 46, 3) := by decide +kernel
theorem dX8_init_87 : decode cX8_init 87 = .ok (.putfield 53, 3) := by decide +kernel
theorem dX8_init_90 : decode cX8_init 90 = .ok (.return_, 1) := by decide +kernel
theorem dX8_law_0 : decode cX8_law 0 = .ok (.iload_n 1, 1) := by decide +kernel
theorem dX8_law_1 : decode cX8_law 1 = .ok (.iconst 1, 1) := by decide +kernel
theorem dX8_law_2 : decode cX8_law 2 = .ok (.if_icmp .lt 15, 3) := by decide +kernel
theorem dX8_law_5 : decode cX8_law 5 = .ok (.iload_n 1, 1) := by decide +kernel
theorem dX8_law_6 : decode cX8_law 6 = .ok (.bipush 6, 2) := by decide +kernel
theorem dX8_law_8 : decode cX8_law 8 = .ok (.if_icmp .gt 9, 3) := by decide +kernel
theorem dX8_law_11 : decode cX8_law 11 = .ok (.iload_n 2, 1) := by decide +kernel
theorem dX8_law_12 : decode cX8_law 12 = .ok (.iload_n 1, 1) := by decide +kernel
theorem dX8_law_13 : decode cX8_law 13 = .ok (.ishr, 1) := by decide +kernel
theorem dX8_law_14 : decode cX8_law 14 = .ok (.ifCond .eq 5, 3) := by decide +kernel
theorem dX8_law_17 : decode cX8_law 17 = .ok (.iconst (-1), 1) := by decide +kernel
theorem dX8_law_18 : decode cX8_law 18 = .ok (.ireturn, 1) := by decide +kernel
theorem dX8_law_19 : decode cX8_law 19 = .ok (.aload_n 0, 1) := by decide +kernel
theorem dX8_law_20 : decode cX8_law 20 = .ok (.getfield 56, 3) := by decide +kernel
theorem dX8_law_23 : decode cX8_law 23 = .ok (.bipush 8, 2) := by decide +kernel
theorem dX8_law_25 : decode cX8_law 25 = .ok (.if_icmp .lt 6, 3) := by decide +kernel
theorem dX8_law_28 : decode cX8_law 28 = .ok (.bipush (-3), 2) := by decide +kernel
theorem dX8_law_30 : decode cX8_law 30 = .ok (.ireturn, 1) := by decide +kernel
theorem dX8_law_31 : decode cX8_law 31 = .ok (.aload_n 0, 1) := by decide +kernel
theorem dX8_law_32 : decode cX8_law 32 = .ok (.getfield 25, 3) := by decide +kernel
theorem dX8_law_35 : decode cX8_law 35 = .ok (.aload_n 0, 1) := by decide +kernel
theorem dX8_law_36 : decode cX8_law 36 = .ok (.getfield 56, 3) := by decide +kernel
theorem dX8_law_39 : decode cX8_law 39 = .ok (.new 23, 3) := by decide +kernel
theorem dX8_law_42 : decode cX8_law 42 = .ok (.dup, 1) := by decide +kernel
theorem dX8_law_43 : decode cX8_law 43 = .ok (.aload_n 0, 1) := by decide +kernel
theorem dX8_law_44 : decode cX8_law 44 = .ok (.getfield 56, 3) := by decide +kernel
theorem dX8_law_47 : decode cX8_law 47 = .ok (.iload_n 1, 1) := by decide +kernel
theorem dX8_law_48 : decode cX8_law 48 = .ok (.iload_n 2, 1) := by decide +kernel
theorem dX8_law_49 : decode cX8_law 49 = .ok (.aload_n 0, 1) := by decide +kernel
theorem dX8_law_50 : decode cX8_law 50 = .ok (.getfield 31, 3) := by decide +kernel
theorem dX8_law_53 : decode cX8_law 53 = .ok (.aload_n 0, 1) := by decide +kernel
theorem dX8_law_54 : decode cX8_law 54 = .ok (.getfield 10, 3) := by decide +kernel
theorem dX8_law_57 : decode cX8_law 57 = .ok (.invokespecial 60, 3) := by decide +kernel
theorem dX8_law_60 : decode cX8_law 60 = .ok (.aastore, 1) := by decide +kernel
theorem dX8_law_61 : decode cX8_law 61 = .ok (.aload_n 0, 1) := by decide +kernel
theorem dX8_law_62 : decode cX8_law 62 = .ok (.dup, 1) := by decide +kernel
theorem dX8_law_63 : decode cX8_law 63 = .ok (.getfield 56, 3) := by decide +kernel
theorem dX8_law_66 : decode cX8_law 66 = .ok (.iconst 1, 1) := by decide +kernel
theorem dX8_law_67 : decode cX8_law 67 = .ok (.iadd, 1) := by decide +kernel
theorem dX8_law_68 : decode cX8_law 68 = .ok (.putfield 56, 3) := by decide +kernel
theorem dX8_law_71 : decode cX8_law 71 = .ok (.aload_n 0, 1) := by decide +kernel
theorem dX8_law_72 : decode cX8_law 72 = .ok (.getfield 56, 3) := by decide +kernel
theorem dX8_law_75 : decode cX8_law 75 = .ok (.iconst 1, 1) := by decide +kernel
theorem dX8_law_76 : decode cX8_law 76 = .ok (.isub, 1) := by decide +kernel
theorem dX8_law_77 : decode cX8_law 77 = .ok (.ireturn, 1) := by decide +kernel
theorem dX8_constant_0 : decode cX8_constant 0 = .ok (.aload_n 0, 1) := by decide +kernel
theorem dX8_constant_1 : decode cX8_constant 1 = .ok (.iload_n 1, 1) := by decide +kernel
theorem dX8_constant_2 : decode cX8_constant 2 = .ok (.invokevirtual 63, 3) := by decide +kernel
theorem dX8_constant_5 : decode cX8_constant 5 = .ok (.astore 5, 2) := by decide +kernel
theorem dX8_constant_7 : decode cX8_constant 7 = .ok (.aload 5, 2) := by decide +kernel
theorem dX8_constant_9 : decode cX8_constant 9 = .ok (.ifnull 11, 3) := by decide +kernel
theorem dX8_constant_12 : decode cX8_constant 12 = .ok (.iload 4, 2) := by decide +kernel
theorem dX8_constant_14 : decode cX8_constant 14 = .ok (.invokestatic 67, 3) := by decide +kernel
theorem dX8_constant_17 : decode cX8_constant 17 = .ok (.ifCond .ne 5, 3) := by decide +kernel
theorem dX8_constant_20 : decode cX8_constant 20 = .ok (.iconst (-1), 1) := by decide +kernel
theorem dX8_constant_21 : decode cX8_constant 21 = .ok (.ireturn, 1) := by decide +kernel
theorem dX8_constant_22 : decode cX8_constant 22 = .ok (.aload 5, 2) := by decide +kernel
theorem dX8_constant_24 : decode cX8_constant 24 = .ok (.bipush 13, 2) := by decide +kernel
theorem dX8_constant_26 : decode cX8_constant 26 = .ok (.iconst 0, 1) := by decide +kernel
theorem dX8_constant_27 : decode cX8_constant 27 = .ok (.iconst 0, 1) := by decide +kernel
theorem dX8_constant_28 : decode cX8_constant 28 = .ok (.iconst 0, 1) := by decide +kernel
theorem dX8_constant_29 : decode cX8_constant 29 = .ok (.lload_n 2, 1) := by decide +kernel
theorem dX8_constant_30 : decode cX8_constant 30 = .ok (.iload 4, 2) := by decide +kernel
theorem dX8_constant_32 : decode cX8_constant 32 = .ok (.invokestatic 71, 3) := by decide +kernel
theorem dX8_constant_35 : decode cX8_constant 35 = .ok (.invokevirtual 75, 3) := by decide +kernel
theorem dX8_constant_38 : decode cX8_constant 38 = .ok (.ireturn, 1) := by decide +kernel
theorem dX8_node_0 : decode cX8_node 0 = .ok (.aload_n 0, 1) := by decide +kernel
theorem dX8_node_1 : decode cX8_node 1 = .ok (.iload_n 1, 1) := by decide +kernel
theorem dX8_node_2 : decode cX8_node 2 = .ok (.invokevirtual 63, 3) := by decide +kernel
theorem dX8_node_5 : decode cX8_node 5 = .ok (.astore 6, 2) := by decide +kernel
theorem dX8_node_7 : decode cX8_node 7 = .ok (.aload 6, 2) := by decide +kernel
theorem dX8_node_9 : decode cX8_node 9 = .ok (.ifnull 18, 3) := by decide +kernel
theorem dX8_node_12 : decode cX8_node 12 = .ok (.aload_n 0, 1) := by decide +kernel
theorem dX8_node_13 : decode cX8_node 13 = .ok (.aload 6, 2) := by decide +kernel
theorem dX8_node_15 : decode cX8_node 15 = .ok (.iload_n 2, 1) := by decide +kernel
theorem dX8_node_16 : decode cX8_node 16 = .ok (.iload_n 3, 1) := by decide +kernel
theorem dX8_node_17 : decode cX8_node 17 = .ok (.iload 4, 2) := by decide +kernel
theorem dX8_node_19 : decode cX8_node 19 = .ok (.iload 5, 2) := by decide +kernel
theorem dX8_node_21 : decode cX8_node 21 = .ok (.invokevirtual 79, 3) := by decide +kernel
theorem dX8_node_24 : decode cX8_node 24 = .ok (.ifCond .ne 5, 3) := by decide +kernel
theorem dX8_node_27 : decode cX8_node 27 = .ok (.iconst (-1), 1) := by decide +kernel
theorem dX8_node_28 : decode cX8_node 28 = .ok (.ireturn, 1) := by decide +kernel
theorem dX8_node_29 : decode cX8_node 29 = .ok (.aload 6, 2) := by decide +kernel
theorem dX8_node_31 : decode cX8_node 31 = .ok (.iload_n 2, 1) := by decide +kernel
theorem dX8_node_32 : decode cX8_node 32 = .ok (.iload_n 3, 1) := by decide +kernel
theorem dX8_node_33 : decode cX8_node 33 = .ok (.iload 4, 2) := by decide +kernel
theorem dX8_node_35 : decode cX8_node 35 = .ok (.iload 5, 2) := by decide +kernel
theorem dX8_node_37 : decode cX8_node 37 = .ok (.dconst 0, 1) := by decide +kernel
theorem dX8_node_38 : decode cX8_node 38 = .ok (.invokevirtual 75, 3) := by decide +kernel
theorem dX8_node_41 : decode cX8_node 41 = .ok (.ireturn, 1) := by decide +kernel
theorem dX8_side_0 : decode cX8_side 0 = .ok (.aload_n 0, 1) := by decide +kernel
theorem dX8_side_1 : decode cX8_side 1 = .ok (.iload_n 1, 1) := by decide +kernel
theorem dX8_side_2 : decode cX8_side 2 = .ok (.invokevirtual 63, 3) := by decide +kernel
theorem dX8_side_5 : decode cX8_side 5 = .ok (.astore 4, 2) := by decide +kernel
theorem dX8_side_7 : decode cX8_side 7 = .ok (.aload 4, 2) := by decide +kernel
theorem dX8_side_9 : decode cX8_side 9 = .ok (.ifnull 21, 3) := by decide +kernel
theorem dX8_side_12 : decode cX8_side 12 = .ok (.aload 4, 2) := by decide +kernel
theorem dX8_side_14 : decode cX8_side 14 = .ok (.iload_n 2, 1) := by decide +kernel
theorem dX8_side_15 : decode cX8_side 15 = .ok (.invokevirtual 83, 3) := by decide +kernel
theorem dX8_side_18 : decode cX8_side 18 = .ok (.ifCond .eq 12, 3) := by decide +kernel
theorem dX8_side_21 : decode cX8_side 21 = .ok (.aload 4, 2) := by decide +kernel
theorem dX8_side_23 : decode cX8_side 23 = .ok (.iload_n 3, 1) := by decide +kernel
theorem dX8_side_24 : decode cX8_side 24 = .ok (.invokevirtual 86, 3) := by decide +kernel
theorem dX8_side_27 : decode cX8_side 27 = .ok (.ifCond .ne 5, 3) := by decide +kernel
theorem dX8_side_30 : decode cX8_side 30 = .ok (.iconst (-1), 1) := by decide +kernel
theorem dX8_side_31 : decode cX8_side 31 = .ok (.ireturn, 1) := by decide +kernel
theorem dX8_side_32 : decode cX8_side 32 = .ok (.iconst 0, 1) := by decide +kernel
theorem dX8_side_33 : decode cX8_side 33 = .ok (.istore 5, 2) := by decide +kernel
theorem dX8_side_35 : decode cX8_side 35 = .ok (.iload 5, 2) := by decide +kernel
theorem dX8_side_37 : decode cX8_side 37 = .ok (.aload_n 0, 1) := by decide +kernel
theorem dX8_side_38 : decode cX8_side 38 = .ok (.getfield 89, 3) := by decide +kernel
theorem dX8_side_41 : decode cX8_side 41 = .ok (.if_icmp .ge 36, 3) := by decide +kernel
theorem dX8_side_44 : decode cX8_side 44 = .ok (.aload_n 0, 1) := by decide +kernel
theorem dX8_side_45 : decode cX8_side 45 = .ok (.getfield 37, 3) := by decide +kernel
theorem dX8_side_48 : decode cX8_side 48 = .ok (.iload 5, 2) := by decide +kernel
theorem dX8_side_50 : decode cX8_side 50 = .ok (.aaload, 1) := by decide +kernel
theorem dX8_side_51 : decode cX8_side 51 = .ok (.astore 6, 2) := by decide +kernel
theorem dX8_side_53 : decode cX8_side 53 = .ok (.aload 6, 2) := by decide +kernel
theorem dX8_side_55 : decode cX8_side 55 = .ok (.ifnull 16, 3) := by decide +kernel
theorem dX8_side_58 : decode cX8_side 58 = .ok (.aload 6, 2) := by decide +kernel
theorem dX8_side_60 : decode cX8_side 60 = .ok (.getfield 92, 3) := by decide +kernel
theorem dX8_side_63 : decode cX8_side 63 = .ok (.aload 4, 2) := by decide +kernel
theorem dX8_side_65 : decode cX8_side 65 = .ok (.if_acmp .ne 6, 3) := by decide +kernel
theorem dX8_side_68 : decode cX8_side 68 = .ok (.bipush (-2), 2) := by decide +kernel
theorem dX8_side_70 : decode cX8_side 70 = .ok (.ireturn, 1) := by decide +kernel
theorem dX8_side_71 : decode cX8_side 71 = .ok (.iinc 5 1, 3) := by decide +kernel
theorem dX8_side_74 : decode cX8_side 74 = .ok (.goto (-39), 3) := by decide +kernel
theorem dX8_side_77 : decode cX8_side 77 = .ok (.aload 4, 2) := by decide +kernel
theorem dX8_side_79 : decode cX8_side 79 = .ok (.iload_n 2, 1) := by decide +kernel
theorem dX8_side_80 : decode cX8_side 80 = .ok (.iload_n 3, 1) := by decide +kernel
theorem dX8_side_81 : decode cX8_side 81 = .ok (.invokevirtual 96, 3) := by decide +kernel
theorem dX8_side_84 : decode cX8_side 84 = .ok (.iconst 1, 1) := by decide +kernel
theorem dX8_side_85 : decode cX8_side 85 = .ok (.ireturn, 1) := by decide +kernel
theorem dX8_signal_0 : decode cX8_signal 0 = .ok (.iload_n 1, 1) := by decide +kernel
theorem dX8_signal_1 : decode cX8_signal 1 = .ok (.ifCond .lt 8, 3) := by decide +kernel
theorem dX8_signal_4 : decode cX8_signal 4 = .ok (.iload_n 1, 1) := by decide +kernel
theorem dX8_signal_5 : decode cX8_signal 5 = .ok (.iconst 1, 1) := by decide +kernel
theorem dX8_signal_6 : decode cX8_signal 6 = .ok (.if_icmp .le 5, 3) := by decide +kernel
theorem dX8_signal_9 : decode cX8_signal 9 = .ok (.iconst (-1), 1) := by decide +kernel
theorem dX8_signal_10 : decode cX8_signal 10 = .ok (.ireturn, 1) := by decide +kernel
theorem dX8_signal_11 : decode cX8_signal 11 = .ok (.aload_n 0, 1) := by decide +kernel
theorem dX8_signal_12 : decode cX8_signal 12 = .ok (.getfield 100, 3) := by decide +kernel
theorem dX8_signal_15 : decode cX8_signal 15 = .ok (.bipush 8, 2) := by decide +kernel
theorem dX8_signal_17 : decode cX8_signal 17 = .ok (.if_icmp .lt 6, 3) := by decide +kernel
theorem dX8_signal_20 : decode cX8_signal 20 = .ok (.bipush (-3), 2) := by decide +kernel
theorem dX8_signal_22 : decode cX8_signal 22 = .ok (.ireturn, 1) := by decide +kernel
theorem dX8_signal_23 : decode cX8_signal 23 = .ok (.aload_n 0, 1) := by decide +kernel
theorem dX8_signal_24 : decode cX8_signal 24 = .ok (.getfield 31, 3) := by decide +kernel
theorem dX8_signal_27 : decode cX8_signal 27 = .ok (.aload_n 0, 1) := by decide +kernel
theorem dX8_signal_28 : decode cX8_signal 28 = .ok (.getfield 100, 3) := by decide +kernel
theorem dX8_signal_31 : decode cX8_signal 31 = .ok (.new 29, 3) := by decide +kernel
theorem dX8_signal_34 : decode cX8_signal 34 = .ok (.dup, 1) := by decide +kernel
theorem dX8_signal_35 : decode cX8_signal 35 = .ok (.iload_n 1, 1) := by decide +kernel
theorem dX8_signal_36 : decode cX8_signal 36 = .ok (.iconst 1, 1) := by decide +kernel
theorem dX8_signal_37 : decode cX8_signal 37 = .ok (.if_icmp .ne 7, 3) := by decide +kernel
theorem dX8_signal_40 : decode cX8_signal 40 = .ok (.iconst 1, 1) := by decide +kernel
theorem dX8_signal_41 : decode cX8_signal 41 = .ok (.goto 4, 3) := by decide +kernel
theorem dX8_signal_44 : decode cX8_signal 44 = .ok (.iconst 0, 1) := by decide +kernel
theorem dX8_signal_45 : decode cX8_signal 45 = .ok (.invokespecial 103, 3) := by decide +kernel
theorem dX8_signal_48 : decode cX8_signal 48 = .ok (.aastore, 1) := by decide +kernel
theorem dX8_signal_49 : decode cX8_signal 49 = .ok (.aload_n 0, 1) := by decide +kernel
theorem dX8_signal_50 : decode cX8_signal 50 = .ok (.dup, 1) := by decide +kernel
theorem dX8_signal_51 : decode cX8_signal 51 = .ok (.getfield 100, 3) := by decide +kernel
theorem dX8_signal_54 : decode cX8_signal 54 = .ok (.iconst 1, 1) := by decide +kernel
theorem dX8_signal_55 : decode cX8_signal 55 = .ok (.iadd, 1) := by decide +kernel
theorem dX8_signal_56 : decode cX8_signal 56 = .ok (.putfield 100, 3) := by decide +kernel
theorem dX8_signal_59 : decode cX8_signal 59 = .ok (.aload_n 0, 1) := by decide +kernel
theorem dX8_signal_60 : decode cX8_signal 60 = .ok (.getfield 100, 3) := by decide +kernel
theorem dX8_signal_63 : decode cX8_signal 63 = .ok (.iconst 1, 1) := by decide +kernel
theorem dX8_signal_64 : decode cX8_signal 64 = .ok (.isub, 1) := by decide +kernel
theorem dX8_signal_65 : decode cX8_signal 65 = .ok (.ireturn, 1) := by decide +kernel
theorem dX8_point_0 : decode cX8_point 0 = .ok (.iload_n 1, 1) := by decide +kernel
theorem dX8_point_1 : decode cX8_point 1 = .ok (.ifCond .lt 19, 3) := by decide +kernel
theorem dX8_point_4 : decode cX8_point 4 = .ok (.iload_n 1, 1) := by decide +kernel
theorem dX8_point_5 : decode cX8_point 5 = .ok (.aload_n 0, 1) := by decide +kernel
theorem dX8_point_6 : decode cX8_point 6 = .ok (.getfield 100, 3) := by decide +kernel
theorem dX8_point_9 : decode cX8_point 9 = .ok (.if_icmp .ge 11, 3) := by decide +kernel
theorem dX8_point_12 : decode cX8_point 12 = .ok (.iload 6, 2) := by decide +kernel
theorem dX8_point_14 : decode cX8_point 14 = .ok (.invokestatic 67, 3) := by decide +kernel
theorem dX8_point_17 : decode cX8_point 17 = .ok (.ifCond .ne 5, 3) := by decide +kernel
theorem dX8_point_20 : decode cX8_point 20 = .ok (.iconst (-1), 1) := by decide +kernel
theorem dX8_point_21 : decode cX8_point 21 = .ok (.ireturn, 1) := by decide +kernel
theorem dX8_point_22 : decode cX8_point 22 = .ok (.aload_n 0, 1) := by decide +kernel
theorem dX8_point_23 : decode cX8_point 23 = .ok (.getfield 31, 3) := by decide +kernel
theorem dX8_point_26 : decode cX8_point 26 = .ok (.iload_n 1, 1) := by decide +kernel
theorem dX8_point_27 : decode cX8_point 27 = .ok (.aaload, 1) := by decide +kernel
theorem dX8_point_28 : decode cX8_point 28 = .ok (.astore 7, 2) := by decide +kernel
theorem dX8_point_30 : decode cX8_point 30 = .ok (.aload 7, 2) := by decide +kernel
theorem dX8_point_32 : decode cX8_point 32 = .ok (.ifnonnull 7, 3) := by decide +kernel
theorem dX8_point_35 : decode cX8_point 35 = .ok (.iconst (-1), 1) := by decide +kernel
theorem dX8_point_36 : decode cX8_point 36 = .ok (.goto 21, 3) := by decide +kernel
theorem dX8_point_39 : decode cX8_point 39 = .ok (.aload 7, 2) := by decide +kernel
theorem dX8_point_41 : decode cX8_point 41 = .ok (.lload_n 2, 1) := by decide +kernel
theorem dX8_point_42 : decode cX8_point 42 = .ok (.iload 6, 2) := by decide +kernel
theorem dX8_point_44 : decode cX8_point 44 = .ok (.invokestatic 71, 3) := by decide +kernel
theorem dX8_point_47 : decode cX8_point 47 = .ok (.lload 4, 2) := by decide +kernel
theorem dX8_point_49 : decode cX8_point 49 = .ok (.iload 6, 2) := by decide +kernel
theorem dX8_point_51 : decode cX8_point 51 = .ok (.invokestatic 71, 3) := by decide +kernel
theorem dX8_point_54 : decode cX8_point 54 = .ok (.invokevirtual 106, 3) := by decide +kernel
theorem dX8_point_57 : decode cX8_point 57 = .ok (.ireturn, 1) := by decide +kernel
theorem dX8_many_0 : decode cX8_many 0 = .ok (.iload_n 1, 1) := by decide +kernel
theorem dX8_many_1 : decode cX8_many 1 = .ok (.ifCond .lt 9, 3) := by decide +kernel
theorem dX8_many_4 : decode cX8_many 4 = .ok (.iload_n 1, 1) := by decide +kernel
theorem dX8_many_5 : decode cX8_many 5 = .ok (.bipush 10, 2) := by decide +kernel
theorem dX8_many_7 : decode cX8_many 7 = .ok (.if_icmp .le 5, 3) := by decide +kernel
theorem dX8_many_10 : decode cX8_many 10 = .ok (.iconst (-1), 1) := by decide +kernel
theorem dX8_many_11 : decode cX8_many 11 = .ok (.ireturn, 1) := by decide +kernel
theorem dX8_many_12 : decode cX8_many 12 = .ok (.iload_n 1, 1) := by decide +kernel
theorem dX8_many_13 : decode cX8_many 13 = .ok (.ifCond .ne 8, 3) := by decide +kernel
theorem dX8_many_16 : decode cX8_many 16 = .ok (.aload_n 0, 1) := by decide +kernel
theorem dX8_many_17 : decode cX8_many 17 = .ok (.getfield 56, 3) := by decide +kernel
theorem dX8_many_20 : decode cX8_many 20 = .ok (.ireturn, 1) := by decide +kernel
theorem dX8_many_21 : decode cX8_many 21 = .ok (.iload_n 1, 1) := by decide +kernel
theorem dX8_many_22 : decode cX8_many 22 = .ok (.iconst 1, 1) := by decide +kernel
theorem dX8_many_23 : decode cX8_many 23 = .ok (.if_icmp .ne 8, 3) := by decide +kernel
theorem dX8_many_26 : decode cX8_many 26 = .ok (.aload_n 0, 1) := by decide +kernel
theorem dX8_many_27 : decode cX8_many 27 = .ok (.getfield 100, 3) := by decide +kernel
theorem dX8_many_30 : decode cX8_many 30 = .ok (.ireturn, 1) := by decide +kernel
theorem dX8_many_31 : decode cX8_many 31 = .ok (.iload_n 1, 1) := by decide +kernel
theorem dX8_many_32 : decode cX8_many 32 = .ok (.iconst 2, 1) := by decide +kernel
theorem dX8_many_33 : decode cX8_many 33 = .ok (.if_icmp .ne 8, 3) := by decide +kernel
theorem dX8_many_36 : decode cX8_many 36 = .ok (.aload_n 0, 1) := by decide +kernel
theorem dX8_many_37 : decode cX8_many 37 = .ok (.getfield 89, 3) := by decide +kernel
theorem dX8_many_40 : decode cX8_many 40 = .ok (.ireturn, 1) := by decide +kernel
theorem dX8_many_41 : decode cX8_many 41 = .ok (.aload_n 0, 1) := by decide +kernel
theorem dX8_many_42 : decode cX8_many 42 = .ok (.iload_n 1, 1) := by decide +kernel
theorem dX8_many_43 : decode cX8_many 43 = .ok (.iconst 3, 1) := by decide +kernel
theorem dX8_many_44 : decode cX8_many 44 = .ok (.isub, 1) := by decide +kernel
theorem dX8_many_45 : decode cX8_many 45 = .ok (.invokevirtual 63, 3) := by decide +kernel
theorem dX8_many_48 : decode cX8_many 48 = .ok (.astore_n 2, 1) := by decide +kernel
theorem dX8_many_49 : decode cX8_many 49 = .ok (.aload_n 2, 1) := by decide +kernel
theorem dX8_many_50 : decode cX8_many 50 = .ok (.ifnonnull 7, 3) := by decide +kernel
theorem dX8_many_53 : decode cX8_many 53 = .ok (.iconst 0, 1) := by decide +kernel
theorem dX8_many_54 : decode cX8_many 54 = .ok (.goto 7, 3) := by decide +kernel
theorem dX8_many_57 : decode cX8_many 57 = .ok (.aload_n 2, 1) := by decide +kernel
theorem dX8_many_58 : decode cX8_many 58 = .ok (.getfield 109, 3) := by decide +kernel
theorem dX8_many_61 : decode cX8_many 61 = .ok (.ireturn, 1) := by decide +kernel
theorem dX8_run_0 : decode cX8_run 0 = .ok (.aload_n 0, 1) := by decide +kernel
theorem dX8_run_1 : decode cX8_run 1 = .ok (.iload_n 1, 1) := by decide +kernel
theorem dX8_run_2 : decode cX8_run 2 = .ok (.invokevirtual 63, 3) := by decide +kernel
theorem dX8_run_5 : decode cX8_run 5 = .ok (.astore 5, 2) := by decide +kernel
theorem dX8_run_7 : decode cX8_run 7 = .ok (.aload 5, 2) := by decide +kernel
theorem dX8_run_9 : decode cX8_run 9 = .ok (.ifnull 11, 3) := by decide +kernel
theorem dX8_run_12 : decode cX8_run 12 = .ok (.iload 4, 2) := by decide +kernel
theorem dX8_run_14 : decode cX8_run 14 = .ok (.invokestatic 67, 3) := by decide +kernel
theorem dX8_run_17 : decode cX8_run 17 = .ok (.ifCond .ne 5, 3) := by decide +kernel
theorem dX8_run_20 : decode cX8_run 20 = .ok (.iconst (-1), 1) := by decide +kernel
theorem dX8_run_21 : decode cX8_run 21 = .ok (.ireturn, 1) := by decide +kernel
theorem dX8_run_22 : decode cX8_run 22 = .ok (.aload 5, 2) := by decide +kernel
theorem dX8_run_24 : decode cX8_run 24 = .ok (.invokevirtual 112, 3) := by decide +kernel
theorem dX8_run_27 : decode cX8_run 27 = .ok (.ifCond .ne 6, 3) := by decide +kernel
theorem dX8_run_30 : decode cX8_run 30 = .ok (.bipush (-2), 2) := by decide +kernel
theorem dX8_run_32 : decode cX8_run 32 = .ok (.ireturn, 1) := by decide +kernel
theorem dX8_run_33 : decode cX8_run 33 = .ok (.aload_n 0, 1) := by decide +kernel
theorem dX8_run_34 : decode cX8_run 34 = .ok (.getfield 89, 3) := by decide +kernel
theorem dX8_run_37 : decode cX8_run 37 = .ok (.iconst 4, 1) := by decide +kernel
theorem dX8_run_38 : decode cX8_run 38 = .ok (.if_icmp .lt 6, 3) := by decide +kernel
theorem dX8_run_41 : decode cX8_run 41 = .ok (.bipush (-3), 2) := by decide +kernel
theorem dX8_run_43 : decode cX8_run 43 = .ok (.ireturn, 1) := by decide +kernel
theorem dX8_run_44 : decode cX8_run 44 = .ok (.aload_n 0, 1) := by decide +kernel
theorem dX8_run_45 : decode cX8_run 45 = .ok (.getfield 37, 3) := by decide +kernel
theorem dX8_run_48 : decode cX8_run 48 = .ok (.aload_n 0, 1) := by decide +kernel
theorem dX8_run_49 : decode cX8_run 49 = .ok (.getfield 89, 3) := by decide +kernel
theorem dX8_run_52 : decode cX8_run 52 = .ok (.new 35, 3) := by decide +kernel
theorem dX8_run_55 : decode cX8_run 55 = .ok (.dup, 1) := by decide +kernel
theorem dX8_run_56 : decode cX8_run 56 = .ok (.aload 5, 2) := by decide +kernel
theorem dX8_run_58 : decode cX8_run 58 = .ok (.lload_n 2, 1) := by decide +kernel
theorem dX8_run_59 : decode cX8_run 59 = .ok (.iload 4, 2) := by decide +kernel
theorem dX8_run_61 : decode cX8_run 61 = .ok (.invokestatic 71, 3) := by decide +kernel
theorem dX8_run_64 : decode cX8_run 64 = .ok (.aload_n 0, 1) := by decide +kernel
theorem dX8_run_65 : decode cX8_run 65 = .ok (.getfield 10, 3) := by decide +kernel
theorem dX8_run_68 : decode cX8_run 68 = .ok (.invokespecial 116, 3) := by decide +kernel
theorem dX8_run_71 : decode cX8_run 71 = .ok (.aastore, 1) := by decide +kernel
theorem dX8_run_72 : decode cX8_run 72 = .ok (.aload_n 0, 1) := by decide +kernel
theorem dX8_run_73 : decode cX8_run 73 = .ok (.dup, 1) := by decide +kernel
theorem dX8_run_74 : decode cX8_run 74 = .ok (.getfield 89, 3) := by decide +kernel
theorem dX8_run_77 : decode cX8_run 77 = .ok (.iconst 1, 1) := by decide +kernel
theorem dX8_run_78 : decode cX8_run 78 = .ok (.iadd, 1) := by decide +kernel
theorem dX8_run_79 : decode cX8_run 79 = .ok (.putfield 89, 3) := by decide +kernel
theorem dX8_run_82 : decode cX8_run 82 = .ok (.aload_n 0, 1) := by decide +kernel
theorem dX8_run_83 : decode cX8_run 83 = .ok (.getfield 89, 3) := by decide +kernel
theorem dX8_run_86 : decode cX8_run 86 = .ok (.iconst 1, 1) := by decide +kernel
theorem dX8_run_87 : decode cX8_run 87 = .ok (.isub, 1) := by decide +kernel
theorem dX8_run_88 : decode cX8_run 88 = .ok (.ireturn, 1) := by decide +kernel
theorem dX8_set_0 : decode cX8_set 0 = .ok (.aload_n 0, 1) := by decide +kernel
theorem dX8_set_1 : decode cX8_set 1 = .ok (.iload_n 1, 1) := by decide +kernel
theorem dX8_set_2 : decode cX8_set 2 = .ok (.invokevirtual 119, 3) := by decide +kernel
theorem dX8_set_5 : decode cX8_set 5 = .ok (.astore 6, 2) := by decide +kernel
theorem dX8_set_7 : decode cX8_set 7 = .ok (.aload 6, 2) := by decide +kernel
theorem dX8_set_9 : decode cX8_set 9 = .ok (.ifnull 23, 3) := by decide +kernel
theorem dX8_set_12 : decode cX8_set 12 = .ok (.aload 6, 2) := by decide +kernel
theorem dX8_set_14 : decode cX8_set 14 = .ok (.getfield 92, 3) := by decide +kernel
theorem dX8_set_17 : decode cX8_set 17 = .ok (.iload_n 2, 1) := by decide +kernel
theorem dX8_set_18 : decode cX8_set 18 = .ok (.invokevirtual 83, 3) := by decide +kernel
theorem dX8_set_21 : decode cX8_set 21 = .ok (.ifCond .eq 11, 3) := by decide +kernel
theorem dX8_set_24 : decode cX8_set 24 = .ok (.iload 5, 2) := by decide +kernel
theorem dX8_set_26 : decode cX8_set 26 = .ok (.invokestatic 67, 3) := by decide +kernel
theorem dX8_set_29 : decode cX8_set 29 = .ok (.ifCond .ne 5, 3) := by decide +kernel
theorem dX8_set_32 : decode cX8_set 32 = .ok (.iconst (-1), 1) := by decide +kernel
theorem dX8_set_33 : decode cX8_set 33 = .ok (.ireturn, 1) := by decide +kernel
theorem dX8_set_34 : decode cX8_set 34 = .ok (.aload 6, 2) := by decide +kernel
theorem dX8_set_36 : decode cX8_set 36 = .ok (.getfield 123, 3) := by decide +kernel
theorem dX8_set_39 : decode cX8_set 39 = .ok (.ifCond .eq 6, 3) := by decide +kernel
theorem dX8_set_42 : decode cX8_set 42 = .ok (.bipush (-2), 2) := by decide +kernel
theorem dX8_set_44 : decode cX8_set 44 = .ok (.ireturn, 1) := by decide +kernel
theorem dX8_set_45 : decode cX8_set 45 = .ok (.aload 6, 2) := by decide +kernel
theorem dX8_set_47 : decode cX8_set 47 = .ok (.getfield 127, 3) := by decide +kernel
theorem dX8_set_50 : decode cX8_set 50 = .ok (.iload_n 2, 1) := by decide +kernel
theorem dX8_set_51 : decode cX8_set 51 = .ok (.lload_n 3, 1) := by decide +kernel
theorem dX8_set_52 : decode cX8_set 52 = .ok (.iload 5, 2) := by decide +kernel
theorem dX8_set_54 : decode cX8_set 54 = .ok (.invokestatic 71, 3) := by decide +kernel
theorem dX8_set_57 : decode cX8_set 57 = .ok (.iconst 0, 1) := by decide +kernel
theorem dX8_set_58 : decode cX8_set 58 = .ok (.aload 6, 2) := by decide +kernel
theorem dX8_set_60 : decode cX8_set 60 = .ok (.getfield 92, 3) := by decide +kernel
theorem dX8_set_63 : decode cX8_set 63 = .ok (.iload_n 2, 1) := by decide +kernel
theorem dX8_set_64 : decode cX8_set 64 = .ok (.invokevirtual 131, 3) := by decide +kernel
theorem dX8_set_67 : decode cX8_set 67 = .ok (.invokevirtual 134, 3) := by decide +kernel
theorem dX8_set_70 : decode cX8_set 70 = .ok (.iconst 1, 1) := by decide +kernel
theorem dX8_set_71 : decode cX8_set 71 = .ok (.ireturn, 1) := by decide +kernel
theorem dX8_method_0 : decode cX8_method 0 = .ok (.aload_n 0, 1) := by decide +kernel
theorem dX8_method_1 : decode cX8_method 1 = .ok (.iload_n 1, 1) := by decide +kernel
theorem dX8_method_2 : decode cX8_method 2 = .ok (.invokevirtual 119, 3) := by decide +kernel
theorem dX8_method_5 : decode cX8_method 5 = .ok (.astore_n 3, 1) := by decide +kernel
theorem dX8_method_6 : decode cX8_method 6 = .ok (.aload_n 3, 1) := by decide +kernel
theorem dX8_method_7 : decode cX8_method 7 = .ok (.ifnull 13, 3) := by decide +kernel
theorem dX8_method_10 : decode cX8_method 10 = .ok (.iload_n 2, 1) := by decide +kernel
theorem dX8_method_11 : decode cX8_method 11 = .ok (.ifCond .lt 9, 3) := by decide +kernel
theorem dX8_method_14 : decode cX8_method 14 = .ok (.iload_n 2, 1) := by decide +kernel
theorem dX8_method_15 : decode cX8_method 15 = .ok (.bipush 6, 2) := by decide +kernel
theorem dX8_method_17 : decode cX8_method 17 = .ok (.if_icmp .le 5, 3) := by decide +kernel
theorem dX8_method_20 : decode cX8_method 20 = .ok (.iconst (-1), 1) := by decide +kernel
theorem dX8_method_21 : decode cX8_method 21 = .ok (.ireturn, 1) := by decide +kernel
theorem dX8_method_22 : decode cX8_method 22 = .ok (.iload_n 2, 1) := by decide +kernel
theorem dX8_method_23 : decode cX8_method 23 = .ok (.bipush 6, 2) := by decide +kernel
theorem dX8_method_25 : decode cX8_method 25 = .ok (.if_icmp .ne 19, 3) := by decide +kernel
theorem dX8_method_28 : decode cX8_method 28 = .ok (.aload_n 3, 1) := by decide +kernel
theorem dX8_method_29 : decode cX8_method 29 = .ok (.getfield 92, 3) := by decide +kernel
theorem dX8_method_32 : decode cX8_method 32 = .ok (.getfield 140, 3) := by decide +kernel
theorem dX8_method_35 : decode cX8_method 35 = .ok (.iconst 1, 1) := by decide +kernel
theorem dX8_method_36 : decode cX8_method 36 = .ok (.iand, 1) := by decide +kernel
theorem dX8_method_37 : decode cX8_method 37 = .ok (.iconst 1, 1) := by decide +kernel
theorem dX8_method_38 : decode cX8_method 38 = .ok (.if_icmp .ne 6, 3) := by decide +kernel
theorem dX8_method_41 : decode cX8_method 41 = .ok (.bipush (-2), 2) := by decide +kernel
theorem dX8_method_43 : decode cX8_method 43 = .ok (.ireturn, 1) := by decide +kernel
theorem dX8_method_44 : decode cX8_method 44 = .ok (.aload_n 3, 1) := by decide +kernel
theorem dX8_method_45 : decode cX8_method 45 = .ok (.iload_n 2, 1) := by decide +kernel
theorem dX8_method_46 : decode cX8_method 46 = .ok (.putfield 143, 3) := by decide +kernel
theorem dX8_method_49 : decode cX8_method 49 = .ok (.iconst 1, 1) := by decide +kernel
theorem dX8_method_50 : decode cX8_method 50 = .ok (.ireturn, 1) := by decide +kernel
theorem dX8_length_0 : decode cX8_length 0 = .ok (.aload_n 0, 1) := by decide +kernel
theorem dX8_length_1 : decode cX8_length 1 = .ok (.iload_n 1, 1) := by decide +kernel
theorem dX8_length_2 : decode cX8_length 2 = .ok (.invokevirtual 119, 3) := by decide +kernel
theorem dX8_length_5 : decode cX8_length 5 = .ok (.astore 5, 2) := by decide +kernel
theorem dX8_length_7 : decode cX8_length 7 = .ok (.aload 5, 2) := by decide +kernel
theorem dX8_length_9 : decode cX8_length 9 = .ok (.ifnull 11, 3) := by decide +kernel
theorem dX8_length_12 : decode cX8_length 12 = .ok (.iload 4, 2) := by decide +kernel
theorem dX8_length_14 : decode cX8_length 14 = .ok (.invokestatic 67, 3) := by decide +kernel
theorem dX8_length_17 : decode cX8_length 17 = .ok (.ifCond .ne 5, 3) := by decide +kernel
theorem dX8_length_20 : decode cX8_length 20 = .ok (.iconst (-1), 1) := by decide +kernel
theorem dX8_length_21 : decode cX8_length 21 = .ok (.ireturn, 1) := by decide +kernel
theorem dX8_length_22 : decode cX8_length 22 = .ok (.lload_n 2, 1) := by decide +kernel
theorem dX8_length_23 : decode cX8_length 23 = .ok (.iload 4, 2) := by decide +kernel
theorem dX8_length_25 : decode cX8_length 25 = .ok (.invokestatic 71, 3) := by decide +kernel
theorem dX8_length_28 : decode cX8_length 28 = .ok (.dstore 6, 2) := by decide +kernel
theorem dX8_length_30 : decode cX8_length 30 = .ok (.dload 6, 2) := by decide +kernel
theorem dX8_length_32 : decode cX8_length 32 = .ok (.invokestatic 146, 3) := by decide +kernel
theorem dX8_length_35 : decode cX8_length 35 = .ok (.dstore 8, 2) := by decide +kernel
theorem dX8_length_37 : decode cX8_length 37 = .ok (.dload 8, 2) := by decide +kernel
theorem dX8_length_39 : decode cX8_length 39 = .ok (.ldc2_w 150, 3) := by decide +kernel
theorem dX8_length_42 : decode cX8_length 42 = .ok (.dcmp .l, 1) := by decide +kernel
theorem dX8_length_43 : decode cX8_length 43 = .ok (.ifCond .gt 11, 3) := by decide +kernel
theorem dX8_length_46 : decode cX8_length 46 = .ok (.dload 8, 2) := by decide +kernel
theorem dX8_length_48 : decode cX8_length 48 = .ok (.invokestatic 152, 3) := by decide +kernel
theorem dX8_length_51 : decode cX8_length 51 = .ok (.ifCond .eq 5, 3) := by decide +kernel
theorem dX8_length_54 : decode cX8_length 54 = .ok (.iconst (-1), 1) := by decide +kernel
theorem dX8_length_55 : decode cX8_length 55 = .ok (.ireturn, 1) := by decide +kernel
theorem dX8_length_56 : decode cX8_length 56 = .ok (.aload 5, 2) := by decide +kernel
theorem dX8_length_58 : decode cX8_length 58 = .ok (.dload 6, 2) := by decide +kernel
theorem dX8_length_60 : decode cX8_length 60 = .ok (.putfield 156, 3) := by decide +kernel
theorem dX8_length_63 : decode cX8_length 63 = .ok (.iconst 1, 1) := by decide +kernel
theorem dX8_length_64 : decode cX8_length 64 = .ok (.ireturn, 1) := by decide +kernel
theorem dX8_tolerance_0 : decode cX8_tolerance 0 = .ok (.aload_n 0, 1) := by decide +kernel
theorem dX8_tolerance_1 : decode cX8_tolerance 1 = .ok (.iload_n 1, 1) := by decide +kernel
theorem dX8_tolerance_2 : decode cX8_tolerance 2 = .ok (.invokevirtual 119, 3) := by decide +kernel
theorem dX8_tolerance_5 : decode cX8_tolerance 5 = .ok (.astore 7, 2) := by decide +kernel
theorem dX8_tolerance_7 : decode cX8_tolerance 7 = .ok (.aload 7, 2) := by decide +kernel
theorem dX8_tolerance_9 : decode cX8_tolerance 9 = .ok (.ifnull 24, 3) := by decide +kernel
theorem dX8_tolerance_12 : decode cX8_tolerance 12 = .ok (.iload 6, 2) := by decide +kernel
theorem dX8_tolerance_14 : decode cX8_tolerance 14 = .ok (.invokestatic 67, 3) := by decide +kernel
theorem dX8_tolerance_17 : decode cX8_tolerance 17 = .ok (.ifCond .eq 16, 3) := by decide +kernel
theorem dX8_tolerance_20 : decode cX8_tolerance 20 = .ok (.lload_n 2, 1) := by decide +kernel
theorem dX8_tolerance_21 : decode cX8_tolerance 21 = .ok (.lconst 1, 1) := by decide +kernel
theorem dX8_tolerance_22 : decode cX8_tolerance 22 = .ok (.lcmp, 1) := by decide +kernel
theorem dX8_tolerance_23 : decode cX8_tolerance 23 = .ok (.ifCond .lt 10, 3) := by decide +kernel
theorem dX8_tolerance_26 : decode cX8_tolerance 26 = .ok (.lload 4, 2) := by decide +kernel
theorem dX8_tolerance_28 : decode cX8_tolerance 28 = .ok (.lconst 0, 1) := by decide +kernel
theorem dX8_tolerance_29 : decode cX8_tolerance 29 = .ok (.lcmp, 1) := by decide +kernel
theorem dX8_tolerance_30 : decode cX8_tolerance 30 = .ok (.ifCond .ge 5, 3) := by decide +kernel
theorem dX8_tolerance_33 : decode cX8_tolerance 33 = .ok (.iconst (-1), 1) := by decide +kernel
theorem dX8_tolerance_34 : decode cX8_tolerance 34 = .ok (.ireturn, 1) := by decide +kernel
theorem dX8_tolerance_35 : decode cX8_tolerance 35 = .ok (.aload 7, 2) := by decide +kernel
theorem dX8_tolerance_37 : decode cX8_tolerance 37 = .ok (.lload_n 2, 1) := by decide +kernel
theorem dX8_tolerance_38 : decode cX8_tolerance 38 = .ok (.iload 6, 2) := by decide +kernel
theorem dX8_tolerance_40 : decode cX8_tolerance 40 = .ok (.invokestatic 71, 3) := by decide +kernel
theorem dX8_tolerance_43 : decode cX8_tolerance 43 = .ok (.putfield 160, 3) := by decide +kernel
theorem dX8_tolerance_46 : decode cX8_tolerance 46 = .ok (.aload 7, 2) := by decide +kernel
theorem dX8_tolerance_48 : decode cX8_tolerance 48 = .ok (.lload 4, 2) := by decide +kernel
theorem dX8_tolerance_50 : decode cX8_tolerance 50 = .ok (.iload 6, 2) := by decide +kernel
theorem dX8_tolerance_52 : decode cX8_tolerance 52 = .ok (.invokestatic 71, 3) := by decide +kernel
theorem dX8_tolerance_55 : decode cX8_tolerance 55 = .ok (.putfield 163, 3) := by decide +kernel
theorem dX8_tolerance_58 : decode cX8_tolerance 58 = .ok (.iconst 1, 1) := by decide +kernel
theorem dX8_tolerance_59 : decode cX8_tolerance 59 = .ok (.ireturn, 1) := by decide +kernel
theorem dX8_event_0 : decode cX8_event 0 = .ok (.aload_n 0, 1) := by decide +kernel
theorem dX8_event_1 : decode cX8_event 1 = .ok (.iload_n 1, 1) := by decide +kernel
theorem dX8_event_2 : decode cX8_event 2 = .ok (.invokevirtual 119, 3) := by decide +kernel
theorem dX8_event_5 : decode cX8_event 5 = .ok (.astore 6, 2) := by decide +kernel
theorem dX8_event_7 : decode cX8_event 7 = .ok (.aload 6, 2) := by decide +kernel
theorem dX8_event_9 : decode cX8_event 9 = .ok (.ifnull 15, 3) := by decide +kernel
theorem dX8_event_12 : decode cX8_event 12 = .ok (.aload 6, 2) := by decide +kernel
theorem dX8_event_14 : decode cX8_event 14 = .ok (.getfield 92, 3) := by decide +kernel
theorem dX8_event_17 : decode cX8_event 17 = .ok (.iload_n 2, 1) := by decide +kernel
theorem dX8_event_18 : decode cX8_event 18 = .ok (.invokevirtual 86, 3) := by decide +kernel
theorem dX8_event_21 : decode cX8_event 21 = .ok (.ifCond .ne 5, 3) := by decide +kernel
theorem dX8_event_24 : decode cX8_event 24 = .ok (.iconst (-1), 1) := by decide +kernel
theorem dX8_event_25 : decode cX8_event 25 = .ok (.ireturn, 1) := by decide +kernel
theorem dX8_event_26 : decode cX8_event 26 = .ok (.iload_n 3, 1) := by decide +kernel
theorem dX8_event_27 : decode cX8_event 27 = .ok (.iconst (-1), 1) := by decide +kernel
theorem dX8_event_28 : decode cX8_event 28 = .ok (.if_icmp .lt 19, 3) := by decide +kernel
theorem dX8_event_31 : decode cX8_event 31 = .ok (.iload_n 3, 1) := by decide +kernel
theorem dX8_event_32 : decode cX8_event 32 = .ok (.iconst 1, 1) := by decide +kernel
theorem dX8_event_33 : decode cX8_event 33 = .ok (.if_icmp .gt 14, 3) := by decide +kernel
theorem dX8_event_36 : decode cX8_event 36 = .ok (.iload 4, 2) := by decide +kernel
theorem dX8_event_38 : decode cX8_event 38 = .ok (.ifCond .lt 9, 3) := by decide +kernel
theorem dX8_event_41 : decode cX8_event 41 = .ok (.iload 4, 2) := by decide +kernel
theorem dX8_event_43 : decode cX8_event 43 = .ok (.iconst 3, 1) := by decide +kernel
theorem dX8_event_44 : decode cX8_event 44 = .ok (.if_icmp .le 5, 3) := by decide +kernel
theorem dX8_event_47 : decode cX8_event 47 = .ok (.iconst (-1), 1) := by decide +kernel
theorem dX8_event_48 : decode cX8_event 48 = .ok (.ireturn, 1) := by decide +kernel
theorem dX8_event_49 : decode cX8_event 49 = .ok (.aload 6, 2) := by decide +kernel
theorem dX8_event_51 : decode cX8_event 51 = .ok (.getfield 166, 3) := by decide +kernel
theorem dX8_event_54 : decode cX8_event 54 = .ok (.iload_n 2, 1) := by decide +kernel
theorem dX8_event_55 : decode cX8_event 55 = .ok (.iload_n 3, 1) := by decide +kernel
theorem dX8_event_56 : decode cX8_event 56 = .ok (.iload 4, 2) := by decide +kernel
theorem dX8_event_58 : decode cX8_event 58 = .ok (.iload 5, 2) := by decide +kernel
theorem dX8_event_60 : decode cX8_event 60 = .ok (.invokevirtual 170, 3) := by decide +kernel
theorem dX8_event_63 : decode cX8_event 63 = .ok (.ireturn, 1) := by decide +kernel
theorem dX8_step_0 : decode cX8_step 0 = .ok (.aload_n 0, 1) := by decide +kernel
theorem dX8_step_1 : decode cX8_step 1 = .ok (.iload_n 1, 1) := by decide +kernel
theorem dX8_step_2 : decode cX8_step 2 = .ok (.invokevirtual 119, 3) := by decide +kernel
theorem dX8_step_5 : decode cX8_step 5 = .ok (.astore_n 2, 1) := by decide +kernel
theorem dX8_step_6 : decode cX8_step 6 = .ok (.aload_n 2, 1) := by decide +kernel
theorem dX8_step_7 : decode cX8_step 7 = .ok (.ifnonnull 5, 3) := by decide +kernel
theorem dX8_step_10 : decode cX8_step 10 = .ok (.iconst (-1), 1) := by decide +kernel
theorem dX8_step_11 : decode cX8_step 11 = .ok (.ireturn, 1) := by decide +kernel
theorem dX8_step_12 : decode cX8_step 12 = .ok (.aload_n 2, 1) := by decide +kernel
theorem dX8_step_13 : decode cX8_step 13 = .ok (.getfield 123, 3) := by decide +kernel
theorem dX8_step_16 : decode cX8_step 16 = .ok (.ifCond .eq 6, 3) := by decide +kernel
theorem dX8_step_19 : decode cX8_step 19 = .ok (.bipush (-2), 2) := by decide +kernel
theorem dX8_step_21 : decode cX8_step 21 = .ok (.ireturn, 1) := by decide +kernel
theorem dX8_step_22 : decode cX8_step 22 = .ok (.aload_n 0, 1) := by decide +kernel
theorem dX8_step_23 : decode cX8_step 23 = .ok (.aload_n 2, 1) := by decide +kernel
theorem dX8_step_24 : decode cX8_step 24 = .ok (.aload_n 2, 1) := by decide +kernel
theorem dX8_step_25 : decode cX8_step 25 = .ok (.getfield 156, 3) := by decide +kernel
theorem dX8_step_28 : decode cX8_step 28 = .ok (.iconst 0, 1) := by decide +kernel
theorem dX8_step_29 : decode cX8_step 29 = .ok (.dconst 0, 1) := by decide +kernel
theorem dX8_step_30 : decode cX8_step 30 = .ok (.invokevirtual 175, 3) := by decide +kernel
theorem dX8_step_33 : decode cX8_step 33 = .ok (.ireturn, 1) := by decide +kernel
theorem dX8_to_0 : decode cX8_to 0 = .ok (.aload_n 0, 1) := by decide +kernel
theorem dX8_to_1 : decode cX8_to 1 = .ok (.iload_n 1, 1) := by decide +kernel
theorem dX8_to_2 : decode cX8_to 2 = .ok (.invokevirtual 119, 3) := by decide +kernel
theorem dX8_to_5 : decode cX8_to 5 = .ok (.astore 6, 2) := by decide +kernel
theorem dX8_to_7 : decode cX8_to 7 = .ok (.aload 6, 2) := by decide +kernel
theorem dX8_to_9 : decode cX8_to 9 = .ok (.ifnull 25, 3) := by decide +kernel
theorem dX8_to_12 : decode cX8_to 12 = .ok (.iload 4, 2) := by decide +kernel
theorem dX8_to_14 : decode cX8_to 14 = .ok (.invokestatic 67, 3) := by decide +kernel
theorem dX8_to_17 : decode cX8_to 17 = .ok (.ifCond .eq 17, 3) := by decide +kernel
theorem dX8_to_20 : decode cX8_to 20 = .ok (.iload 5, 2) := by decide +kernel
theorem dX8_to_22 : decode cX8_to 22 = .ok (.iconst 1, 1) := by decide +kernel
theorem dX8_to_23 : decode cX8_to 23 = .ok (.if_icmp .lt 11, 3) := by decide +kernel
theorem dX8_to_26 : decode cX8_to 26 = .ok (.iload 5, 2) := by decide +kernel
theorem dX8_to_28 : decode cX8_to 28 = .ok (.sipush 200, 3) := by decide +kernel
theorem dX8_to_31 : decode cX8_to 31 = .ok (.if_icmp .le 5, 3) := by decide +kernel
theorem dX8_to_34 : decode cX8_to 34 = .ok (.iconst (-1), 1) := by decide +kernel
theorem dX8_to_35 : decode cX8_to 35 = .ok (.ireturn, 1) := by decide +kernel
theorem dX8_to_36 : decode cX8_to 36 = .ok (.aload 6, 2) := by decide +kernel
theorem dX8_to_38 : decode cX8_to 38 = .ok (.getfield 123, 3) := by decide +kernel
theorem dX8_to_41 : decode cX8_to 41 = .ok (.ifCond .eq 6, 3) := by decide +kernel
theorem dX8_to_44 : decode cX8_to 44 = .ok (.bipush (-2), 2) := by decide +kernel
theorem dX8_to_46 : decode cX8_to 46 = .ok (.ireturn, 1) := by decide +kernel
theorem dX8_to_47 : decode cX8_to 47 = .ok (.lload_n 2, 1) := by decide +kernel
theorem dX8_to_48 : decode cX8_to 48 = .ok (.iload 4, 2) := by decide +kernel
theorem dX8_to_50 : decode cX8_to 50 = .ok (.invokestatic 71, 3) := by decide +kernel
theorem dX8_to_53 : decode cX8_to 53 = .ok (.dstore 7, 2) := by decide +kernel
theorem dX8_to_55 : decode cX8_to 55 = .ok (.dload 7, 2) := by decide +kernel
theorem dX8_to_57 : decode cX8_to 57 = .ok (.aload 6, 2) := by decide +kernel
theorem dX8_to_59 : decode cX8_to 59 = .ok (.getfield 179, 3) := by decide +kernel
theorem dX8_to_62 : decode cX8_to 62 = .ok (.dcmp .l, 1) := by decide +kernel
theorem dX8_to_63 : decode cX8_to 63 = .ok (.ifCond .ne 5, 3) := by decide +kernel
theorem dX8_to_66 : decode cX8_to 66 = .ok (.iconst 0, 1) := by decide +kernel
theorem dX8_to_67 : decode cX8_to 67 = .ok (.ireturn, 1) := by decide +kernel
theorem dX8_to_68 : decode cX8_to 68 = .ok (.dload 7, 2) := by decide +kernel
theorem dX8_to_70 : decode cX8_to 70 = .ok (.aload 6, 2) := by decide +kernel
theorem dX8_to_72 : decode cX8_to 72 = .ok (.getfield 179, 3) := by decide +kernel
theorem dX8_to_75 : decode cX8_to 75 = .ok (.dcmp .g, 1) := by decide +kernel
theorem dX8_to_76 : decode cX8_to 76 = .ok (.ifCond .ge 7, 3) := by decide +kernel
theorem dX8_to_79 : decode cX8_to 79 = .ok (.iconst 1, 1) := by decide +kernel
theorem dX8_to_80 : decode cX8_to 80 = .ok (.goto 4, 3) := by decide +kernel
theorem dX8_to_83 : decode cX8_to 83 = .ok (.iconst 0, 1) := by decide +kernel
theorem dX8_to_84 : decode cX8_to 84 = .ok (.aload 6, 2) := by decide +kernel
theorem dX8_to_86 : decode cX8_to 86 = .ok (.getfield 156, 3) := by decide +kernel
theorem dX8_to_89 : decode cX8_to 89 = .ok (.dconst 0, 1) := by decide +kernel
theorem dX8_to_90 : decode cX8_to 90 = .ok (.dcmp .g, 1) := by decide +kernel
theorem dX8_to_91 : decode cX8_to 91 = .ok (.ifCond .ge 7, 3) := by decide +kernel
theorem dX8_to_94 : decode cX8_to 94 = .ok (.iconst 1, 1) := by decide +kernel
theorem dX8_to_95 : decode cX8_to 95 = .ok (.goto 4, 3) := by decide +kernel
theorem dX8_to_98 : decode cX8_to 98 = .ok (.iconst 0, 1) := by decide +kernel
theorem dX8_to_99 : decode cX8_to 99 = .ok (.if_icmp .eq 6, 3) := by decide +kernel
theorem dX8_to_102 : decode cX8_to 102 = .ok (.bipush (-2), 2) := by decide +kernel
theorem dX8_to_104 : decode cX8_to 104 = .ok (.ireturn, 1) := by decide +kernel
theorem dX8_to_105 : decode cX8_to 105 = .ok (.aload_n 0, 1) := by decide +kernel
theorem dX8_to_106 : decode cX8_to 106 = .ok (.aload 6, 2) := by decide +kernel
theorem dX8_to_108 : decode cX8_to 108 = .ok (.iconst 4, 1) := by decide +kernel
theorem dX8_to_109 : decode cX8_to 109 = .ok (.invokevirtual 182, 3) := by decide +kernel
theorem dX8_to_112 : decode cX8_to 112 = .ok (.astore 9, 2) := by decide +kernel
theorem dX8_to_114 : decode cX8_to 114 = .ok (.iconst 0, 1) := by decide +kernel
theorem dX8_to_115 : decode cX8_to 115 = .ok (.istore 10, 2) := by decide +kernel
theorem dX8_to_117 : decode cX8_to 117 = .ok (.iload 10, 2) := by decide +kernel
theorem dX8_to_119 : decode cX8_to 119 = .ok (.iload 5, 2) := by decide +kernel
theorem dX8_to_121 : decode cX8_to 121 = .ok (.if_icmp .ge 104, 3) := by decide +kernel
theorem dX8_to_124 : decode cX8_to 124 = .ok (.aload 6, 2) := by decide +kernel
theorem dX8_to_126 : decode cX8_to 126 = .ok (.getfield 123, 3) := by decide +kernel
theorem dX8_to_129 : decode cX8_to 129 = .ok (.ifCond .ne 96, 3) := by decide +kernel
theorem dX8_to_132 : decode cX8_to 132 = .ok (.aload 6, 2) := by decide +kernel
theorem dX8_to_134 : decode cX8_to 134 = .ok (.getfield 179, 3) := by decide +kernel
theorem dX8_to_137 : decode cX8_to 137 = .ok (.dload 7, 2) := by decide +kernel
theorem dX8_to_139 : decode cX8_to 139 = .ok (.dcmp .l, 1) := by decide +kernel
theorem dX8_to_140 : decode cX8_to 140 = .ok (.ifCond .eq 85, 3) := by decide +kernel
theorem dX8_to_143 : decode cX8_to 143 = .ok (.dload 7, 2) := by decide +kernel
theorem dX8_to_145 : decode cX8_to 145 = .ok (.aload 6, 2) := by decide +kernel
theorem dX8_to_147 : decode cX8_to 147 = .ok (.getfield 179, 3) := by decide +kernel
theorem dX8_to_150 : decode cX8_to 150 = .ok (.dsub, 1) := by decide +kernel
theorem dX8_to_151 : decode cX8_to 151 = .ok (.dstore 11, 2) := by decide +kernel
theorem dX8_to_153 : decode cX8_to 153 = .ok (.dload 11, 2) := by decide +kernel
theorem dX8_to_155 : decode cX8_to 155 = .ok (.invokestatic 146, 3) := by decide +kernel
theorem dX8_to_158 : decode cX8_to 158 = .ok (.aload 6, 2) := by decide +kernel
theorem dX8_to_160 : decode cX8_to 160 = .ok (.getfield 156, 3) := by decide +kernel
theorem dX8_to_163 : decode cX8_to 163 = .ok (.invokestatic 146, 3) := by decide +kernel
theorem dX8_to_166 : decode cX8_to 166 = .ok (.dcmp .g, 1) := by decide +kernel
theorem dX8_to_167 : decode cX8_to 167 = .ok (.ifCond .gt 7, 3) := by decide +kernel
theorem dX8_to_170 : decode cX8_to 170 = .ok (.iconst 1, 1) := by decide +kernel
theorem dX8_to_171 : decode cX8_to 171 = .ok (.goto 4, 3) := by decide +kernel
theorem dX8_to_174 : decode cX8_to 174 = .ok (.iconst 0, 1) := by decide +kernel
theorem dX8_to_175 : decode cX8_to 175 = .ok (.istore 13, 2) := by decide +kernel
theorem dX8_to_177 : decode cX8_to 177 = .ok (.aload_n 0, 1) := by decide +kernel
theorem dX8_to_178 : decode cX8_to 178 = .ok (.aload 6, 2) := by decide +kernel
theorem dX8_to_180 : decode cX8_to 180 = .ok (.iload 13, 2) := by decide +kernel
theorem dX8_to_182 : decode cX8_to 182 = .ok (.ifCond .eq 8, 3) := by decide +kernel
theorem dX8_to_185 : decode cX8_to 185 = .ok (.dload 11, 2) := by decide +kernel
theorem dX8_to_187 : decode cX8_to 187 = .ok (.goto 8, 3) := by decide +kernel
theorem dX8_to_190 : decode cX8_to 190 = .ok (.aload 6, 2) := by decide +kernel
theorem dX8_to_192 : decode cX8_to 192 = .ok (.getfield 156, 3) := by decide +kernel
theorem dX8_to_195 : decode cX8_to 195 = .ok (.iload 13, 2) := by decide +kernel
theorem dX8_to_197 : decode cX8_to 197 = .ok (.dload 7, 2) := by decide +kernel
theorem dX8_to_199 : decode cX8_to 199 = .ok (.invokevirtual 175, 3) := by decide +kernel
theorem dX8_to_202 : decode cX8_to 202 = .ok (.istore 14, 2) := by decide +kernel
theorem dX8_to_204 : decode cX8_to 204 = .ok (.iload 14, 2) := by decide +kernel
theorem dX8_to_206 : decode cX8_to 206 = .ok (.ifCond .ge 13, 3) := by decide +kernel
theorem dX8_to_209 : decode cX8_to 209 = .ok (.aload 6, 2) := by decide +kernel
theorem dX8_to_211 : decode cX8_to 211 = .ok (.aload 9, 2) := by decide +kernel
theorem dX8_to_213 : decode cX8_to 213 = .ok (.invokevirtual 186, 3) := by decide +kernel
theorem dX8_to_216 : decode cX8_to 216 = .ok (.iload 14, 2) := by decide +kernel
theorem dX8_to_218 : decode cX8_to 218 = .ok (.ireturn, 1) := by decide +kernel
theorem dX8_to_219 : decode cX8_to 219 = .ok (.iinc 10 1, 3) := by decide +kernel
theorem dX8_to_222 : decode cX8_to 222 = .ok (.goto (-105), 3) := by decide +kernel
theorem dX8_to_225 : decode cX8_to 225 = .ok (.iload 10, 2) := by decide +kernel
theorem dX8_to_227 : decode cX8_to 227 = .ok (.ireturn, 1) := by decide +kernel
theorem dX8_state_0 : decode cX8_state 0 = .ok (.aload_n 0, 1) := by decide +kernel
theorem dX8_state_1 : decode cX8_state 1 = .ok (.iload_n 1, 1) := by decide +kernel
theorem dX8_state_2 : decode cX8_state 2 = .ok (.invokevirtual 119, 3) := by decide +kernel
theorem dX8_state_5 : decode cX8_state 5 = .ok (.astore_n 3, 1) := by decide +kernel
theorem dX8_state_6 : decode cX8_state 6 = .ok (.aload_n 3, 1) := by decide +kernel
theorem dX8_state_7 : decode cX8_state 7 = .ok (.ifnull 14, 3) := by decide +kernel
theorem dX8_state_10 : decode cX8_state 10 = .ok (.aload_n 3, 1) := by decide +kernel
theorem dX8_state_11 : decode cX8_state 11 = .ok (.getfield 92, 3) := by decide +kernel
theorem dX8_state_14 : decode cX8_state 14 = .ok (.iload_n 2, 1) := by decide +kernel
theorem dX8_state_15 : decode cX8_state 15 = .ok (.invokevirtual 83, 3) := by decide +kernel
theorem dX8_state_18 : decode cX8_state 18 = .ok (.ifCond .ne 7, 3) := by decide +kernel
theorem dX8_state_21 : decode cX8_state 21 = .ok (.ldc2_w 190, 3) := by decide +kernel
theorem dX8_state_24 : decode cX8_state 24 = .ok (.lreturn, 1) := by decide +kernel
theorem dX8_state_25 : decode cX8_state 25 = .ok (.aload_n 0, 1) := by decide +kernel
theorem dX8_state_26 : decode cX8_state 26 = .ok (.getfield 19, 3) := by decide +kernel
theorem dX8_state_29 : decode cX8_state 29 = .ok (.aload_n 3, 1) := by decide +kernel
theorem dX8_state_30 : decode cX8_state 30 = .ok (.getfield 127, 3) := by decide +kernel
theorem dX8_state_33 : decode cX8_state 33 = .ok (.iload_n 2, 1) := by decide +kernel
theorem dX8_state_34 : decode cX8_state 34 = .ok (.invokevirtual 192, 3) := by decide +kernel
theorem dX8_state_37 : decode cX8_state 37 = .ok (.lreturn, 1) := by decide +kernel
theorem dX8_clock_0 : decode cX8_clock 0 = .ok (.aload_n 0, 1) := by decide +kernel
theorem dX8_clock_1 : decode cX8_clock 1 = .ok (.iload_n 1, 1) := by decide +kernel
theorem dX8_clock_2 : decode cX8_clock 2 = .ok (.invokevirtual 119, 3) := by decide +kernel
theorem dX8_clock_5 : decode cX8_clock 5 = .ok (.astore_n 3, 1) := by decide +kernel
theorem dX8_clock_6 : decode cX8_clock 6 = .ok (.aload_n 3, 1) := by decide +kernel
theorem dX8_clock_7 : decode cX8_clock 7 = .ok (.ifnonnull 7, 3) := by decide +kernel
theorem dX8_clock_10 : decode cX8_clock 10 = .ok (.ldc2_w 190, 3) := by decide +kernel
theorem dX8_clock_13 : decode cX8_clock 13 = .ok (.lreturn, 1) := by decide +kernel
theorem dX8_clock_14 : decode cX8_clock 14 = .ok (.iload_n 2, 1) := by decide +kernel
theorem dX8_clock_15 : decode cX8_clock 15 = .ok (.tableswitch 83 0 3 #[29, 41, 53, 68], 29) := by decide +kernel
theorem dX8_clock_44 : decode cX8_clock 44 = .ok (.aload_n 0, 1) := by decide +kernel
theorem dX8_clock_45 : decode cX8_clock 45 = .ok (.getfield 19, 3) := by decide +kernel
theorem dX8_clock_48 : decode cX8_clock 48 = .ok (.aload_n 3, 1) := by decide +kernel
theorem dX8_clock_49 : decode cX8_clock 49 = .ok (.getfield 179, 3) := by decide +kernel
theorem dX8_clock_52 : decode cX8_clock 52 = .ok (.invokevirtual 196, 3) := by decide +kernel
theorem dX8_clock_55 : decode cX8_clock 55 = .ok (.lreturn, 1) := by decide +kernel
theorem dX8_clock_56 : decode cX8_clock 56 = .ok (.aload_n 0, 1) := by decide +kernel
theorem dX8_clock_57 : decode cX8_clock 57 = .ok (.getfield 19, 3) := by decide +kernel
theorem dX8_clock_60 : decode cX8_clock 60 = .ok (.aload_n 3, 1) := by decide +kernel
theorem dX8_clock_61 : decode cX8_clock 61 = .ok (.getfield 156, 3) := by decide +kernel
theorem dX8_clock_64 : decode cX8_clock 64 = .ok (.invokevirtual 196, 3) := by decide +kernel
theorem dX8_clock_67 : decode cX8_clock 67 = .ok (.lreturn, 1) := by decide +kernel
theorem dX8_clock_68 : decode cX8_clock 68 = .ok (.aload_n 0, 1) := by decide +kernel
theorem dX8_clock_69 : decode cX8_clock 69 = .ok (.getfield 19, 3) := by decide +kernel
theorem dX8_clock_72 : decode cX8_clock 72 = .ok (.aload_n 3, 1) := by decide +kernel
theorem dX8_clock_73 : decode cX8_clock 73 = .ok (.getfield 200, 3) := by decide +kernel
theorem dX8_clock_76 : decode cX8_clock 76 = .ok (.getfield 203, 3) := by decide +kernel
theorem dX8_clock_79 : decode cX8_clock 79 = .ok (.invokevirtual 196, 3) := by decide +kernel
theorem dX8_clock_82 : decode cX8_clock 82 = .ok (.lreturn, 1) := by decide +kernel
theorem dX8_clock_83 : decode cX8_clock 83 = .ok (.aload_n 0, 1) := by decide +kernel
theorem dX8_clock_84 : decode cX8_clock 84 = .ok (.getfield 19, 3) := by decide +kernel
theorem dX8_clock_87 : decode cX8_clock 87 = .ok (.aload_n 3, 1) := by decide +kernel
theorem dX8_clock_88 : decode cX8_clock 88 = .ok (.getfield 200, 3) := by decide +kernel
theorem dX8_clock_91 : decode cX8_clock 91 = .ok (.getfield 206, 3) := by decide +kernel
theorem dX8_clock_94 : decode cX8_clock 94 = .ok (.invokevirtual 196, 3) := by decide +kernel
theorem dX8_clock_97 : decode cX8_clock 97 = .ok (.lreturn, 1) := by decide +kernel
theorem dX8_clock_98 : decode cX8_clock 98 = .ok (.ldc2_w 190, 3) := by decide +kernel
theorem dX8_clock_101 : decode cX8_clock 101 = .ok (.lreturn, 1) := by decide +kernel
theorem dX8_count_0 : decode cX8_count 0 = .ok (.aload_n 0, 1) := by decide +kernel
theorem dX8_count_1 : decode cX8_count 1 = .ok (.iload_n 1, 1) := by decide +kernel
theorem dX8_count_2 : decode cX8_count 2 = .ok (.invokevirtual 119, 3) := by decide +kernel
theorem dX8_count_5 : decode cX8_count 5 = .ok (.astore_n 3, 1) := by decide +kernel
theorem dX8_count_6 : decode cX8_count 6 = .ok (.aload_n 3, 1) := by decide +kernel
theorem dX8_count_7 : decode cX8_count 7 = .ok (.ifnonnull 5, 3) := by decide +kernel
theorem dX8_count_10 : decode cX8_count 10 = .ok (.iconst (-1), 1) := by decide +kernel
theorem dX8_count_11 : decode cX8_count 11 = .ok (.ireturn, 1) := by decide +kernel
theorem dX8_count_12 : decode cX8_count 12 = .ok (.iload_n 2, 1) := by decide +kernel
theorem dX8_count_13 : decode cX8_count 13 = .ok (.tableswitch 107 0 7 #[47, 55, 60, 65, 70, 78, 91, 99], 47) := by decide +kernel
theorem dX8_count_60 : decode cX8_count 60 = .ok (.aload_n 3, 1) := by decide +kernel
theorem dX8_count_61 : decode cX8_count 61 = .ok (.getfield 92, 3) := by decide +kernel
theorem dX8_count_64 : decode cX8_count 64 = .ok (.getfield 209, 3) := by decide +kernel
theorem dX8_count_67 : decode cX8_count 67 = .ok (.ireturn, 1) := by decide +kernel
theorem dX8_count_68 : decode cX8_count 68 = .ok (.aload_n 3, 1) := by decide +kernel
theorem dX8_count_69 : decode cX8_count 69 = .ok (.getfield 143, 3) := by decide +kernel
theorem dX8_count_72 : decode cX8_count 72 = .ok (.ireturn, 1) := by decide +kernel
theorem dX8_count_73 : decode cX8_count 73 = .ok (.aload_n 3, 1) := by decide +kernel
theorem dX8_count_74 : decode cX8_count 74 = .ok (.getfield 212, 3) := by decide +kernel
theorem dX8_count_77 : decode cX8_count 77 = .ok (.ireturn, 1) := by decide +kernel
theorem dX8_count_78 : decode cX8_count 78 = .ok (.aload_n 3, 1) := by decide +kernel
theorem dX8_count_79 : decode cX8_count 79 = .ok (.getfield 215, 3) := by decide +kernel
theorem dX8_count_82 : decode cX8_count 82 = .ok (.ireturn, 1) := by decide +kernel
theorem dX8_count_83 : decode cX8_count 83 = .ok (.aload_n 3, 1) := by decide +kernel
theorem dX8_count_84 : decode cX8_count 84 = .ok (.getfield 200, 3) := by decide +kernel
theorem dX8_count_87 : decode cX8_count 87 = .ok (.getfield 218, 3) := by decide +kernel
theorem dX8_count_90 : decode cX8_count 90 = .ok (.ireturn, 1) := by decide +kernel
theorem dX8_count_91 : decode cX8_count 91 = .ok (.aload_n 3, 1) := by decide +kernel
theorem dX8_count_92 : decode cX8_count 92 = .ok (.getfield 123, 3) := by decide +kernel
theorem dX8_count_95 : decode cX8_count 95 = .ok (.ifCond .eq 7, 3) := by decide +kernel
theorem dX8_count_98 : decode cX8_count 98 = .ok (.iconst 1, 1) := by decide +kernel
theorem dX8_count_99 : decode cX8_count 99 = .ok (.goto 4, 3) := by decide +kernel
theorem dX8_count_102 : decode cX8_count 102 = .ok (.iconst 0, 1) := by decide +kernel
theorem dX8_count_103 : decode cX8_count 103 = .ok (.ireturn, 1) := by decide +kernel
theorem dX8_count_104 : decode cX8_count 104 = .ok (.aload_n 3, 1) := by decide +kernel
theorem dX8_count_105 : decode cX8_count 105 = .ok (.getfield 166, 3) := by decide +kernel
theorem dX8_count_108 : decode cX8_count 108 = .ok (.getfield 221, 3) := by decide +kernel
theorem dX8_count_111 : decode cX8_count 111 = .ok (.ireturn, 1) := by decide +kernel
theorem dX8_count_112 : decode cX8_count 112 = .ok (.aload_n 3, 1) := by decide +kernel
theorem dX8_count_113 : decode cX8_count 113 = .ok (.getfield 166, 3) := by decide +kernel
theorem dX8_count_116 : decode cX8_count 116 = .ok (.getfield 224, 3) := by decide +kernel
theorem dX8_count_119 : decode cX8_count 119 = .ok (.ireturn, 1) := by decide +kernel
theorem dX8_count_120 : decode cX8_count 120 = .ok (.iconst (-1), 1) := by decide +kernel
theorem dX8_count_121 : decode cX8_count 121 = .ok (.ireturn, 1) := by decide +kernel
theorem dX8_stage_0 : decode cX8_stage 0 = .ok (.aload_n 0, 1) := by decide +kernel
theorem dX8_stage_1 : decode cX8_stage 1 = .ok (.iload_n 1, 1) := by decide +kernel
theorem dX8_stage_2 : decode cX8_stage 2 = .ok (.invokevirtual 119, 3) := by decide +kernel
theorem dX8_stage_5 : decode cX8_stage 5 = .ok (.astore 4, 2) := by decide +kernel
theorem dX8_stage_7 : decode cX8_stage 7 = .ok (.aload 4, 2) := by decide +kernel
theorem dX8_stage_9 : decode cX8_stage 9 = .ok (.ifnull 23, 3) := by decide +kernel
theorem dX8_stage_12 : decode cX8_stage 12 = .ok (.aload 4, 2) := by decide +kernel
theorem dX8_stage_14 : decode cX8_stage 14 = .ok (.getfield 92, 3) := by decide +kernel
theorem dX8_stage_17 : decode cX8_stage 17 = .ok (.iload_n 3, 1) := by decide +kernel
theorem dX8_stage_18 : decode cX8_stage 18 = .ok (.invokevirtual 83, 3) := by decide +kernel
theorem dX8_stage_21 : decode cX8_stage 21 = .ok (.ifCond .eq 11, 3) := by decide +kernel
theorem dX8_stage_24 : decode cX8_stage 24 = .ok (.aload 4, 2) := by decide +kernel
theorem dX8_stage_26 : decode cX8_stage 26 = .ok (.getfield 212, 3) := by decide +kernel
theorem dX8_stage_29 : decode cX8_stage 29 = .ok (.ifCond .ne 7, 3) := by decide +kernel
theorem dX8_stage_32 : decode cX8_stage 32 = .ok (.ldc2_w 190, 3) := by decide +kernel
theorem dX8_stage_35 : decode cX8_stage 35 = .ok (.lreturn, 1) := by decide +kernel
theorem dX8_stage_36 : decode cX8_stage 36 = .ok (.aload 4, 2) := by decide +kernel
theorem dX8_stage_38 : decode cX8_stage 38 = .ok (.getfield 200, 3) := by decide +kernel
theorem dX8_stage_41 : decode cX8_stage 41 = .ok (.getfield 227, 3) := by decide +kernel
theorem dX8_stage_44 : decode cX8_stage 44 = .ok (.istore 5, 2) := by decide +kernel
theorem dX8_stage_46 : decode cX8_stage 46 = .ok (.iload_n 2, 1) := by decide +kernel
theorem dX8_stage_47 : decode cX8_stage 47 = .ok (.iconst 5, 1) := by decide +kernel
theorem dX8_stage_48 : decode cX8_stage 48 = .ok (.if_icmp .ne 26, 3) := by decide +kernel
theorem dX8_stage_51 : decode cX8_stage 51 = .ok (.iload 5, 2) := by decide +kernel
theorem dX8_stage_53 : decode cX8_stage 53 = .ok (.iconst 4, 1) := by decide +kernel
theorem dX8_stage_54 : decode cX8_stage 54 = .ok (.if_icmp .ne 20, 3) := by decide +kernel
theorem dX8_stage_57 : decode cX8_stage 57 = .ok (.aload_n 0, 1) := by decide +kernel
theorem dX8_stage_58 : decode cX8_stage 58 = .ok (.getfield 19, 3) := by decide +kernel
theorem dX8_stage_61 : decode cX8_stage 61 = .ok (.aload 4, 2) := by decide +kernel
theorem dX8_stage_63 : decode cX8_stage 63 = .ok (.getfield 200, 3) := by decide +kernel
theorem dX8_stage_66 : decode cX8_stage 66 = .ok (.getfield 228, 3) := by decide +kernel
theorem dX8_stage_69 : decode cX8_stage 69 = .ok (.iload_n 3, 1) := by decide +kernel
theorem dX8_stage_70 : decode cX8_stage 70 = .ok (.invokevirtual 192, 3) := by decide +kernel
theorem dX8_stage_73 : decode cX8_stage 73 = .ok (.lreturn, 1) := by decide +kernel
theorem dX8_stage_74 : decode cX8_stage 74 = .ok (.iload_n 2, 1) := by decide +kernel
theorem dX8_stage_75 : decode cX8_stage 75 = .ok (.iconst 1, 1) := by decide +kernel
theorem dX8_stage_76 : decode cX8_stage 76 = .ok (.if_icmp .lt 13, 3) := by decide +kernel
theorem dX8_stage_79 : decode cX8_stage 79 = .ok (.iload_n 2, 1) := by decide +kernel
theorem dX8_stage_80 : decode cX8_stage 80 = .ok (.getstatic 231, 3) := by decide +kernel
theorem dX8_stage_83 : decode cX8_stage 83 = .ok (.iload 5, 2) := by decide +kernel
theorem dX8_stage_85 : decode cX8_stage 85 = .ok (.iaload, 1) := by decide +kernel
theorem dX8_stage_86 : decode cX8_stage 86 = .ok (.if_icmp .le 7, 3) := by decide +kernel
theorem dX8_stage_89 : decode cX8_stage 89 = .ok (.ldc2_w 190, 3) := by decide +kernel
theorem dX8_stage_92 : decode cX8_stage 92 = .ok (.lreturn, 1) := by decide +kernel
theorem dX8_stage_93 : decode cX8_stage 93 = .ok (.aload_n 0, 1) := by decide +kernel
theorem dX8_stage_94 : decode cX8_stage 94 = .ok (.getfield 19, 3) := by decide +kernel
theorem dX8_stage_97 : decode cX8_stage 97 = .ok (.aload 4, 2) := by decide +kernel
theorem dX8_stage_99 : decode cX8_stage 99 = .ok (.getfield 200, 3) := by decide +kernel
theorem dX8_stage_102 : decode cX8_stage 102 = .ok (.getfield 235, 3) := by decide +kernel
theorem dX8_stage_105 : decode cX8_stage 105 = .ok (.iload_n 2, 1) := by decide +kernel
theorem dX8_stage_106 : decode cX8_stage 106 = .ok (.iconst 1, 1) := by decide +kernel
theorem dX8_stage_107 : decode cX8_stage 107 = .ok (.isub, 1) := by decide +kernel
theorem dX8_stage_108 : decode cX8_stage 108 = .ok (.aaload, 1) := by decide +kernel
theorem dX8_stage_109 : decode cX8_stage 109 = .ok (.iload_n 3, 1) := by decide +kernel
theorem dX8_stage_110 : decode cX8_stage 110 = .ok (.invokevirtual 192, 3) := by decide +kernel
theorem dX8_stage_113 : decode cX8_stage 113 = .ok (.lreturn, 1) := by decide +kernel
theorem dX8_value_0 : decode cX8_value 0 = .ok (.aload_n 0, 1) := by decide +kernel
theorem dX8_value_1 : decode cX8_value 1 = .ok (.iload_n 1, 1) := by decide +kernel
theorem dX8_value_2 : decode cX8_value 2 = .ok (.invokevirtual 119, 3) := by decide +kernel
theorem dX8_value_5 : decode cX8_value 5 = .ok (.astore_n 3, 1) := by decide +kernel
theorem dX8_value_6 : decode cX8_value 6 = .ok (.aload_n 3, 1) := by decide +kernel
theorem dX8_value_7 : decode cX8_value 7 = .ok (.ifnull 14, 3) := by decide +kernel
theorem dX8_value_10 : decode cX8_value 10 = .ok (.aload_n 3, 1) := by decide +kernel
theorem dX8_value_11 : decode cX8_value 11 = .ok (.getfield 92, 3) := by decide +kernel
theorem dX8_value_14 : decode cX8_value 14 = .ok (.iload_n 2, 1) := by decide +kernel
theorem dX8_value_15 : decode cX8_value 15 = .ok (.invokevirtual 86, 3) := by decide +kernel
theorem dX8_value_18 : decode cX8_value 18 = .ok (.ifCond .ne 7, 3) := by decide +kernel
theorem dX8_value_21 : decode cX8_value 21 = .ok (.ldc2_w 190, 3) := by decide +kernel
theorem dX8_value_24 : decode cX8_value 24 = .ok (.lreturn, 1) := by decide +kernel
theorem dX8_value_25 : decode cX8_value 25 = .ok (.aload_n 3, 1) := by decide +kernel
theorem dX8_value_26 : decode cX8_value 26 = .ok (.getfield 92, 3) := by decide +kernel
theorem dX8_value_29 : decode cX8_value 29 = .ok (.aload_n 3, 1) := by decide +kernel
theorem dX8_value_30 : decode cX8_value 30 = .ok (.getfield 179, 3) := by decide +kernel
theorem dX8_value_33 : decode cX8_value 33 = .ok (.aload_n 3, 1) := by decide +kernel
theorem dX8_value_34 : decode cX8_value 34 = .ok (.getfield 127, 3) := by decide +kernel
theorem dX8_value_37 : decode cX8_value 37 = .ok (.iload_n 2, 1) := by decide +kernel
theorem dX8_value_38 : decode cX8_value 38 = .ok (.iconst 1, 1) := by decide +kernel
theorem dX8_value_39 : decode cX8_value 39 = .ok (.iadd, 1) := by decide +kernel
theorem dX8_value_40 : decode cX8_value 40 = .ok (.invokevirtual 239, 3) := by decide +kernel
theorem dX8_value_43 : decode cX8_value 43 = .ok (.aload_n 0, 1) := by decide +kernel
theorem dX8_value_44 : decode cX8_value 44 = .ok (.getfield 19, 3) := by decide +kernel
theorem dX8_value_47 : decode cX8_value 47 = .ok (.aload_n 3, 1) := by decide +kernel
theorem dX8_value_48 : decode cX8_value 48 = .ok (.getfield 92, 3) := by decide +kernel
theorem dX8_value_51 : decode cX8_value 51 = .ok (.getfield 243, 3) := by decide +kernel
theorem dX8_value_54 : decode cX8_value 54 = .ok (.iload_n 2, 1) := by decide +kernel
theorem dX8_value_55 : decode cX8_value 55 = .ok (.invokevirtual 192, 3) := by decide +kernel
theorem dX8_value_58 : decode cX8_value 58 = .ok (.lreturn, 1) := by decide +kernel
theorem dX8_between_0 : decode cX8_between 0 = .ok (.aload_n 0, 1) := by decide +kernel
theorem dX8_between_1 : decode cX8_between 1 = .ok (.iload_n 1, 1) := by decide +kernel
theorem dX8_between_2 : decode cX8_between 2 = .ok (.invokevirtual 119, 3) := by decide +kernel
theorem dX8_between_5 : decode cX8_between 5 = .ok (.astore 6, 2) := by decide +kernel
theorem dX8_between_7 : decode cX8_between 7 = .ok (.aload 6, 2) := by decide +kernel
theorem dX8_between_9 : decode cX8_between 9 = .ok (.ifnull 31, 3) := by decide +kernel
theorem dX8_between_12 : decode cX8_between 12 = .ok (.aload 6, 2) := by decide +kernel
theorem dX8_between_14 : decode cX8_between 14 = .ok (.getfield 92, 3) := by decide +kernel
theorem dX8_between_17 : decode cX8_between 17 = .ok (.iload_n 2, 1) := by decide +kernel
theorem dX8_between_18 : decode cX8_between 18 = .ok (.invokevirtual 83, 3) := by decide +kernel
theorem dX8_between_21 : decode cX8_between 21 = .ok (.ifCond .eq 19, 3) := by decide +kernel
theorem dX8_between_24 : decode cX8_between 24 = .ok (.aload 6, 2) := by decide +kernel
theorem dX8_between_26 : decode cX8_between 26 = .ok (.getfield 212, 3) := by decide +kernel
theorem dX8_between_29 : decode cX8_between 29 = .ok (.ifCond .eq 11, 3) := by decide +kernel
theorem dX8_between_32 : decode cX8_between 32 = .ok (.iload 5, 2) := by decide +kernel
theorem dX8_between_34 : decode cX8_between 34 = .ok (.invokestatic 67, 3) := by decide +kernel
theorem dX8_between_37 : decode cX8_between 37 = .ok (.ifCond .ne 7, 3) := by decide +kernel
theorem dX8_between_40 : decode cX8_between 40 = .ok (.ldc2_w 190, 3) := by decide +kernel
theorem dX8_between_43 : decode cX8_between 43 = .ok (.lreturn, 1) := by decide +kernel
theorem dX8_between_44 : decode cX8_between 44 = .ok (.lload_n 3, 1) := by decide +kernel
theorem dX8_between_45 : decode cX8_between 45 = .ok (.iload 5, 2) := by decide +kernel
theorem dX8_between_47 : decode cX8_between 47 = .ok (.invokestatic 71, 3) := by decide +kernel
theorem dX8_between_50 : decode cX8_between 50 = .ok (.dstore 7, 2) := by decide +kernel
theorem dX8_between_52 : decode cX8_between 52 = .ok (.dload 7, 2) := by decide +kernel
theorem dX8_between_54 : decode cX8_between 54 = .ok (.dconst 0, 1) := by decide +kernel
theorem dX8_between_55 : decode cX8_between 55 = .ok (.dcmp .g, 1) := by decide +kernel
theorem dX8_between_56 : decode cX8_between 56 = .ok (.ifCond .lt 10, 3) := by decide +kernel
theorem dX8_between_59 : decode cX8_between 59 = .ok (.dload 7, 2) := by decide +kernel
theorem dX8_between_61 : decode cX8_between 61 = .ok (.dconst 1, 1) := by decide +kernel
theorem dX8_between_62 : decode cX8_between 62 = .ok (.dcmp .l, 1) := by decide +kernel
theorem dX8_between_63 : decode cX8_between 63 = .ok (.ifCond .le 7, 3) := by decide +kernel
theorem dX8_between_66 : decode cX8_between 66 = .ok (.ldc2_w 190, 3) := by decide +kernel
theorem dX8_between_69 : decode cX8_between 69 = .ok (.lreturn, 1) := by decide +kernel
theorem dX8_between_70 : decode cX8_between 70 = .ok (.aload 6, 2) := by decide +kernel
theorem dX8_between_72 : decode cX8_between 72 = .ok (.getfield 200, 3) := by decide +kernel
theorem dX8_between_75 : decode cX8_between 75 = .ok (.iload_n 2, 1) := by decide +kernel
theorem dX8_between_76 : decode cX8_between 76 = .ok (.dload 7, 2) := by decide +kernel
theorem dX8_between_78 : decode cX8_between 78 = .ok (.invokevirtual 246, 3) := by decide +kernel
theorem dX8_between_81 : decode cX8_between 81 = .ok (.aload_n 0, 1) := by decide +kernel
theorem dX8_between_82 : decode cX8_between 82 = .ok (.getfield 19, 3) := by decide +kernel
theorem dX8_between_85 : decode cX8_between 85 = .ok (.aload 6, 2) := by decide +kernel
theorem dX8_between_87 : decode cX8_between 87 = .ok (.getfield 200, 3) := by decide +kernel
theorem dX8_between_90 : decode cX8_between 90 = .ok (.getfield 250, 3) := by decide +kernel
theorem dX8_between_93 : decode cX8_between 93 = .ok (.iload_n 2, 1) := by decide +kernel
theorem dX8_between_94 : decode cX8_between 94 = .ok (.invokevirtual 192, 3) := by decide +kernel
theorem dX8_between_97 : decode cX8_between 97 = .ok (.lreturn, 1) := by decide +kernel
theorem dX8_fired_0 : decode cX8_fired 0 = .ok (.aload_n 0, 1) := by decide +kernel
theorem dX8_fired_1 : decode cX8_fired 1 = .ok (.iload_n 1, 1) := by decide +kernel
theorem dX8_fired_2 : decode cX8_fired 2 = .ok (.invokevirtual 119, 3) := by decide +kernel
theorem dX8_fired_5 : decode cX8_fired 5 = .ok (.astore 4, 2) := by decide +kernel
theorem dX8_fired_7 : decode cX8_fired 7 = .ok (.aload 4, 2) := by decide +kernel
theorem dX8_fired_9 : decode cX8_fired 9 = .ok (.ifnull 15, 3) := by decide +kernel
theorem dX8_fired_12 : decode cX8_fired 12 = .ok (.aload 4, 2) := by decide +kernel
theorem dX8_fired_14 : decode cX8_fired 14 = .ok (.getfield 166, 3) := by decide +kernel
theorem dX8_fired_17 : decode cX8_fired 17 = .ok (.iload_n 2, 1) := by decide +kernel
theorem dX8_fired_18 : decode cX8_fired 18 = .ok (.invokevirtual 253, 3) := by decide +kernel
theorem dX8_fired_21 : decode cX8_fired 21 = .ok (.ifCond .ne 7, 3) := by decide +kernel
theorem dX8_fired_24 : decode cX8_fired 24 = .ok (.ldc2_w 190, 3) := by decide +kernel
theorem dX8_fired_27 : decode cX8_fired 27 = .ok (.lreturn, 1) := by decide +kernel
theorem dX8_fired_28 : decode cX8_fired 28 = .ok (.iload_n 3, 1) := by decide +kernel
theorem dX8_fired_29 : decode cX8_fired 29 = .ok (.ifCond .ne 15, 3) := by decide +kernel
theorem dX8_fired_32 : decode cX8_fired 32 = .ok (.aload 4, 2) := by decide +kernel
theorem dX8_fired_34 : decode cX8_fired 34 = .ok (.getfield 166, 3) := by decide +kernel
theorem dX8_fired_37 : decode cX8_fired 37 = .ok (.getfield 256, 3) := by decide +kernel
theorem dX8_fired_40 : decode cX8_fired 40 = .ok (.iload_n 2, 1) := by decide +kernel
theorem dX8_fired_41 : decode cX8_fired 41 = .ok (.iaload, 1) := by decide +kernel
theorem dX8_fired_42 : decode cX8_fired 42 = .ok (.i2l, 1) := by decide +kernel
theorem dX8_fired_43 : decode cX8_fired 43 = .ok (.lreturn, 1) := by decide +kernel
theorem dX8_fired_44 : decode cX8_fired 44 = .ok (.iload_n 3, 1) := by decide +kernel
theorem dX8_fired_45 : decode cX8_fired 45 = .ok (.iconst 1, 1) := by decide +kernel
theorem dX8_fired_46 : decode cX8_fired 46 = .ok (.if_icmp .ne 23, 3) := by decide +kernel
theorem dX8_fired_49 : decode cX8_fired 49 = .ok (.aload_n 0, 1) := by decide +kernel
theorem dX8_fired_50 : decode cX8_fired 50 = .ok (.getfield 19, 3) := by decide +kernel
theorem dX8_fired_53 : decode cX8_fired 53 = .ok (.aload 4, 2) := by decide +kernel
theorem dX8_fired_55 : decode cX8_fired 55 = .ok (.getfield 166, 3) := by decide +kernel
theorem dX8_fired_58 : decode cX8_fired 58 = .ok (.getfield 259, 3) := by decide +kernel
theorem dX8_fired_61 : decode cX8_fired 61 = .ok (.iload_n 2, 1) := by decide +kernel
theorem dX8_fired_62 : decode cX8_fired 62 = .ok (.daload, 1) := by decide +kernel
theorem dX8_fired_63 : decode cX8_fired 63 = .ok (.invokevirtual 196, 3) := by decide +kernel
theorem dX8_fired_66 : decode cX8_fired 66 = .ok (.goto 6, 3) := by decide +kernel
theorem dX8_fired_69 : decode cX8_fired 69 = .ok (.ldc2_w 190, 3) := by decide +kernel
theorem dX8_fired_72 : decode cX8_fired 72 = .ok (.lreturn, 1) := by decide +kernel
theorem dX8_halves_0 : decode cX8_halves 0 = .ok (.aload_n 0, 1) := by decide +kernel
theorem dX8_halves_1 : decode cX8_halves 1 = .ok (.iload_n 1, 1) := by decide +kernel
theorem dX8_halves_2 : decode cX8_halves 2 = .ok (.invokevirtual 119, 3) := by decide +kernel
theorem dX8_halves_5 : decode cX8_halves 5 = .ok (.astore_n 3, 1) := by decide +kernel
theorem dX8_halves_6 : decode cX8_halves 6 = .ok (.aload_n 3, 1) := by decide +kernel
theorem dX8_halves_7 : decode cX8_halves 7 = .ok (.ifnull 21, 3) := by decide +kernel
theorem dX8_halves_10 : decode cX8_halves 10 = .ok (.aload_n 3, 1) := by decide +kernel
theorem dX8_halves_11 : decode cX8_halves 11 = .ok (.getfield 92, 3) := by decide +kernel
theorem dX8_halves_14 : decode cX8_halves 14 = .ok (.iload_n 2, 1) := by decide +kernel
theorem dX8_halves_15 : decode cX8_halves 15 = .ok (.invokevirtual 83, 3) := by decide +kernel
theorem dX8_halves_18 : decode cX8_halves 18 = .ok (.ifCond .eq 10, 3) := by decide +kernel
theorem dX8_halves_21 : decode cX8_halves 21 = .ok (.aload_n 3, 1) := by decide +kernel
theorem dX8_halves_22 : decode cX8_halves 22 = .ok (.getfield 123, 3) := by decide +kernel
theorem dX8_halves_25 : decode cX8_halves 25 = .ok (.ifCond .eq 7, 3) := by decide +kernel
theorem dX8_halves_28 : decode cX8_halves 28 = .ok (.ldc2_w 190, 3) := by decide +kernel
theorem dX8_halves_31 : decode cX8_halves 31 = .ok (.lreturn, 1) := by decide +kernel
theorem dX8_halves_32 : decode cX8_halves 32 = .ok (.aload_n 3, 1) := by decide +kernel
theorem dX8_halves_33 : decode cX8_halves 33 = .ok (.getfield 92, 3) := by decide +kernel
theorem dX8_halves_36 : decode cX8_halves 36 = .ok (.astore 4, 2) := by decide +kernel
theorem dX8_halves_38 : decode cX8_halves 38 = .ok (.aload_n 3, 1) := by decide +kernel
theorem dX8_halves_39 : decode cX8_halves 39 = .ok (.getfield 156, 3) := by decide +kernel
theorem dX8_halves_42 : decode cX8_halves 42 = .ok (.ldc2_w 263, 3) := by decide +kernel
theorem dX8_halves_45 : decode cX8_halves 45 = .ok (.ddiv, 1) := by decide +kernel
theorem dX8_halves_46 : decode cX8_halves 46 = .ok (.dstore 5, 2) := by decide +kernel
theorem dX8_halves_48 : decode cX8_halves 48 = .ok (.aload_n 0, 1) := by decide +kernel
theorem dX8_halves_49 : decode cX8_halves 49 = .ok (.getfield 49, 3) := by decide +kernel
theorem dX8_halves_52 : decode cX8_halves 52 = .ok (.aload 4, 2) := by decide +kernel
theorem dX8_halves_54 : decode cX8_halves 54 = .ok (.aload_n 3, 1) := by decide +kernel
theorem dX8_halves_55 : decode cX8_halves 55 = .ok (.getfield 143, 3) := by decide +kernel
theorem dX8_halves_58 : decode cX8_halves 58 = .ok (.aload_n 3, 1) := by decide +kernel
theorem dX8_halves_59 : decode cX8_halves 59 = .ok (.getfield 179, 3) := by decide +kernel
theorem dX8_halves_62 : decode cX8_halves 62 = .ok (.aload_n 3, 1) := by decide +kernel
theorem dX8_halves_63 : decode cX8_halves 63 = .ok (.getfield 127, 3) := by decide +kernel
theorem dX8_halves_66 : decode cX8_halves 66 = .ok (.aload_n 3, 1) := by decide +kernel
theorem dX8_halves_67 : decode cX8_halves 67 = .ok (.getfield 156, 3) := by decide +kernel
theorem dX8_halves_70 : decode cX8_halves 70 = .ok (.invokevirtual 265, 3) := by decide +kernel
theorem dX8_halves_73 : decode cX8_halves 73 = .ok (.ifCond .ne 7, 3) := by decide +kernel
theorem dX8_halves_76 : decode cX8_halves 76 = .ok (.ldc2_w 190, 3) := by decide +kernel
theorem dX8_halves_79 : decode cX8_halves 79 = .ok (.lreturn, 1) := by decide +kernel
theorem dX8_halves_80 : decode cX8_halves 80 = .ok (.aload_n 0, 1) := by decide +kernel
theorem dX8_halves_81 : decode cX8_halves 81 = .ok (.getfield 49, 3) := by decide +kernel
theorem dX8_halves_84 : decode cX8_halves 84 = .ok (.getfield 269, 3) := by decide +kernel
theorem dX8_halves_87 : decode cX8_halves 87 = .ok (.getfield 272, 3) := by decide +kernel
theorem dX8_halves_90 : decode cX8_halves 90 = .ok (.iload_n 2, 1) := by decide +kernel
theorem dX8_halves_91 : decode cX8_halves 91 = .ok (.daload, 1) := by decide +kernel
theorem dX8_halves_92 : decode cX8_halves 92 = .ok (.dstore 7, 2) := by decide +kernel
theorem dX8_halves_94 : decode cX8_halves 94 = .ok (.aload_n 0, 1) := by decide +kernel
theorem dX8_halves_95 : decode cX8_halves 95 = .ok (.getfield 53, 3) := by decide +kernel
theorem dX8_halves_98 : decode cX8_halves 98 = .ok (.aload 4, 2) := by decide +kernel
theorem dX8_halves_100 : decode cX8_halves 100 = .ok (.aload_n 3, 1) := by decide +kernel
theorem dX8_halves_101 : decode cX8_halves 101 = .ok (.getfield 143, 3) := by decide +kernel
theorem dX8_halves_104 : decode cX8_halves 104 = .ok (.aload_n 3, 1) := by decide +kernel
theorem dX8_halves_105 : decode cX8_halves 105 = .ok (.getfield 179, 3) := by decide +kernel
theorem dX8_halves_108 : decode cX8_halves 108 = .ok (.aload_n 3, 1) := by decide +kernel
theorem dX8_halves_109 : decode cX8_halves 109 = .ok (.getfield 127, 3) := by decide +kernel
theorem dX8_halves_112 : decode cX8_halves 112 = .ok (.dload 5, 2) := by decide +kernel
theorem dX8_halves_114 : decode cX8_halves 114 = .ok (.invokevirtual 265, 3) := by decide +kernel
theorem dX8_halves_117 : decode cX8_halves 117 = .ok (.ifCond .ne 7, 3) := by decide +kernel
theorem dX8_halves_120 : decode cX8_halves 120 = .ok (.ldc2_w 190, 3) := by decide +kernel
theorem dX8_halves_123 : decode cX8_halves 123 = .ok (.lreturn, 1) := by decide +kernel
theorem dX8_halves_124 : decode cX8_halves 124 = .ok (.aload_n 0, 1) := by decide +kernel
theorem dX8_halves_125 : decode cX8_halves 125 = .ok (.getfield 49, 3) := by decide +kernel
theorem dX8_halves_128 : decode cX8_halves 128 = .ok (.aload 4, 2) := by decide +kernel
theorem dX8_halves_130 : decode cX8_halves 130 = .ok (.aload_n 3, 1) := by decide +kernel
theorem dX8_halves_131 : decode cX8_halves 131 = .ok (.getfield 143, 3) := by decide +kernel
theorem dX8_halves_134 : decode cX8_halves 134 = .ok (.aload_n 0, 1) := by decide +kernel
theorem dX8_halves_135 : decode cX8_halves 135 = .ok (.getfield 53, 3) := by decide +kernel
theorem dX8_halves_138 : decode cX8_halves 138 = .ok (.getfield 274, 3) := by decide +kernel
theorem dX8_halves_141 : decode cX8_halves 141 = .ok (.aload_n 0, 1) := by decide +kernel
theorem dX8_halves_142 : decode cX8_halves 142 = .ok (.getfield 53, 3) := by decide +kernel
theorem dX8_halves_145 : decode cX8_halves 145 = .ok (.getfield 269, 3) := by decide +kernel
theorem dX8_halves_148 : decode cX8_halves 148 = .ok (.dload 5, 2) := by decide +kernel
theorem dX8_halves_150 : decode cX8_halves 150 = .ok (.invokevirtual 265, 3) := by decide +kernel
theorem dX8_halves_153 : decode cX8_halves 153 = .ok (.ifCond .ne 7, 3) := by decide +kernel
theorem dX8_halves_156 : decode cX8_halves 156 = .ok (.ldc2_w 190, 3) := by decide +kernel
theorem dX8_halves_159 : decode cX8_halves 159 = .ok (.lreturn, 1) := by decide +kernel
theorem dX8_halves_160 : decode cX8_halves 160 = .ok (.aload_n 0, 1) := by decide +kernel
theorem dX8_halves_161 : decode cX8_halves 161 = .ok (.getfield 19, 3) := by decide +kernel
theorem dX8_halves_164 : decode cX8_halves 164 = .ok (.aload_n 0, 1) := by decide +kernel
theorem dX8_halves_165 : decode cX8_halves 165 = .ok (.getfield 49, 3) := by decide +kernel
theorem dX8_halves_168 : decode cX8_halves 168 = .ok (.getfield 269, 3) := by decide +kernel
theorem dX8_halves_171 : decode cX8_halves 171 = .ok (.getfield 272, 3) := by decide +kernel
theorem dX8_halves_174 : decode cX8_halves 174 = .ok (.iload_n 2, 1) := by decide +kernel
theorem dX8_halves_175 : decode cX8_halves 175 = .ok (.daload, 1) := by decide +kernel
theorem dX8_halves_176 : decode cX8_halves 176 = .ok (.dload 7, 2) := by decide +kernel
theorem dX8_halves_178 : decode cX8_halves 178 = .ok (.dsub, 1) := by decide +kernel
theorem dX8_halves_179 : decode cX8_halves 179 = .ok (.invokevirtual 196, 3) := by decide +kernel
theorem dX8_halves_182 : decode cX8_halves 182 = .ok (.lreturn, 1) := by decide +kernel
theorem dX8_keep_0 : decode cX8_keep 0 = .ok (.aload_n 0, 1) := by decide +kernel
theorem dX8_keep_1 : decode cX8_keep 1 = .ok (.iload_n 1, 1) := by decide +kernel
theorem dX8_keep_2 : decode cX8_keep 2 = .ok (.invokevirtual 119, 3) := by decide +kernel
theorem dX8_keep_5 : decode cX8_keep 5 = .ok (.astore_n 3, 1) := by decide +kernel
theorem dX8_keep_6 : decode cX8_keep 6 = .ok (.aload_n 3, 1) := by decide +kernel
theorem dX8_keep_7 : decode cX8_keep 7 = .ok (.ifnull 12, 3) := by decide +kernel
theorem dX8_keep_10 : decode cX8_keep 10 = .ok (.iload_n 2, 1) := by decide +kernel
theorem dX8_keep_11 : decode cX8_keep 11 = .ok (.ifCond .lt 8, 3) := by decide +kernel
theorem dX8_keep_14 : decode cX8_keep 14 = .ok (.iload_n 2, 1) := by decide +kernel
theorem dX8_keep_15 : decode cX8_keep 15 = .ok (.iconst 4, 1) := by decide +kernel
theorem dX8_keep_16 : decode cX8_keep 16 = .ok (.if_icmp .lt 5, 3) := by decide +kernel
theorem dX8_keep_19 : decode cX8_keep 19 = .ok (.iconst (-1), 1) := by decide +kernel
theorem dX8_keep_20 : decode cX8_keep 20 = .ok (.ireturn, 1) := by decide +kernel
theorem dX8_keep_21 : decode cX8_keep 21 = .ok (.aload_n 0, 1) := by decide +kernel
theorem dX8_keep_22 : decode cX8_keep 22 = .ok (.aload_n 3, 1) := by decide +kernel
theorem dX8_keep_23 : decode cX8_keep 23 = .ok (.iload_n 2, 1) := by decide +kernel
theorem dX8_keep_24 : decode cX8_keep 24 = .ok (.invokevirtual 182, 3) := by decide +kernel
theorem dX8_keep_27 : decode cX8_keep 27 = .ok (.pop, 1) := by decide +kernel
theorem dX8_keep_28 : decode cX8_keep 28 = .ok (.iconst 1, 1) := by decide +kernel
theorem dX8_keep_29 : decode cX8_keep 29 = .ok (.ireturn, 1) := by decide +kernel
theorem dX8_back_0 : decode cX8_back 0 = .ok (.aload_n 0, 1) := by decide +kernel
theorem dX8_back_1 : decode cX8_back 1 = .ok (.iload_n 1, 1) := by decide +kernel
theorem dX8_back_2 : decode cX8_back 2 = .ok (.invokevirtual 119, 3) := by decide +kernel
theorem dX8_back_5 : decode cX8_back 5 = .ok (.astore_n 3, 1) := by decide +kernel
theorem dX8_back_6 : decode cX8_back 6 = .ok (.aload_n 3, 1) := by decide +kernel
theorem dX8_back_7 : decode cX8_back 7 = .ok (.ifnull 12, 3) := by decide +kernel
theorem dX8_back_10 : decode cX8_back 10 = .ok (.iload_n 2, 1) := by decide +kernel
theorem dX8_back_11 : decode cX8_back 11 = .ok (.ifCond .lt 8, 3) := by decide +kernel
theorem dX8_back_14 : decode cX8_back 14 = .ok (.iload_n 2, 1) := by decide +kernel
theorem dX8_back_15 : decode cX8_back 15 = .ok (.iconst 4, 1) := by decide +kernel
theorem dX8_back_16 : decode cX8_back 16 = .ok (.if_icmp .lt 5, 3) := by decide +kernel
theorem dX8_back_19 : decode cX8_back 19 = .ok (.iconst (-1), 1) := by decide +kernel
theorem dX8_back_20 : decode cX8_back 20 = .ok (.ireturn, 1) := by decide +kernel
theorem dX8_back_21 : decode cX8_back 21 = .ok (.aload_n 0, 1) := by decide +kernel
theorem dX8_back_22 : decode cX8_back 22 = .ok (.getfield 41, 3) := by decide +kernel
theorem dX8_back_25 : decode cX8_back 25 = .ok (.iload_n 2, 1) := by decide +kernel
theorem dX8_back_26 : decode cX8_back 26 = .ok (.aaload, 1) := by decide +kernel
theorem dX8_back_27 : decode cX8_back 27 = .ok (.astore 4, 2) := by decide +kernel
theorem dX8_back_29 : decode cX8_back 29 = .ok (.aload 4, 2) := by decide +kernel
theorem dX8_back_31 : decode cX8_back 31 = .ok (.ifnonnull 6, 3) := by decide +kernel
theorem dX8_back_34 : decode cX8_back 34 = .ok (.bipush (-2), 2) := by decide +kernel
theorem dX8_back_36 : decode cX8_back 36 = .ok (.ireturn, 1) := by decide +kernel
theorem dX8_back_37 : decode cX8_back 37 = .ok (.aload_n 3, 1) := by decide +kernel
theorem dX8_back_38 : decode cX8_back 38 = .ok (.aload 4, 2) := by decide +kernel
theorem dX8_back_40 : decode cX8_back 40 = .ok (.invokevirtual 186, 3) := by decide +kernel
theorem dX8_back_43 : decode cX8_back 43 = .ok (.iconst 1, 1) := by decide +kernel
theorem dX8_back_44 : decode cX8_back 44 = .ok (.ireturn, 1) := by decide +kernel
theorem dX8_unlike_0 : decode cX8_unlike 0 = .ok (.aload_n 0, 1) := by decide +kernel
theorem dX8_unlike_1 : decode cX8_unlike 1 = .ok (.iload_n 1, 1) := by decide +kernel
theorem dX8_unlike_2 : decode cX8_unlike 2 = .ok (.invokevirtual 119, 3) := by decide +kernel
theorem dX8_unlike_5 : decode cX8_unlike 5 = .ok (.astore_n 3, 1) := by decide +kernel
theorem dX8_unlike_6 : decode cX8_unlike 6 = .ok (.aload_n 3, 1) := by decide +kernel
theorem dX8_unlike_7 : decode cX8_unlike 7 = .ok (.ifnull 12, 3) := by decide +kernel
theorem dX8_unlike_10 : decode cX8_unlike 10 = .ok (.iload_n 2, 1) := by decide +kernel
theorem dX8_unlike_11 : decode cX8_unlike 11 = .ok (.ifCond .lt 8, 3) := by decide +kernel
theorem dX8_unlike_14 : decode cX8_unlike 14 = .ok (.iload_n 2, 1) := by decide +kernel
theorem dX8_unlike_15 : decode cX8_unlike 15 = .ok (.iconst 4, 1) := by decide +kernel
theorem dX8_unlike_16 : decode cX8_unlike 16 = .ok (.if_icmp .lt 5, 3) := by decide +kernel
theorem dX8_unlike_19 : decode cX8_unlike 19 = .ok (.iconst (-1), 1) := by decide +kernel
theorem dX8_unlike_20 : decode cX8_unlike 20 = .ok (.ireturn, 1) := by decide +kernel
theorem dX8_unlike_21 : decode cX8_unlike 21 = .ok (.aload_n 0, 1) := by decide +kernel
theorem dX8_unlike_22 : decode cX8_unlike 22 = .ok (.getfield 41, 3) := by decide +kernel
theorem dX8_unlike_25 : decode cX8_unlike 25 = .ok (.iload_n 2, 1) := by decide +kernel
theorem dX8_unlike_26 : decode cX8_unlike 26 = .ok (.aaload, 1) := by decide +kernel
theorem dX8_unlike_27 : decode cX8_unlike 27 = .ok (.astore 4, 2) := by decide +kernel
theorem dX8_unlike_29 : decode cX8_unlike 29 = .ok (.aload 4, 2) := by decide +kernel
theorem dX8_unlike_31 : decode cX8_unlike 31 = .ok (.ifnonnull 6, 3) := by decide +kernel
theorem dX8_unlike_34 : decode cX8_unlike 34 = .ok (.bipush (-2), 2) := by decide +kernel
theorem dX8_unlike_36 : decode cX8_unlike 36 = .ok (.ireturn, 1) := by decide +kernel
theorem dX8_unlike_37 : decode cX8_unlike 37 = .ok (.iconst 0, 1) := by decide +kernel
theorem dX8_unlike_38 : decode cX8_unlike 38 = .ok (.istore 5, 2) := by decide +kernel
theorem dX8_unlike_40 : decode cX8_unlike 40 = .ok (.aload_n 0, 1) := by decide +kernel
theorem dX8_unlike_41 : decode cX8_unlike 41 = .ok (.getfield 19, 3) := by decide +kernel
theorem dX8_unlike_44 : decode cX8_unlike 44 = .ok (.aload_n 3, 1) := by decide +kernel
theorem dX8_unlike_45 : decode cX8_unlike 45 = .ok (.getfield 179, 3) := by decide +kernel
theorem dX8_unlike_48 : decode cX8_unlike 48 = .ok (.invokevirtual 196, 3) := by decide +kernel
theorem dX8_unlike_51 : decode cX8_unlike 51 = .ok (.aload_n 0, 1) := by decide +kernel
theorem dX8_unlike_52 : decode cX8_unlike 52 = .ok (.getfield 19, 3) := by decide +kernel
theorem dX8_unlike_55 : decode cX8_unlike 55 = .ok (.aload 4, 2) := by decide +kernel
theorem dX8_unlike_57 : decode cX8_unlike 57 = .ok (.getfield 179, 3) := by decide +kernel
theorem dX8_unlike_60 : decode cX8_unlike 60 = .ok (.invokevirtual 196, 3) := by decide +kernel
theorem dX8_unlike_63 : decode cX8_unlike 63 = .ok (.lcmp, 1) := by decide +kernel
theorem dX8_unlike_64 : decode cX8_unlike 64 = .ok (.ifCond .eq 6, 3) := by decide +kernel
theorem dX8_unlike_67 : decode cX8_unlike 67 = .ok (.iinc 5 1, 3) := by decide +kernel
theorem dX8_unlike_70 : decode cX8_unlike 70 = .ok (.aload_n 0, 1) := by decide +kernel
theorem dX8_unlike_71 : decode cX8_unlike 71 = .ok (.getfield 19, 3) := by decide +kernel
theorem dX8_unlike_74 : decode cX8_unlike 74 = .ok (.aload_n 3, 1) := by decide +kernel
theorem dX8_unlike_75 : decode cX8_unlike 75 = .ok (.getfield 156, 3) := by decide +kernel
theorem dX8_unlike_78 : decode cX8_unlike 78 = .ok (.invokevirtual 196, 3) := by decide +kernel
theorem dX8_unlike_81 : decode cX8_unlike 81 = .ok (.aload_n 0, 1) := by decide +kernel
theorem dX8_unlike_82 : decode cX8_unlike 82 = .ok (.getfield 19, 3) := by decide +kernel
theorem dX8_unlike_85 : decode cX8_unlike 85 = .ok (.aload 4, 2) := by decide +kernel
theorem dX8_unlike_87 : decode cX8_unlike 87 = .ok (.getfield 156, 3) := by decide +kernel
theorem dX8_unlike_90 : decode cX8_unlike 90 = .ok (.invokevirtual 196, 3) := by decide +kernel
theorem dX8_unlike_93 : decode cX8_unlike 93 = .ok (.lcmp, 1) := by decide +kernel
theorem dX8_unlike_94 : decode cX8_unlike 94 = .ok (.ifCond .eq 6, 3) := by decide +kernel
theorem dX8_unlike_97 : decode cX8_unlike 97 = .ok (.iinc 5 1, 3) := by decide +kernel
theorem dX8_unlike_100 : decode cX8_unlike 100 = .ok (.aload_n 3, 1) := by decide +kernel
theorem dX8_unlike_101 : decode cX8_unlike 101 = .ok (.getfield 92, 3) := by decide +kernel
theorem dX8_unlike_104 : decode cX8_unlike 104 = .ok (.getfield 140, 3) := by decide +kernel
theorem dX8_unlike_107 : decode cX8_unlike 107 = .ok (.aload 4, 2) := by decide +kernel
theorem dX8_unlike_109 : decode cX8_unlike 109 = .ok (.getfield 92, 3) := by decide +kernel
theorem dX8_unlike_112 : decode cX8_unlike 112 = .ok (.getfield 140, 3) := by decide +kernel
theorem dX8_unlike_115 : decode cX8_unlike 115 = .ok (.invokestatic 277, 3) := by decide +kernel
theorem dX8_unlike_118 : decode cX8_unlike 118 = .ok (.istore 6, 2) := by decide +kernel
theorem dX8_unlike_120 : decode cX8_unlike 120 = .ok (.iconst 0, 1) := by decide +kernel
theorem dX8_unlike_121 : decode cX8_unlike 121 = .ok (.istore 7, 2) := by decide +kernel
theorem dX8_unlike_123 : decode cX8_unlike 123 = .ok (.iload 7, 2) := by decide +kernel
theorem dX8_unlike_125 : decode cX8_unlike 125 = .ok (.iload 6, 2) := by decide +kernel
theorem dX8_unlike_127 : decode cX8_unlike 127 = .ok (.if_icmp .ge 43, 3) := by decide +kernel
theorem dX8_unlike_130 : decode cX8_unlike 130 = .ok (.aload_n 0, 1) := by decide +kernel
theorem dX8_unlike_131 : decode cX8_unlike 131 = .ok (.getfield 19, 3) := by decide +kernel
theorem dX8_unlike_134 : decode cX8_unlike 134 = .ok (.aload_n 3, 1) := by decide +kernel
theorem dX8_unlike_135 : decode cX8_unlike 135 = .ok (.getfield 127, 3) := by decide +kernel
theorem dX8_unlike_138 : decode cX8_unlike 138 = .ok (.iload 7, 2) := by decide +kernel
theorem dX8_unlike_140 : decode cX8_unlike 140 = .ok (.invokevirtual 192, 3) := by decide +kernel
theorem dX8_unlike_143 : decode cX8_unlike 143 = .ok (.aload_n 0, 1) := by decide +kernel
theorem dX8_unlike_144 : decode cX8_unlike 144 = .ok (.getfield 19, 3) := by decide +kernel
theorem dX8_unlike_147 : decode cX8_unlike 147 = .ok (.aload 4, 2) := by decide +kernel
theorem dX8_unlike_149 : decode cX8_unlike 149 = .ok (.getfield 127, 3) := by decide +kernel
theorem dX8_unlike_152 : decode cX8_unlike 152 = .ok (.iload 7, 2) := by decide +kernel
theorem dX8_unlike_154 : decode cX8_unlike 154 = .ok (.invokevirtual 192, 3) := by decide +kernel
theorem dX8_unlike_157 : decode cX8_unlike 157 = .ok (.lcmp, 1) := by decide +kernel
theorem dX8_unlike_158 : decode cX8_unlike 158 = .ok (.ifCond .eq 6, 3) := by decide +kernel
theorem dX8_unlike_161 : decode cX8_unlike 161 = .ok (.iinc 5 1, 3) := by decide +kernel
theorem dX8_unlike_164 : decode cX8_unlike 164 = .ok (.iinc 7 1, 3) := by decide +kernel
theorem dX8_unlike_167 : decode cX8_unlike 167 = .ok (.goto (-44), 3) := by decide +kernel
theorem dX8_unlike_170 : decode cX8_unlike 170 = .ok (.iload 5, 2) := by decide +kernel
theorem dX8_unlike_172 : decode cX8_unlike 172 = .ok (.aload_n 3, 1) := by decide +kernel
theorem dX8_unlike_173 : decode cX8_unlike 173 = .ok (.getfield 92, 3) := by decide +kernel
theorem dX8_unlike_176 : decode cX8_unlike 176 = .ok (.getfield 140, 3) := by decide +kernel
theorem dX8_unlike_179 : decode cX8_unlike 179 = .ok (.aload 4, 2) := by decide +kernel
theorem dX8_unlike_181 : decode cX8_unlike 181 = .ok (.getfield 92, 3) := by decide +kernel
theorem dX8_unlike_184 : decode cX8_unlike 184 = .ok (.getfield 140, 3) := by decide +kernel
theorem dX8_unlike_187 : decode cX8_unlike 187 = .ok (.invokestatic 283, 3) := by decide +kernel
theorem dX8_unlike_190 : decode cX8_unlike 190 = .ok (.iadd, 1) := by decide +kernel
theorem dX8_unlike_191 : decode cX8_unlike 191 = .ok (.iload 6, 2) := by decide +kernel
theorem dX8_unlike_193 : decode cX8_unlike 193 = .ok (.isub, 1) := by decide +kernel
theorem dX8_unlike_194 : decode cX8_unlike 194 = .ok (.ireturn, 1) := by decide +kernel
theorem dX8_lawAt_0 : decode cX8_lawAt 0 = .ok (.iload_n 1, 1) := by decide +kernel
theorem dX8_lawAt_1 : decode cX8_lawAt 1 = .ok (.ifCond .lt 20, 3) := by decide +kernel
theorem dX8_lawAt_4 : decode cX8_lawAt 4 = .ok (.iload_n 1, 1) := by decide +kernel
theorem dX8_lawAt_5 : decode cX8_lawAt 5 = .ok (.aload_n 0, 1) := by decide +kernel
theorem dX8_lawAt_6 : decode cX8_lawAt 6 = .ok (.getfield 56, 3) := by decide +kernel
theorem dX8_lawAt_9 : decode cX8_lawAt 9 = .ok (.if_icmp .ge 12, 3) := by decide +kernel
theorem dX8_lawAt_12 : decode cX8_lawAt 12 = .ok (.aload_n 0, 1) := by decide +kernel
theorem dX8_lawAt_13 : decode cX8_lawAt 13 = .ok (.getfield 25, 3) := by decide +kernel
theorem dX8_lawAt_16 : decode cX8_lawAt 16 = .ok (.iload_n 1, 1) := by decide +kernel
theorem dX8_lawAt_17 : decode cX8_lawAt 17 = .ok (.aaload, 1) := by decide +kernel
theorem dX8_lawAt_18 : decode cX8_lawAt 18 = .ok (.goto 4, 3) := by decide +kernel
theorem dX8_lawAt_21 : decode cX8_lawAt 21 = .ok (.aconst_null, 1) := by decide +kernel
theorem dX8_lawAt_22 : decode cX8_lawAt 22 = .ok (.areturn, 1) := by decide +kernel
theorem dX8_runAt_0 : decode cX8_runAt 0 = .ok (.iload_n 1, 1) := by decide +kernel
theorem dX8_runAt_1 : decode cX8_runAt 1 = .ok (.ifCond .lt 20, 3) := by decide +kernel
theorem dX8_runAt_4 : decode cX8_runAt 4 = .ok (.iload_n 1, 1) := by decide +kernel
theorem dX8_runAt_5 : decode cX8_runAt 5 = .ok (.aload_n 0, 1) := by decide +kernel
theorem dX8_runAt_6 : decode cX8_runAt 6 = .ok (.getfield 89, 3) := by decide +kernel
theorem dX8_runAt_9 : decode cX8_runAt 9 = .ok (.if_icmp .ge 12, 3) := by decide +kernel
theorem dX8_runAt_12 : decode cX8_runAt 12 = .ok (.aload_n 0, 1) := by decide +kernel
theorem dX8_runAt_13 : decode cX8_runAt 13 = .ok (.getfield 37, 3) := by decide +kernel
theorem dX8_runAt_16 : decode cX8_runAt 16 = .ok (.iload_n 1, 1) := by decide +kernel
theorem dX8_runAt_17 : decode cX8_runAt 17 = .ok (.aaload, 1) := by decide +kernel
theorem dX8_runAt_18 : decode cX8_runAt 18 = .ok (.goto 4, 3) := by decide +kernel
theorem dX8_runAt_21 : decode cX8_runAt 21 = .ok (.aconst_null, 1) := by decide +kernel
theorem dX8_runAt_22 : decode cX8_runAt 22 = .ok (.areturn, 1) := by decide +kernel
theorem dX8_isK_0 : decode cX8_isK 0 = .ok (.iload_n 0, 1) := by decide +kernel
theorem dX8_isK_1 : decode cX8_isK 1 = .ok (.ifCond .lt 13, 3) := by decide +kernel
theorem dX8_isK_4 : decode cX8_isK 4 = .ok (.iload_n 0, 1) := by decide +kernel
theorem dX8_isK_5 : decode cX8_isK 5 = .ok (.bipush 30, 2) := by decide +kernel
theorem dX8_isK_7 : decode cX8_isK 7 = .ok (.if_icmp .gt 7, 3) := by decide +kernel
theorem dX8_isK_10 : decode cX8_isK 10 = .ok (.iconst 1, 1) := by decide +kernel
theorem dX8_isK_11 : decode cX8_isK 11 = .ok (.goto 4, 3) := by decide +kernel
theorem dX8_isK_14 : decode cX8_isK 14 = .ok (.iconst 0, 1) := by decide +kernel
theorem dX8_isK_15 : decode cX8_isK 15 = .ok (.ireturn, 1) := by decide +kernel
theorem dX8_quotient_0 : decode cX8_quotient 0 = .ok (.lload_n 0, 1) := by decide +kernel
theorem dX8_quotient_1 : decode cX8_quotient 1 = .ok (.l2d, 1) := by decide +kernel
theorem dX8_quotient_2 : decode cX8_quotient 2 = .ok (.lconst 1, 1) := by decide +kernel
theorem dX8_quotient_3 : decode cX8_quotient 3 = .ok (.iload_n 2, 1) := by decide +kernel
theorem dX8_quotient_4 : decode cX8_quotient 4 = .ok (.lshl, 1) := by decide +kernel
theorem dX8_quotient_5 : decode cX8_quotient 5 = .ok (.l2d, 1) := by decide +kernel
theorem dX8_quotient_6 : decode cX8_quotient 6 = .ok (.ddiv, 1) := by decide +kernel
theorem dX8_quotient_7 : decode cX8_quotient 7 = .ok (.dreturn, 1) := by decide +kernel
theorem dX8_size_0 : decode cX8_size 0 = .ok (.dload_n 0, 1) := by decide +kernel
theorem dX8_size_1 : decode cX8_size 1 = .ok (.dconst 0, 1) := by decide +kernel
theorem dX8_size_2 : decode cX8_size 2 = .ok (.dcmp .g, 1) := by decide +kernel
theorem dX8_size_3 : decode cX8_size 3 = .ok (.ifCond .gt 9, 3) := by decide +kernel
theorem dX8_size_6 : decode cX8_size 6 = .ok (.dconst 0, 1) := by decide +kernel
theorem dX8_size_7 : decode cX8_size 7 = .ok (.dload_n 0, 1) := by decide +kernel
theorem dX8_size_8 : decode cX8_size 8 = .ok (.dsub, 1) := by decide +kernel
theorem dX8_size_9 : decode cX8_size 9 = .ok (.goto 4, 3) := by decide +kernel
theorem dX8_size_12 : decode cX8_size 12 = .ok (.dload_n 0, 1) := by decide +kernel
theorem dX8_size_13 : decode cX8_size 13 = .ok (.dreturn, 1) := by decide +kernel
theorem dX8_isTooSmall_0 : decode cX8_isTooSmall 0 = .ok (.dload_n 0, 1) := by decide +kernel
theorem dX8_isTooSmall_1 : decode cX8_isTooSmall 1 = .ok (.ldc2_w 286, 3) := by decide +kernel
theorem dX8_isTooSmall_4 : decode cX8_isTooSmall 4 = .ok (.dcmp .g, 1) := by decide +kernel
theorem dX8_isTooSmall_5 : decode cX8_isTooSmall 5 = .ok (.ifCond .ge 7, 3) := by decide +kernel
theorem dX8_isTooSmall_8 : decode cX8_isTooSmall 8 = .ok (.iconst 1, 1) := by decide +kernel
theorem dX8_isTooSmall_9 : decode cX8_isTooSmall 9 = .ok (.goto 4, 3) := by decide +kernel
theorem dX8_isTooSmall_12 : decode cX8_isTooSmall 12 = .ok (.iconst 0, 1) := by decide +kernel
theorem dX8_isTooSmall_13 : decode cX8_isTooSmall 13 = .ok (.ireturn, 1) := by decide +kernel
theorem dX8_fits_0 : decode cX8_fits 0 = .ok (.iload_n 2, 1) := by decide +kernel
theorem dX8_fits_1 : decode cX8_fits 1 = .ok (.tableswitch 190 0 12 #[67, 73, 81, 81, 81, 81, 75, 75, 81, 81, 104, 136, 162], 67) := by decide +kernel
theorem dX8_fits_68 : decode cX8_fits 68 = .ok (.aload_n 1, 1) := by decide +kernel
theorem dX8_fits_69 : decode cX8_fits 69 = .ok (.iload_n 3, 1) := by decide +kernel
theorem dX8_fits_70 : decode cX8_fits 70 = .ok (.invokevirtual 83, 3) := by decide +kernel
theorem dX8_fits_73 : decode cX8_fits 73 = .ok (.ireturn, 1) := by decide +kernel
theorem dX8_fits_74 : decode cX8_fits 74 = .ok (.iconst 1, 1) := by decide +kernel
theorem dX8_fits_75 : decode cX8_fits 75 = .ok (.ireturn, 1) := by decide +kernel
theorem dX8_fits_76 : decode cX8_fits 76 = .ok (.aload_n 1, 1) := by decide +kernel
theorem dX8_fits_77 : decode cX8_fits 77 = .ok (.iload_n 3, 1) := by decide +kernel
theorem dX8_fits_78 : decode cX8_fits 78 = .ok (.invokevirtual 86, 3) := by decide +kernel
theorem dX8_fits_81 : decode cX8_fits 81 = .ok (.ireturn, 1) := by decide +kernel
theorem dX8_fits_82 : decode cX8_fits 82 = .ok (.aload_n 1, 1) := by decide +kernel
theorem dX8_fits_83 : decode cX8_fits 83 = .ok (.iload_n 3, 1) := by decide +kernel
theorem dX8_fits_84 : decode cX8_fits 84 = .ok (.invokevirtual 86, 3) := by decide +kernel
theorem dX8_fits_87 : decode cX8_fits 87 = .ok (.ifCond .eq 16, 3) := by decide +kernel
theorem dX8_fits_90 : decode cX8_fits 90 = .ok (.aload_n 1, 1) := by decide +kernel
theorem dX8_fits_91 : decode cX8_fits 91 = .ok (.iload 4, 2) := by decide +kernel
theorem dX8_fits_93 : decode cX8_fits 93 = .ok (.invokevirtual 86, 3) := by decide +kernel
theorem dX8_fits_96 : decode cX8_fits 96 = .ok (.ifCond .eq 7, 3) := by decide +kernel
theorem dX8_fits_99 : decode cX8_fits 99 = .ok (.iconst 1, 1) := by decide +kernel
theorem dX8_fits_100 : decode cX8_fits 100 = .ok (.goto 4, 3) := by decide +kernel
theorem dX8_fits_103 : decode cX8_fits 103 = .ok (.iconst 0, 1) := by decide +kernel
theorem dX8_fits_104 : decode cX8_fits 104 = .ok (.ireturn, 1) := by decide +kernel
theorem dX8_fits_105 : decode cX8_fits 105 = .ok (.aload_n 1, 1) := by decide +kernel
theorem dX8_fits_106 : decode cX8_fits 106 = .ok (.iload_n 3, 1) := by decide +kernel
theorem dX8_fits_107 : decode cX8_fits 107 = .ok (.invokevirtual 86, 3) := by decide +kernel
theorem dX8_fits_110 : decode cX8_fits 110 = .ok (.ifCond .eq 25, 3) := by decide +kernel
theorem dX8_fits_113 : decode cX8_fits 113 = .ok (.aload_n 1, 1) := by decide +kernel
theorem dX8_fits_114 : decode cX8_fits 114 = .ok (.iload 4, 2) := by decide +kernel
theorem dX8_fits_116 : decode cX8_fits 116 = .ok (.invokevirtual 86, 3) := by decide +kernel
theorem dX8_fits_119 : decode cX8_fits 119 = .ok (.ifCond .eq 16, 3) := by decide +kernel
theorem dX8_fits_122 : decode cX8_fits 122 = .ok (.aload_n 1, 1) := by decide +kernel
theorem dX8_fits_123 : decode cX8_fits 123 = .ok (.iload 5, 2) := by decide +kernel
theorem dX8_fits_125 : decode cX8_fits 125 = .ok (.invokevirtual 86, 3) := by decide +kernel
theorem dX8_fits_128 : decode cX8_fits 128 = .ok (.ifCond .eq 7, 3) := by decide +kernel
theorem dX8_fits_131 : decode cX8_fits 131 = .ok (.iconst 1, 1) := by decide +kernel
theorem dX8_fits_132 : decode cX8_fits 132 = .ok (.goto 4, 3) := by decide +kernel
theorem dX8_fits_135 : decode cX8_fits 135 = .ok (.iconst 0, 1) := by decide +kernel
theorem dX8_fits_136 : decode cX8_fits 136 = .ok (.ireturn, 1) := by decide +kernel
theorem dX8_fits_137 : decode cX8_fits 137 = .ok (.aload_n 1, 1) := by decide +kernel
theorem dX8_fits_138 : decode cX8_fits 138 = .ok (.iload_n 3, 1) := by decide +kernel
theorem dX8_fits_139 : decode cX8_fits 139 = .ok (.invokevirtual 86, 3) := by decide +kernel
theorem dX8_fits_142 : decode cX8_fits 142 = .ok (.ifCond .eq 19, 3) := by decide +kernel
theorem dX8_fits_145 : decode cX8_fits 145 = .ok (.iload 4, 2) := by decide +kernel
theorem dX8_fits_147 : decode cX8_fits 147 = .ok (.ifCond .lt 14, 3) := by decide +kernel
theorem dX8_fits_150 : decode cX8_fits 150 = .ok (.iload 4, 2) := by decide +kernel
theorem dX8_fits_152 : decode cX8_fits 152 = .ok (.bipush 9, 2) := by decide +kernel
theorem dX8_fits_154 : decode cX8_fits 154 = .ok (.if_icmp .gt 7, 3) := by decide +kernel
theorem dX8_fits_157 : decode cX8_fits 157 = .ok (.iconst 1, 1) := by decide +kernel
theorem dX8_fits_158 : decode cX8_fits 158 = .ok (.goto 4, 3) := by decide +kernel
theorem dX8_fits_161 : decode cX8_fits 161 = .ok (.iconst 0, 1) := by decide +kernel
theorem dX8_fits_162 : decode cX8_fits 162 = .ok (.ireturn, 1) := by decide +kernel
theorem dX8_fits_163 : decode cX8_fits 163 = .ok (.aload_n 1, 1) := by decide +kernel
theorem dX8_fits_164 : decode cX8_fits 164 = .ok (.iload_n 3, 1) := by decide +kernel
theorem dX8_fits_165 : decode cX8_fits 165 = .ok (.invokevirtual 86, 3) := by decide +kernel
theorem dX8_fits_168 : decode cX8_fits 168 = .ok (.ifCond .eq 21, 3) := by decide +kernel
theorem dX8_fits_171 : decode cX8_fits 171 = .ok (.iload 4, 2) := by decide +kernel
theorem dX8_fits_173 : decode cX8_fits 173 = .ok (.ifCond .lt 16, 3) := by decide +kernel
theorem dX8_fits_176 : decode cX8_fits 176 = .ok (.iload 4, 2) := by decide +kernel
theorem dX8_fits_178 : decode cX8_fits 178 = .ok (.aload_n 0, 1) := by decide +kernel
theorem dX8_fits_179 : decode cX8_fits 179 = .ok (.getfield 100, 3) := by decide +kernel
theorem dX8_fits_182 : decode cX8_fits 182 = .ok (.if_icmp .ge 7, 3) := by decide +kernel
theorem dX8_fits_185 : decode cX8_fits 185 = .ok (.iconst 1, 1) := by decide +kernel
theorem dX8_fits_186 : decode cX8_fits 186 = .ok (.goto 4, 3) := by decide +kernel
theorem dX8_fits_189 : decode cX8_fits 189 = .ok (.iconst 0, 1) := by decide +kernel
theorem dX8_fits_190 : decode cX8_fits 190 = .ok (.ireturn, 1) := by decide +kernel
theorem dX8_fits_191 : decode cX8_fits 191 = .ok (.iconst 0, 1) := by decide +kernel
theorem dX8_fits_192 : decode cX8_fits 192 = .ok (.ireturn, 1) := by decide +kernel
theorem dX8_advance_0 : decode cX8_advance 0 = .ok (.dload_n 2, 1) := by decide +kernel
theorem dX8_advance_1 : decode cX8_advance 1 = .ok (.dstore 7, 2) := by decide +kernel
theorem dX8_advance_3 : decode cX8_advance 3 = .ok (.iconst 0, 1) := by decide +kernel
theorem dX8_advance_4 : decode cX8_advance 4 = .ok (.istore 9, 2) := by decide +kernel
theorem dX8_advance_6 : decode cX8_advance 6 = .ok (.iload 9, 2) := by decide +kernel
theorem dX8_advance_8 : decode cX8_advance 8 = .ok (.bipush 20, 2) := by decide +kernel
theorem dX8_advance_10 : decode cX8_advance 10 = .ok (.if_icmp .ge 138, 3) := by decide +kernel
theorem dX8_advance_13 : decode cX8_advance 13 = .ok (.aload_n 0, 1) := by decide +kernel
theorem dX8_advance_14 : decode cX8_advance 14 = .ok (.getfield 49, 3) := by decide +kernel
theorem dX8_advance_17 : decode cX8_advance 17 = .ok (.aload_n 1, 1) := by decide +kernel
theorem dX8_advance_18 : decode cX8_advance 18 = .ok (.getfield 92, 3) := by decide +kernel
theorem dX8_advance_21 : decode cX8_advance 21 = .ok (.aload_n 1, 1) := by decide +kernel
theorem dX8_advance_22 : decode cX8_advance 22 = .ok (.getfield 143, 3) := by decide +kernel
theorem dX8_advance_25 : decode cX8_advance 25 = .ok (.aload_n 1, 1) := by decide +kernel
theorem dX8_advance_26 : decode cX8_advance 26 = .ok (.getfield 179, 3) := by decide +kernel
theorem dX8_advance_29 : decode cX8_advance 29 = .ok (.aload_n 1, 1) := by decide +kernel
theorem dX8_advance_30 : decode cX8_advance 30 = .ok (.getfield 127, 3) := by decide +kernel
theorem dX8_advance_33 : decode cX8_advance 33 = .ok (.dload 7, 2) := by decide +kernel
theorem dX8_advance_35 : decode cX8_advance 35 = .ok (.invokevirtual 265, 3) := by decide +kernel
theorem dX8_advance_38 : decode cX8_advance 38 = .ok (.ifCond .ne 6, 3) := by decide +kernel
theorem dX8_advance_41 : decode cX8_advance 41 = .ok (.bipush (-4), 2) := by decide +kernel
theorem dX8_advance_43 : decode cX8_advance 43 = .ok (.ireturn, 1) := by decide +kernel
theorem dX8_advance_44 : decode cX8_advance 44 = .ok (.aload_n 1, 1) := by decide +kernel
theorem dX8_advance_45 : decode cX8_advance 45 = .ok (.getfield 143, 3) := by decide +kernel
theorem dX8_advance_48 : decode cX8_advance 48 = .ok (.iconst 4, 1) := by decide +kernel
theorem dX8_advance_49 : decode cX8_advance 49 = .ok (.if_icmp .ne 18, 3) := by decide +kernel
theorem dX8_advance_52 : decode cX8_advance 52 = .ok (.aload_n 0, 1) := by decide +kernel
theorem dX8_advance_53 : decode cX8_advance 53 = .ok (.getfield 49, 3) := by decide +kernel
theorem dX8_advance_56 : decode cX8_advance 56 = .ok (.aload_n 1, 1) := by decide +kernel
theorem dX8_advance_57 : decode cX8_advance 57 = .ok (.getfield 160, 3) := by decide +kernel
theorem dX8_advance_60 : decode cX8_advance 60 = .ok (.aload_n 1, 1) := by decide +kernel
theorem dX8_advance_61 : decode cX8_advance 61 = .ok (.getfield 163, 3) := by decide +kernel
theorem dX8_advance_64 : decode cX8_advance 64 = .ok (.invokevirtual 288, 3) := by decide +kernel
theorem dX8_advance_67 : decode cX8_advance 67 = .ok (.aload_n 0, 1) := by decide +kernel
theorem dX8_advance_68 : decode cX8_advance 68 = .ok (.getfield 49, 3) := by decide +kernel
theorem dX8_advance_71 : decode cX8_advance 71 = .ok (.getfield 203, 3) := by decide +kernel
theorem dX8_advance_74 : decode cX8_advance 74 = .ok (.dconst 1, 1) := by decide +kernel
theorem dX8_advance_75 : decode cX8_advance 75 = .ok (.dcmp .g, 1) := by decide +kernel
theorem dX8_advance_76 : decode cX8_advance 76 = .ok (.ifCond .gt 21, 3) := by decide +kernel
theorem dX8_advance_79 : decode cX8_advance 79 = .ok (.aload_n 0, 1) := by decide +kernel
theorem dX8_advance_80 : decode cX8_advance 80 = .ok (.aload_n 1, 1) := by decide +kernel
theorem dX8_advance_81 : decode cX8_advance 81 = .ok (.iload 9, 2) := by decide +kernel
theorem dX8_advance_83 : decode cX8_advance 83 = .ok (.iload 4, 2) := by decide +kernel
theorem dX8_advance_85 : decode cX8_advance 85 = .ok (.dload 5, 2) := by decide +kernel
theorem dX8_advance_87 : decode cX8_advance 87 = .ok (.invokevirtual 292, 3) := by decide +kernel
theorem dX8_advance_90 : decode cX8_advance 90 = .ok (.aload_n 1, 1) := by decide +kernel
theorem dX8_advance_91 : decode cX8_advance 91 = .ok (.invokevirtual 296, 3) := by decide +kernel
theorem dX8_advance_94 : decode cX8_advance 94 = .ok (.iload 9, 2) := by decide +kernel
theorem dX8_advance_96 : decode cX8_advance 96 = .ok (.ireturn, 1) := by decide +kernel
theorem dX8_advance_97 : decode cX8_advance 97 = .ok (.aload_n 0, 1) := by decide +kernel
theorem dX8_advance_98 : decode cX8_advance 98 = .ok (.getfield 49, 3) := by decide +kernel
theorem dX8_advance_101 : decode cX8_advance 101 = .ok (.getfield 203, 3) := by decide +kernel
theorem dX8_advance_104 : decode cX8_advance 104 = .ok (.ldc2_w 299, 3) := by decide +kernel
theorem dX8_advance_107 : decode cX8_advance 107 = .ok (.dcmp .g, 1) := by decide +kernel
theorem dX8_advance_108 : decode cX8_advance 108 = .ok (.ifCond .gt 12, 3) := by decide +kernel
theorem dX8_advance_111 : decode cX8_advance 111 = .ok (.dload 7, 2) := by decide +kernel
theorem dX8_advance_113 : decode cX8_advance 113 = .ok (.ldc2_w 263, 3) := by decide +kernel
theorem dX8_advance_116 : decode cX8_advance 116 = .ok (.ddiv, 1) := by decide +kernel
theorem dX8_advance_117 : decode cX8_advance 117 = .ok (.goto 9, 3) := by decide +kernel
theorem dX8_advance_120 : decode cX8_advance 120 = .ok (.dload 7, 2) := by decide +kernel
theorem dX8_advance_122 : decode cX8_advance 122 = .ok (.ldc2_w 301, 3) := by decide +kernel
theorem dX8_advance_125 : decode cX8_advance 125 = .ok (.ddiv, 1) := by decide +kernel
theorem dX8_advance_126 : decode cX8_advance 126 = .ok (.dstore 7, 2) := by decide +kernel
theorem dX8_advance_128 : decode cX8_advance 128 = .ok (.dload 7, 2) := by decide +kernel
theorem dX8_advance_130 : decode cX8_advance 130 = .ok (.invokestatic 146, 3) := by decide +kernel
theorem dX8_advance_133 : decode cX8_advance 133 = .ok (.invokestatic 152, 3) := by decide +kernel
theorem dX8_advance_136 : decode cX8_advance 136 = .ok (.ifCond .eq 6, 3) := by decide +kernel
theorem dX8_advance_139 : decode cX8_advance 139 = .ok (.bipush (-5), 2) := by decide +kernel
theorem dX8_advance_141 : decode cX8_advance 141 = .ok (.ireturn, 1) := by decide +kernel
theorem dX8_advance_142 : decode cX8_advance 142 = .ok (.iinc 9 1, 3) := by decide +kernel
theorem dX8_advance_145 : decode cX8_advance 145 = .ok (.goto (-139), 3) := by decide +kernel
theorem dX8_advance_148 : decode cX8_advance 148 = .ok (.bipush (-5), 2) := by decide +kernel
theorem dX8_advance_150 : decode cX8_advance 150 = .ok (.ireturn, 1) := by decide +kernel
theorem dX8_finish_0 : decode cX8_finish 0 = .ok (.aload_n 1, 1) := by decide +kernel
theorem dX8_finish_1 : decode cX8_finish 1 = .ok (.aload_n 0, 1) := by decide +kernel
theorem dX8_finish_2 : decode cX8_finish 2 = .ok (.getfield 49, 3) := by decide +kernel
theorem dX8_finish_5 : decode cX8_finish 5 = .ok (.iload_n 2, 1) := by decide +kernel
theorem dX8_finish_6 : decode cX8_finish 6 = .ok (.invokevirtual 303, 3) := by decide +kernel
theorem dX8_finish_9 : decode cX8_finish 9 = .ok (.iload_n 3, 1) := by decide +kernel
theorem dX8_finish_10 : decode cX8_finish 10 = .ok (.ifCond .eq 16, 3) := by decide +kernel
theorem dX8_finish_13 : decode cX8_finish 13 = .ok (.iload_n 2, 1) := by decide +kernel
theorem dX8_finish_14 : decode cX8_finish 14 = .ok (.ifCond .ne 12, 3) := by decide +kernel
theorem dX8_finish_17 : decode cX8_finish 17 = .ok (.aload_n 1, 1) := by decide +kernel
theorem dX8_finish_18 : decode cX8_finish 18 = .ok (.dload 4, 2) := by decide +kernel
theorem dX8_finish_20 : decode cX8_finish 20 = .ok (.putfield 179, 3) := by decide +kernel
theorem dX8_finish_23 : decode cX8_finish 23 = .ok (.goto 46, 3) := by decide +kernel
theorem dX8_finish_26 : decode cX8_finish 26 = .ok (.aload_n 1, 1) := by decide +kernel
theorem dX8_finish_27 : decode cX8_finish 27 = .ok (.getfield 143, 3) := by decide +kernel
theorem dX8_finish_30 : decode cX8_finish 30 = .ok (.iconst 4, 1) := by decide +kernel
theorem dX8_finish_31 : decode cX8_finish 31 = .ok (.if_icmp .ne 38, 3) := by decide +kernel
theorem dX8_finish_34 : decode cX8_finish 34 = .ok (.aload_n 1, 1) := by decide +kernel
theorem dX8_finish_35 : decode cX8_finish 35 = .ok (.iload_n 2, 1) := by decide +kernel
theorem dX8_finish_36 : decode cX8_finish 36 = .ok (.ifCond .ne 23, 3) := by decide +kernel
theorem dX8_finish_39 : decode cX8_finish 39 = .ok (.aload_n 0, 1) := by decide +kernel
theorem dX8_finish_40 : decode cX8_finish 40 = .ok (.getfield 49, 3) := by decide +kernel
theorem dX8_finish_43 : decode cX8_finish 43 = .ok (.getfield 206, 3) := by decide +kernel
theorem dX8_finish_46 : decode cX8_finish 46 = .ok (.aload_n 0, 1) := by decide +kernel
theorem dX8_finish_47 : decode cX8_finish 47 = .ok (.getfield 49, 3) := by decide +kernel
theorem dX8_finish_50 : decode cX8_finish 50 = .ok (.getfield 203, 3) := by decide +kernel
theorem dX8_finish_53 : decode cX8_finish 53 = .ok (.invokestatic 307, 3) := by decide +kernel
theorem dX8_finish_56 : decode cX8_finish 56 = .ok (.goto 10, 3) := by decide +kernel
theorem dX8_finish_59 : decode cX8_finish 59 = .ok (.aload_n 0, 1) := by decide +kernel
theorem dX8_finish_60 : decode cX8_finish 60 = .ok (.getfield 49, 3) := by decide +kernel
theorem dX8_finish_63 : decode cX8_finish 63 = .ok (.getfield 206, 3) := by decide +kernel
theorem dX8_finish_66 : decode cX8_finish 66 = .ok (.putfield 156, 3) := by decide +kernel
theorem dX8_finish_69 : decode cX8_finish 69 = .ok (.return_, 1) := by decide +kernel
theorem dX8_grown_0 : decode cX8_grown 0 = .ok (.dload_n 0, 1) := by decide +kernel
theorem dX8_grown_1 : decode cX8_grown 1 = .ok (.dstore 4, 2) := by decide +kernel
theorem dX8_grown_3 : decode cX8_grown 3 = .ok (.dload_n 2, 1) := by decide +kernel
theorem dX8_grown_4 : decode cX8_grown 4 = .ok (.ldc2_w 311, 3) := by decide +kernel
theorem dX8_grown_7 : decode cX8_grown 7 = .ok (.dcmp .g, 1) := by decide +kernel
theorem dX8_grown_8 : decode cX8_grown 8 = .ok (.ifCond .gt 13, 3) := by decide +kernel
theorem dX8_grown_11 : decode cX8_grown 11 = .ok (.dload_n 0, 1) := by decide +kernel
theorem dX8_grown_12 : decode cX8_grown 12 = .ok (.ldc2_w 301, 3) := by decide +kernel
theorem dX8_grown_15 : decode cX8_grown 15 = .ok (.dmul, 1) := by decide +kernel
theorem dX8_grown_16 : decode cX8_grown 16 = .ok (.dstore 4, 2) := by decide +kernel
theorem dX8_grown_18 : decode cX8_grown 18 = .ok (.goto 18, 3) := by decide +kernel
theorem dX8_grown_21 : decode cX8_grown 21 = .ok (.dload_n 2, 1) := by decide +kernel
theorem dX8_grown_22 : decode cX8_grown 22 = .ok (.ldc2_w 313, 3) := by decide +kernel
theorem dX8_grown_25 : decode cX8_grown 25 = .ok (.dcmp .g, 1) := by decide +kernel
theorem dX8_grown_26 : decode cX8_grown 26 = .ok (.ifCond .gt 10, 3) := by decide +kernel
theorem dX8_grown_29 : decode cX8_grown 29 = .ok (.dload_n 0, 1) := by decide +kernel
theorem dX8_grown_30 : decode cX8_grown 30 = .ok (.ldc2_w 263, 3) := by decide +kernel
theorem dX8_grown_33 : decode cX8_grown 33 = .ok (.dmul, 1) := by decide +kernel
theorem dX8_grown_34 : decode cX8_grown 34 = .ok (.dstore 4, 2) := by decide +kernel
theorem dX8_grown_36 : decode cX8_grown 36 = .ok (.dload 4, 2) := by decide +kernel
theorem dX8_grown_38 : decode cX8_grown 38 = .ok (.ldc2_w 150, 3) := by decide +kernel
theorem dX8_grown_41 : decode cX8_grown 41 = .ok (.dcmp .l, 1) := by decide +kernel
theorem dX8_grown_42 : decode cX8_grown 42 = .ok (.ifCond .le 7, 3) := by decide +kernel
theorem dX8_grown_45 : decode cX8_grown 45 = .ok (.ldc2_w 150, 3) := by decide +kernel
theorem dX8_grown_48 : decode cX8_grown 48 = .ok (.dreturn, 1) := by decide +kernel
theorem dX8_grown_49 : decode cX8_grown 49 = .ok (.dload 4, 2) := by decide +kernel
theorem dX8_grown_51 : decode cX8_grown 51 = .ok (.ldc2_w 315, 3) := by decide +kernel
theorem dX8_grown_54 : decode cX8_grown 54 = .ok (.dcmp .g, 1) := by decide +kernel
theorem dX8_grown_55 : decode cX8_grown 55 = .ok (.ifCond .ge 9, 3) := by decide +kernel
theorem dX8_grown_58 : decode cX8_grown 58 = .ok (.ldc2_w 315, 3) := by decide +kernel
theorem dX8_grown_61 : decode cX8_grown 61 = .ok (.goto 5, 3) := by decide +kernel
theorem dX8_grown_64 : decode cX8_grown 64 = .ok (.dload 4, 2) := by decide +kernel
theorem dX8_grown_66 : decode cX8_grown 66 = .ok (.dreturn, 1) := by decide +kernel
theorem dX8_store_0 : decode cX8_store 0 = .ok (.aload_n 0, 1) := by decide +kernel
theorem dX8_store_1 : decode cX8_store 1 = .ok (.getfield 41, 3) := by decide +kernel
theorem dX8_store_4 : decode cX8_store 4 = .ok (.iload_n 2, 1) := by decide +kernel
theorem dX8_store_5 : decode cX8_store 5 = .ok (.aaload, 1) := by decide +kernel
theorem dX8_store_6 : decode cX8_store 6 = .ok (.astore_n 3, 1) := by decide +kernel
theorem dX8_store_7 : decode cX8_store 7 = .ok (.aload_n 3, 1) := by decide +kernel
theorem dX8_store_8 : decode cX8_store 8 = .ok (.ifnonnull 30, 3) := by decide +kernel
theorem dX8_store_11 : decode cX8_store 11 = .ok (.new 35, 3) := by decide +kernel
theorem dX8_store_14 : decode cX8_store 14 = .ok (.dup, 1) := by decide +kernel
theorem dX8_store_15 : decode cX8_store 15 = .ok (.aload_n 1, 1) := by decide +kernel
theorem dX8_store_16 : decode cX8_store 16 = .ok (.getfield 92, 3) := by decide +kernel
theorem dX8_store_19 : decode cX8_store 19 = .ok (.aload_n 1, 1) := by decide +kernel
theorem dX8_store_20 : decode cX8_store 20 = .ok (.getfield 179, 3) := by decide +kernel
theorem dX8_store_23 : decode cX8_store 23 = .ok (.aload_n 0, 1) := by decide +kernel
theorem dX8_store_24 : decode cX8_store 24 = .ok (.getfield 10, 3) := by decide +kernel
theorem dX8_store_27 : decode cX8_store 27 = .ok (.invokespecial 116, 3) := by decide +kernel
theorem dX8_store_30 : decode cX8_store 30 = .ok (.astore_n 3, 1) := by decide +kernel
theorem dX8_store_31 : decode cX8_store 31 = .ok (.aload_n 0, 1) := by decide +kernel
theorem dX8_store_32 : decode cX8_store 32 = .ok (.getfield 41, 3) := by decide +kernel
theorem dX8_store_35 : decode cX8_store 35 = .ok (.iload_n 2, 1) := by decide +kernel
theorem dX8_store_36 : decode cX8_store 36 = .ok (.aload_n 3, 1) := by decide +kernel
theorem dX8_store_37 : decode cX8_store 37 = .ok (.aastore, 1) := by decide +kernel
theorem dX8_store_38 : decode cX8_store 38 = .ok (.aload_n 3, 1) := by decide +kernel
theorem dX8_store_39 : decode cX8_store 39 = .ok (.aload_n 1, 1) := by decide +kernel
theorem dX8_store_40 : decode cX8_store 40 = .ok (.invokevirtual 186, 3) := by decide +kernel
theorem dX8_store_43 : decode cX8_store 43 = .ok (.aload_n 3, 1) := by decide +kernel
theorem dX8_store_44 : decode cX8_store 44 = .ok (.areturn, 1) := by decide +kernel
theorem dX9_init_0 : decode cX9_init 0 = .ok (.aload_n 0, 1) := by decide +kernel
theorem dX9_init_1 : decode cX9_init 1 = .ok (.invokespecial 3, 3) := by decide +kernel
theorem dX9_init_4 : decode cX9_init 4 = .ok (.aload_n 0, 1) := by decide +kernel
theorem dX9_init_5 : decode cX9_init 5 = .ok (.bipush 8, 2) := by decide +kernel
theorem dX9_init_7 : decode cX9_init 7 = .ok (.newarray .int, 2) := by decide +kernel
theorem dX9_init_9 : decode cX9_init 9 = .ok (.putfield 9, 3) := by decide +kernel
theorem dX9_init_12 : decode cX9_init 12 = .ok (.aload_n 0, 1) := by decide +kernel
theorem dX9_init_13 : decode cX9_init 13 = .ok (.bipush 8, 2) := by decide +kernel
theorem dX9_init_15 : decode cX9_init 15 = .ok (.newarray .int, 2) := by decide +kernel
theorem dX9_init_17 : decode cX9_init 17 = .ok (.putfield 15, 3) := by decide +kernel
theorem dX9_init_20 : decode cX9_init 20 = .ok (.aload_n 0, 1) := by decide +kernel
theorem dX9_init_21 : decode cX9_init 21 = .ok (.bipush 8, 2) := by decide +kernel
theorem dX9_init_23 : decode cX9_init 23 = .ok (.newarray .int, 2) := by decide +kernel
theorem dX9_init_25 : decode cX9_init 25 = .ok (.putfield 18, 3) := by decide +kernel
theorem dX9_init_28 : decode cX9_init 28 = .ok (.aload_n 0, 1) := by decide +kernel
theorem dX9_init_29 : decode cX9_init 29 = .ok (.bipush 48, 2) := by decide +kernel
theorem dX9_init_31 : decode cX9_init 31 = .ok (.newarray .int, 2) := by decide +kernel
theorem dX9_init_33 : decode cX9_init 33 = .ok (.putfield 21, 3) := by decide +kernel
theorem dX9_init_36 : decode cX9_init 36 = .ok (.aload_n 0, 1) := by decide +kernel
theorem dX9_init_37 : decode cX9_init 37 = .ok (.sipush 384, 3) := by decide +kernel
theorem dX9_init_40 : decode cX9_init 40 = .ok (.newarray .int, 2) := by decide +kernel
theorem dX9_init_42 : decode cX9_init 42 = .ok (.putfield 24, 3) := by decide +kernel
theorem dX9_init_45 : decode cX9_init 45 = .ok (.aload_n 0, 1) := by decide +kernel
theorem dX9_init_46 : decode cX9_init 46 = .ok (.sipush 384, 3) := by decide +kernel
theorem dX9_init_49 : decode cX9_init 49 = .ok (.newarray .int, 2) := by decide +kernel
theorem dX9_init_51 : decode cX9_init 51 = .ok (.putfield 27, 3) := by decide +kernel
theorem dX9_init_54 : decode cX9_init 54 = .ok (.aload_n 0, 1) := by decide +kernel
theorem dX9_init_55 : decode cX9_init 55 = .ok (.sipush 384, 3) := by decide +kernel
theorem dX9_init_58 : decode cX9_init 58 = .ok (.newarray .int, 2) := by decide +kernel
theorem dX9_init_60 : decode cX9_init 60 = .ok (.putfield 30, 3) := by decide +kernel
theorem dX9_init_63 : decode cX9_init 63 = .ok (.aload_n 0, 1) := by decide +kernel
theorem dX9_init_64 : decode cX9_init 64 = .ok (.sipush 384, 3) := by decide +kernel
theorem dX9_init_67 : decode cX9_init 67 = .ok (.newarray .int, 2) := by decide +kernel
theorem dX9_init_69 : decode cX9_init 69 = .ok (.putfield 33, 3) := by decide +kernel
theorem dX9_init_72 : decode cX9_init 72 = .ok (.aload_n 0, 1) := by decide +kernel
theorem dX9_init_73 : decode cX9_init 73 = .ok (.sipush 384, 3) := by decide +kernel
theorem dX9_init_76 : decode cX9_init 76 = .ok (.newarray .double, 2) := by decide +kernel
theorem dX9_init_78 : decode cX9_init 78 = .ok (.putfield 36, 3) := by decide +kernel
theorem dX9_init_81 : decode cX9_init 81 = .ok (.aload_n 0, 1) := by decide +kernel
theorem dX9_init_82 : decode cX9_init 82 = .ok (.bipush 8, 2) := by decide +kernel
theorem dX9_init_84 : decode cX9_init 84 = .ok (.newarray .int, 2) := by decide +kernel
theorem dX9_init_86 : decode cX9_init 86 = .ok (.putfield 40, 3) := by decide +kernel
theorem dX9_init_89 : decode cX9_init 89 = .ok (.aload_n 0, 1) := by decide +kernel
theorem dX9_init_90 : decode cX9_init 90 = .ok (.bipush 8, 2) := by decide +kernel
theorem dX9_init_92 : decode cX9_init 92 = .ok (.newarray .int, 2) := by decide +kernel
theorem dX9_init_94 : decode cX9_init 94 = .ok (.putfield 43, 3) := by decide +kernel
theorem dX9_init_97 : decode cX9_init 97 = .ok (.aload_n 0, 1) := by decide +kernel
theorem dX9_init_98 : decode cX9_init 98 = .ok (.sipush 128, 3) := by decide +kernel
theorem dX9_init_101 : decode cX9_init 101 = .ok (.newarray .double, 2) := by decide +kernel
theorem dX9_init_103 : decode cX9_init 103 = .ok (.putfield 46, 3) := by decide +kernel
theorem dX9_init_106 : decode cX9_init 106 = .ok (.aload_n 0, 1) := by decide +kernel
theorem dX9_init_107 : decode cX9_init 107 = .ok (.sipush 128, 3) := by decide +kernel
theorem dX9_init_110 : decode cX9_init 110 = .ok (.newarray .double, 2) := by decide +kernel
theorem dX9_init_112 : decode cX9_init 112 = .ok (.putfield 49, 3) := by decide +kernel
theorem dX9_init_115 : decode cX9_init 115 = .ok (.aload_n 0, 1) := by decide +kernel
theorem dX9_init_116 : decode cX9_init 116 = .ok (.bipush 9, 2) := by decide +kernel
theorem dX9_init_118 : decode cX9_init 118 = .ok (.newarray .int, 2) := by decide +kernel
theorem dX9_init_120 : decode cX9_init 120 = .ok (.putfield 52, 3) := by decide +kernel
theorem dX9_init_123 : decode cX9_init 123 = .ok (.aload_n 0, 1) := by decide +kernel
theorem dX9_init_124 : decode cX9_init 124 = .ok (.bipush 9, 2) := by decide +kernel
theorem dX9_init_126 : decode cX9_init 126 = .ok (.newarray .int, 2) := by decide +kernel
theorem dX9_init_128 : decode cX9_init 128 = .ok (.putfield 55, 3) := by decide +kernel
theorem dX9_init_131 : decode cX9_init 131 = .ok (.aload_n 0, 1) := by decide +kernel
theorem dX9_init_132 : decode cX9_init 132 = .ok (.bipush 9, 2) := by decide +kernel
theorem dX9_init_134 : decode cX9_init 134 = .ok (.newarray .int, 2) := by decide +kernel
theorem dX9_init_136 : decode cX9_init 136 = .ok (.putfield 58, 3) := by decide +kernel
theorem dX9_init_139 : decode cX9_init 139 = .ok (.aload_n 0, 1) := by decide +kernel
theorem dX9_init_140 : decode cX9_init 140 = .ok (.bipush 9, 2) := by decide +kernel
theorem dX9_init_142 : decode cX9_init 142 = .ok (.newarray .int, 2) := by decide +kernel
theorem dX9_init_144 : decode cX9_init 144 = .ok (.putfield 61, 3) := by decide +kernel
theorem dX9_init_147 : decode cX9_init 147 = .ok (.aload_n 0, 1) := by decide +kernel
theorem dX9_init_148 : decode cX9_init 148 = .ok (.bipush 9, 2) := by decide +kernel
theorem dX9_init_150 : decode cX9_init 150 = .ok (.newarray .int, 2) := by decide +kernel
theorem dX9_init_152 : decode cX9_init 152 = .ok (.putfield 64, 3) := by decide +kernel
theorem dX9_init_155 : decode cX9_init 155 = .ok (.aload_n 0, 1) := by decide +kernel
theorem dX9_init_156 : decode cX9_init 156 = .ok (.bipush 9, 2) := by decide +kernel
theorem dX9_init_158 : decode cX9_init 158 = .ok (.newarray .int, 2) := by decide +kernel
theorem dX9_init_160 : decode cX9_init 160 = .ok (.putfield 67, 3) := by decide +kernel
theorem dX9_init_163 : decode cX9_init 163 = .ok (.aload_n 0, 1) := by decide +kernel
theorem dX9_init_164 : decode cX9_init 164 = .ok (.bipush 9, 2) := by decide +kernel
theorem dX9_init_166 : decode cX9_init 166 = .ok (.newarray .int, 2) := by decide +kernel
theorem dX9_init_168 : decode cX9_init 168 = .ok (.putfield 70, 3) := by decide +kernel
theorem dX9_init_171 : decode cX9_init 171 = .ok (.aload_n 0, 1) := by decide +kernel
theorem dX9_init_172 : decode cX9_init 172 = .ok (.bipush 9, 2) := by decide +kernel
theorem dX9_init_174 : decode cX9_init 174 = .ok (.newarray .boolean, 2) := by decide +kernel
theorem dX9_init_176 : decode cX9_init 176 = .ok (.putfield 73, 3) := by decide +kernel
theorem dX9_init_179 : decode cX9_init 179 = .ok (.aload_n 0, 1) := by decide +kernel
theorem dX9_init_180 : decode cX9_init 180 = .ok (.bipush 9, 2) := by decide +kernel
theorem dX9_init_182 : decode cX9_init 182 = .ok (.newarray .boolean, 2) := by decide +kernel
theorem dX9_init_184 : decode cX9_init 184 = .ok (.putfield 77, 3) := by decide +kernel
theorem dX9_init_187 : decode cX9_init 187 = .ok (.aload_n 0, 1) := by decide +kernel
theorem dX9_init_188 : decode cX9_init 188 = .ok (.iconst 4, 1) := by decide +kernel
theorem dX9_init_189 : decode cX9_init 189 = .ok (.newarray .boolean, 2) := by decide +kernel
theorem dX9_init_191 : decode cX9_init 191 = .ok (.putfield 80, 3) := by decide +kernel
theorem dX9_init_194 : decode cX9_init 194 = .ok (.aload_n 0, 1) := by decide +kernel
theorem dX9_init_195 : decode cX9_init 195 = .ok (.bipush 9, 2) := by decide +kernel
theorem dX9_init_197 : decode cX9_init 197 = .ok (.newarray .double, 2) := by decide +kernel
theorem dX9_init_199 : decode cX9_init 199 = .ok (.putfield 83, 3) := by decide +kernel
theorem dX9_init_202 : decode cX9_init 202 = .ok (.aload_n 0, 1) := by decide +kernel
theorem dX9_init_203 : decode cX9_init 203 = .ok (.bipush 9, 2) := by decide +kernel
theorem dX9_init_205 : decode cX9_init 205 = .ok (.newarray .double, 2) := by decide +kernel
theorem dX9_init_207 : decode cX9_init 207 = .ok (.putfield 86, 3) := by decide +kernel
theorem dX9_init_210 : decode cX9_init 210 = .ok (.aload_n 0, 1) := by decide +kernel
theorem dX9_init_211 : decode cX9_init 211 = .ok (.bipush 9, 2) := by decide +kernel
theorem dX9_init_213 : decode cX9_init 213 = .ok (.newarray .double, 2) := by decide +kernel
theorem dX9_init_215 : decode cX9_init 215 = .ok (.putfield 89, 3) := by decide +kernel
theorem dX9_init_218 : decode cX9_init 218 = .ok (.aload_n 0, 1) := by decide +kernel
theorem dX9_init_219 : decode cX9_init 219 = .ok (.bipush 9, 2) := by decide +kernel
theorem dX9_init_221 : decode cX9_init 221 = .ok (.newarray .double, 2) := by decide +kernel
theorem dX9_init_223 : decode cX9_init 223 = .ok (.putfield 92, 3) := by decide +kernel
theorem dX9_init_226 : decode cX9_init 226 = .ok (.aload_n 0, 1) := by decide +kernel
theorem dX9_init_227 : decode cX9_init 227 = .ok (.bipush 9, 2) := by decide +kernel
theorem dX9_init_229 : decode cX9_init 229 = .ok (.newarray .double, 2) := by decide +kernel
theorem dX9_init_231 : decode cX9_init 231 = .ok (.putfield 95, 3) := by decide +kernel
theorem dX9_init_234 : decode cX9_init 234 = .ok (.aload_n 0, 1) := by decide +kernel
theorem dX9_init_235 : decode cX9_init 235 = .ok (.bipush 54, 2) := by decide +kernel
theorem dX9_init_237 : decode cX9_init 237 = .ok (.newarray .double, 2) := by decide +kernel
theorem dX9_init_239 : decode cX9_init 239 = .ok (.putfield 98, 3) := by decide +kernel
theorem dX9_init_242 : decode cX9_init 242 = .ok (.aload_n 0, 1) := by decide +kernel
theorem dX9_init_243 : decode cX9_init 243 = .ok (.bipush 36, 2) := by decide +kernel
theorem dX9_init_245 : decode cX9_init 245 = .ok (.newarray .int, 2) := by decide +kernel
theorem dX9_init_247 : decode cX9_init 247 = .ok (.putfield 101, 3) := by decide +kernel
theorem dX9_init_250 : decode cX9_init 250 = .ok (.aload_n 0, 1) := by decide +kernel
theorem dX9_init_251 : decode cX9_init 251 = .ok (.bipush 36, 2) := by decide +kernel
theorem dX9_init_253 : decode cX9_init 253 = .ok (.newarray .int, 2) := by decide +kernel
theorem dX9_init_255 : decode cX9_init 255 = .ok (.putfield 104, 3) := by decide +kernel
theorem dX9_init_258 : decode cX9_init 258 = .ok (.aload_n 0, 1) := by decide +kernel
theorem dX9_init_259 : decode cX9_init 259 = .ok (.bipush 36, 2) := by decide +kernel
theorem dX9_init_261 : decode cX9_init 261 = .ok (.newarray .int, 2) := by decide +kernel
theorem dX9_init_263 : decode cX9_init 263 = .ok (.putfield 107, 3) := by decide +kernel
theorem dX9_init_266 : decode cX9_init 266 = .ok (.aload_n 0, 1) := by decide +kernel
theorem dX9_init_267 : decode cX9_init 267 = .ok (.bipush 36, 2) := by decide +kernel
theorem dX9_init_269 : decode cX9_init 269 = .ok (.newarray .int, 2) := by decide +kernel
theorem dX9_init_271 : decode cX9_init 271 = .ok (.putfield 110, 3) := by decide +kernel
theorem dX9_init_274 : decode cX9_init 274 = .ok (.aload_n 0, 1) := by decide +kernel
theorem dX9_init_275 : decode cX9_init 275 = .ok (.sipush 576, 3) := by decide +kernel
theorem dX9_init_278 : decode cX9_init 278 = .ok (.newarray .int, 2) := by decide +kernel
theorem dX9_init_280 : decode cX9_init 280 = .ok (.putfield 113, 3) := by decide +kernel
theorem dX9_init_283 : decode cX9_init 283 = .ok (.aload_n 0, 1) := by decide +kernel
theorem dX9_init_284 : decode cX9_init 284 = .ok (.sipush 576, 3) := by decide +kernel
theorem dX9_init_287 : decode cX9_init 287 = .ok (.newarray .double, 2) := by decide +kernel
theorem dX9_init_289 : decode cX9_init 289 = .ok (.putfield 116, 3) := by decide +kernel
theorem dX9_init_292 : decode cX9_init 292 = .ok (.aload_n 0, 1) := by decide +kernel
theorem dX9_init_293 : decode cX9_init 293 = .ok (.bipush 9, 2) := by decide +kernel
theorem dX9_init_295 : decode cX9_init 295 = .ok (.newarray .int, 2) := by decide +kernel
theorem dX9_init_297 : decode cX9_init 297 = .ok (.putfield 119, 3) := by decide +kernel
theorem dX9_init_300 : decode cX9_init 300 = .ok (.aload_n 0, 1) := by decide +kernel
theorem dX9_init_301 : decode cX9_init 301 = .ok (.bipush 9, 2) := by decide +kernel
theorem dX9_init_303 : decode cX9_init 303 = .ok (.newarray .double, 2) := by decide +kernel
theorem dX9_init_305 : decode cX9_init 305 = .ok (.putfield 122, 3) := by decide +kernel
theorem dX9_init_308 : decode cX9_init 308 = .ok (.aload_n 0, 1) := by decide +kernel
theorem dX9_init_309 : decode cX9_init 309 = .ok (.bipush 9, 2) := by decide +kernel
theorem dX9_init_311 : decode cX9_init 311 = .ok (.newarray .double, 2) := by decide +kernel
theorem dX9_init_313 : decode cX9_init 313 = .ok (.putfield 125, 3) := by decide +kernel
theorem dX9_init_316 : decode cX9_init 316 = .ok (.aload_n 0, 1) := by decide +kernel
theorem dX9_init_317 : decode cX9_init 317 = .ok (.bipush 54, 2) := by decide +kernel
theorem dX9_init_319 : decode cX9_init 319 = .ok (.newarray .double, 2) := by decide +kernel
theorem dX9_init_321 : decode cX9_init 321 = .ok (.putfield 128, 3) := by decide +kernel
theorem dX9_init_324 : decode cX9_init 324 = .ok (.aload_n 0, 1) := by decide +kernel
theorem dX9_init_325 : decode cX9_init 325 = .ok (.bipush 54, 2) := by decide +kernel
theorem dX9_init_327 : decode cX9_init 327 = .ok (.newarray .double, 2) := by decide +kernel
theorem dX9_init_329 : decode cX9_init 329 = .ok (.putfield 131, 3) := by decide +kernel
theorem dX9_init_332 : decode cX9_init 332 = .ok (.aload_n 0, 1) := by decide +kernel
theorem dX9_init_333 : decode cX9_init 333 = .ok (.bipush 54, 2) := by decide +kernel
theorem dX9_init_335 : decode cX9_init 335 = .ok (.newarray .double, 2) := by decide +kernel
theorem dX9_init_337 : decode cX9_init 337 = .ok (.putfield 134, 3) := by decide +kernel
theorem dX9_init_340 : decode cX9_init 340 = .ok (.aload_n 0, 1) := by decide +kernel
theorem dX9_init_341 : decode cX9_init 341 = .ok (.bipush 54, 2) := by decide +kernel
theorem dX9_init_343 : decode cX9_init 343 = .ok (.newarray .double, 2) := by decide +kernel
theorem dX9_init_345 : decode cX9_init 345 = .ok (.putfield 137, 3) := by decide +kernel
theorem dX9_init_348 : decode cX9_init 348 = .ok (.aload_n 0, 1) := by decide +kernel
theorem dX9_init_349 : decode cX9_init 349 = .ok (.sipush 270, 3) := by decide +kernel
theorem dX9_init_352 : decode cX9_init 352 = .ok (.newarray .double, 2) := by decide +kernel
theorem dX9_init_354 : decode cX9_init 354 = .ok (.putfield 140, 3) := by decide +kernel
theorem dX9_init_357 : decode cX9_init 357 = .ok (.aload_n 0, 1) := by decide +kernel
theorem dX9_init_358 : decode cX9_init 358 = .ok (.bipush 48, 2) := by decide +kernel
theorem dX9_init_360 : decode cX9_init 360 = .ok (.newarray .double, 2) := by decide +kernel
theorem dX9_init_362 : decode cX9_init 362 = .ok (.putfield 143, 3) := by decide +kernel
theorem dX9_init_365 : decode cX9_init 365 = .ok (.aload_n 0, 1) := by decide +kernel
theorem dX9_init_366 : decode cX9_init 366 = .ok (.bipush 6, 2) := by decide +kernel
theorem dX9_init_368 : decode cX9_init 368 = .ok (.newarray .double, 2) := by decide +kernel
theorem dX9_init_370 : decode cX9_init 370 = .ok (.putfield 146, 3) := by decide +kernel
theorem dX9_init_373 : decode cX9_init 373 = .ok (.aload_n 0, 1) := by decide +kernel
theorem dX9_init_374 : decode cX9_init 374 = .ok (.bipush 6, 2) := by decide +kernel
theorem dX9_init_376 : decode cX9_init 376 = .ok (.newarray .double, 2) := by decide +kernel
theorem dX9_init_378 : decode cX9_init 378 = .ok (.putfield 149, 3) := by decide +kernel
theorem dX9_init_381 : decode cX9_init 381 = .ok (.aload_n 0, 1) := by decide +kernel
theorem dX9_init_382 : decode cX9_init 382 = .ok (.bipush 6, 2) := by decide +kernel
theorem dX9_init_384 : decode cX9_init 384 = .ok (.newarray .double, 2) := by decide +kernel
theorem dX9_init_386 : decode cX9_init 386 = .ok (.putfield 152, 3) := by decide +kernel
theorem dX9_init_389 : decode cX9_init 389 = .ok (.aload_n 0, 1) := by decide +kernel
theorem dX9_init_390 : decode cX9_init 390 = .ok (.bipush 6, 2) := by decide +kernel
theorem dX9_init_392 : decode cX9_init 392 = .ok (.newarray .double, 2) := by decide +kernel
theorem dX9_init_394 : decode cX9_init 394 = .ok (.putfield 155, 3) := by decide +kernel
theorem dX9_init_397 : decode cX9_init 397 = .ok (.aload_n 0, 1) := by decide +kernel
theorem dX9_init_398 : decode cX9_init 398 = .ok (.bipush 6, 2) := by decide +kernel
theorem dX9_init_400 : decode cX9_init 400 = .ok (.newarray .double, 2) := by decide +kernel
theorem dX9_init_402 : decode cX9_init 402 = .ok (.putfield 158, 3) := by decide +kernel
theorem dX9_init_405 : decode cX9_init 405 = .ok (.aload_n 0, 1) := by decide +kernel
theorem dX9_init_406 : decode cX9_init 406 = .ok (.bipush 6, 2) := by decide +kernel
theorem dX9_init_408 : decode cX9_init 408 = .ok (.newarray .double, 2) := by decide +kernel
theorem dX9_init_410 : decode cX9_init 410 = .ok (.putfield 161, 3) := by decide +kernel
theorem dX9_init_413 : decode cX9_init 413 = .ok (.aload_n 0, 1) := by decide +kernel
theorem dX9_init_414 : decode cX9_init 414 = .ok (.bipush 6, 2) := by decide +kernel
theorem dX9_init_416 : decode cX9_init 416 = .ok (.newarray .double, 2) := by decide +kernel
theorem dX9_init_418 : decode cX9_init 418 = .ok (.putfield 164, 3) := by decide +kernel
theorem dX9_init_421 : decode cX9_init 421 = .ok (.aload_n 0, 1) := by decide +kernel
theorem dX9_init_422 : decode cX9_init 422 = .ok (.bipush 6, 2) := by decide +kernel
theorem dX9_init_424 : decode cX9_init 424 = .ok (.newarray .double, 2) := by decide +kernel
theorem dX9_init_426 : decode cX9_init 426 = .ok (.putfield 167, 3) := by decide +kernel
theorem dX9_init_429 : decode cX9_init 429 = .ok (.aload_n 0, 1) := by decide +kernel
theorem dX9_init_430 : decode cX9_init 430 = .ok (.bipush 6, 2) := by decide +kernel
theorem dX9_init_432 : decode cX9_init 432 = .ok (.newarray .double, 2) := by decide +kernel
theorem dX9_init_434 : decode cX9_init 434 = .ok (.putfield 170, 3) := by decide +kernel
theorem dX9_init_437 : decode cX9_init 437 = .ok (.aload_n 0, 1) := by decide +kernel
theorem dX9_init_438 : decode cX9_init 438 = .ok (.bipush 6, 2) := by decide +kernel
theorem dX9_init_440 : decode cX9_init 440 = .ok (.newarray .double, 2) := by decide +kernel
theorem dX9_init_442 : decode cX9_init 442 = .ok (.putfield 173, 3) := by decide +kernel
theorem dX9_init_445 : decode cX9_init 445 = .ok (.aload_n 0, 1) := by decide +kernel
theorem dX9_init_446 : decode cX9_init 446 = .ok (.bipush 6, 2) := by decide +kernel
theorem dX9_init_448 : decode cX9_init 448 = .ok (.newarray .double, 2) := by decide +kernel
theorem dX9_init_450 : decode cX9_init 450 = .ok (.putfield 176, 3) := by decide +kernel
theorem dX9_init_453 : decode cX9_init 453 = .ok (.aload_n 0, 1) := by decide +kernel
theorem dX9_init_454 : decode cX9_init 454 = .ok (.iconst 4, 1) := by decide +kernel
theorem dX9_init_455 : decode cX9_init 455 = .ok (.newarray .double, 2) := by decide +kernel
theorem dX9_init_457 : decode cX9_init 457 = .ok (.putfield 179, 3) := by decide +kernel
theorem dX9_init_460 : decode cX9_init 460 = .ok (.aload_n 0, 1) := by decide +kernel
theorem dX9_init_461 : decode cX9_init 461 = .ok (.iconst 4, 1) := by decide +kernel
theorem dX9_init_462 : decode cX9_init 462 = .ok (.newarray .boolean, 2) := by decide +kernel
theorem dX9_init_464 : decode cX9_init 464 = .ok (.putfield 182, 3) := by decide +kernel
theorem dX9_init_467 : decode cX9_init 467 = .ok (.iconst 0, 1) := by decide +kernel
theorem dX9_init_468 : decode cX9_init 468 = .ok (.istore_n 1, 1) := by decide +kernel
theorem dX9_init_469 : decode cX9_init 469 = .ok (.iload_n 1, 1) := by decide +kernel
theorem dX9_init_470 : decode cX9_init 470 = .ok (.bipush 48, 2) := by decide +kernel
theorem dX9_init_472 : decode cX9_init 472 = .ok (.if_icmp .ge 16, 3) := by decide +kernel
theorem dX9_init_475 : decode cX9_init 475 = .ok (.aload_n 0, 1) := by decide +kernel
theorem dX9_init_476 : decode cX9_init 476 = .ok (.getfield 21, 3) := by decide +kernel
theorem dX9_init_479 : decode cX9_init 479 = .ok (.iload_n 1, 1) := by decide +kernel
theorem dX9_init_480 : decode cX9_init 480 = .ok (.iconst (-1), 1) := by decide +kernel
theorem dX9_init_481 : decode cX9_init 481 = .ok (.iastore, 1) := by decide +kernel
theorem dX9_init_482 : decode cX9_init 482 = .ok (.iinc 1 1, 3) := by decide +kernel
theorem dX9_init_485 : decode cX9_init 485 = .ok (.goto (-16), 3) := by decide +kernel
theorem dX9_init_488 : decode cX9_init 488 = .ok (.return_, 1) := by decide +kernel
theorem dX9_in_0 : decode cX9_in 0 = .ok (.iload_n 0, 1) := by decide +kernel
theorem dX9_in_1 : decode cX9_in 1 = .ok (.iload_n 1, 1) := by decide +kernel
theorem dX9_in_2 : decode cX9_in 2 = .ok (.if_icmp .lt 12, 3) := by decide +kernel
theorem dX9_in_5 : decode cX9_in 5 = .ok (.iload_n 0, 1) := by decide +kernel
theorem dX9_in_6 : decode cX9_in 6 = .ok (.iload_n 2, 1) := by decide +kernel
theorem dX9_in_7 : decode cX9_in 7 = .ok (.if_icmp .gt 7, 3) := by decide +kernel
theorem dX9_in_10 : decode cX9_in 10 = .ok (.iconst 1, 1) := by decide +kernel
theorem dX9_in_11 : decode cX9_in 11 = .ok (.goto 4, 3) := by decide +kernel
theorem dX9_in_14 : decode cX9_in 14 = .ok (.iconst 0, 1) := by decide +kernel
theorem dX9_in_15 : decode cX9_in 15 = .ok (.ireturn, 1) := by decide +kernel
theorem dX9_number_0 : decode cX9_number 0 = .ok (.lload_n 0, 1) := by decide +kernel
theorem dX9_number_1 : decode cX9_number 1 = .ok (.l2d, 1) := by decide +kernel
theorem dX9_number_2 : decode cX9_number 2 = .ok (.lconst 1, 1) := by decide +kernel
theorem dX9_number_3 : decode cX9_number 3 = .ok (.iload_n 2, 1) := by decide +kernel
theorem dX9_number_4 : decode cX9_number 4 = .ok (.lshl, 1) := by decide +kernel
theorem dX9_number_5 : decode cX9_number 5 = .ok (.l2d, 1) := by decide +kernel
theorem dX9_number_6 : decode cX9_number 6 = .ok (.ddiv, 1) := by decide +kernel
theorem dX9_number_7 : decode cX9_number 7 = .ok (.dreturn, 1) := by decide +kernel
theorem dX9_isFinite_0 : decode cX9_isFinite 0 = .ok (.dload_n 0, 1) := by decide +kernel
theorem dX9_isFinite_1 : decode cX9_isFinite 1 = .ok (.ldc2_w 185, 3) := by decide +kernel
theorem dX9_isFinite_4 : decode cX9_isFinite 4 = .ok (.dcmp .l, 1) := by decide +kernel
theorem dX9_isFinite_5 : decode cX9_isFinite 5 = .ok (.ifCond .lt 15, 3) := by decide +kernel
theorem dX9_isFinite_8 : decode cX9_isFinite 8 = .ok (.dload_n 0, 1) := by decide +kernel
theorem dX9_isFinite_9 : decode cX9_isFinite 9 = .ok (.ldc2_w 187, 3) := by decide +kernel
theorem dX9_isFinite_12 : decode cX9_isFinite 12 = .ok (.dcmp .g, 1) := by decide +kernel
theorem dX9_isFinite_13 : decode cX9_isFinite 13 = .ok (.ifCond .gt 7, 3) := by decide +kernel
theorem dX9_isFinite_16 : decode cX9_isFinite 16 = .ok (.iconst 1, 1) := by decide +kernel
theorem dX9_isFinite_17 : decode cX9_isFinite 17 = .ok (.goto 4, 3) := by decide +kernel
theorem dX9_isFinite_20 : decode cX9_isFinite 20 = .ok (.iconst 0, 1) := by decide +kernel
theorem dX9_isFinite_21 : decode cX9_isFinite 21 = .ok (.ireturn, 1) := by decide +kernel
theorem dX9_isNumber_0 : decode cX9_isNumber 0 = .ok (.dload_n 0, 1) := by decide +kernel
theorem dX9_isNumber_1 : decode cX9_isNumber 1 = .ok (.dload_n 0, 1) := by decide +kernel
theorem dX9_isNumber_2 : decode cX9_isNumber 2 = .ok (.dcmp .l, 1) := by decide +kernel
theorem dX9_isNumber_3 : decode cX9_isNumber 3 = .ok (.ifCond .ne 7, 3) := by decide +kernel
theorem dX9_isNumber_6 : decode cX9_isNumber 6 = .ok (.iconst 1, 1) := by decide +kernel
theorem dX9_isNumber_7 : decode cX9_isNumber 7 = .ok (.goto 4, 3) := by decide +kernel
theorem dX9_isNumber_10 : decode cX9_isNumber 10 = .ok (.iconst 0, 1) := by decide +kernel
theorem dX9_isNumber_11 : decode cX9_isNumber 11 = .ok (.ireturn, 1) := by decide +kernel
theorem dX9_plus_0 : decode cX9_plus 0 = .ok (.dload_n 0, 1) := by decide +kernel
theorem dX9_plus_1 : decode cX9_plus 1 = .ok (.invokestatic 189, 3) := by decide +kernel
theorem dX9_plus_4 : decode cX9_plus 4 = .ok (.ifCond .eq 30, 3) := by decide +kernel
theorem dX9_plus_7 : decode cX9_plus 7 = .ok (.dload_n 2, 1) := by decide +kernel
theorem dX9_plus_8 : decode cX9_plus 8 = .ok (.invokestatic 189, 3) := by decide +kernel
theorem dX9_plus_11 : decode cX9_plus 11 = .ok (.ifCond .eq 23, 3) := by decide +kernel
theorem dX9_plus_14 : decode cX9_plus 14 = .ok (.dload_n 0, 1) := by decide +kernel
theorem dX9_plus_15 : decode cX9_plus 15 = .ok (.invokestatic 193, 3) := by decide +kernel
theorem dX9_plus_18 : decode cX9_plus 18 = .ok (.ifCond .ne 20, 3) := by decide +kernel
theorem dX9_plus_21 : decode cX9_plus 21 = .ok (.dload_n 2, 1) := by decide +kernel
theorem dX9_plus_22 : decode cX9_plus 22 = .ok (.invokestatic 193, 3) := by decide +kernel
theorem dX9_plus_25 : decode cX9_plus 25 = .ok (.ifCond .ne 13, 3) := by decide +kernel
theorem dX9_plus_28 : decode cX9_plus 28 = .ok (.dload_n 0, 1) := by decide +kernel
theorem dX9_plus_29 : decode cX9_plus 29 = .ok (.dload_n 2, 1) := by decide +kernel
theorem dX9_plus_30 : decode cX9_plus 30 = .ok (.dcmp .l, 1) := by decide +kernel
theorem dX9_plus_31 : decode cX9_plus 31 = .ok (.ifCond .eq 7, 3) := by decide +kernel
theorem dX9_plus_34 : decode cX9_plus 34 = .ok (.iconst 1, 1) := by decide +kernel
theorem dX9_plus_35 : decode cX9_plus 35 = .ok (.goto 4, 3) := by decide +kernel
theorem dX9_plus_38 : decode cX9_plus 38 = .ok (.iconst 0, 1) := by decide +kernel
theorem dX9_plus_39 : decode cX9_plus 39 = .ok (.istore 4, 2) := by decide +kernel
theorem dX9_plus_41 : decode cX9_plus 41 = .ok (.iload 4, 2) := by decide +kernel
theorem dX9_plus_43 : decode cX9_plus 43 = .ok (.ifCond .eq 9, 3) := by decide +kernel
theorem dX9_plus_46 : decode cX9_plus 46 = .ok (.ldc2_w 196, 3) := by decide +kernel
theorem dX9_plus_49 : decode cX9_plus 49 = .ok (.goto 6, 3) := by decide +kernel
theorem dX9_plus_52 : decode cX9_plus 52 = .ok (.dload_n 0, 1) := by decide +kernel
theorem dX9_plus_53 : decode cX9_plus 53 = .ok (.dload_n 2, 1) := by decide +kernel
theorem dX9_plus_54 : decode cX9_plus 54 = .ok (.dadd, 1) := by decide +kernel
theorem dX9_plus_55 : decode cX9_plus 55 = .ok (.dreturn, 1) := by decide +kernel
theorem dX9_less_0 : decode cX9_less 0 = .ok (.dload_n 0, 1) := by decide +kernel
theorem dX9_less_1 : decode cX9_less 1 = .ok (.invokestatic 189, 3) := by decide +kernel
theorem dX9_less_4 : decode cX9_less 4 = .ok (.ifCond .eq 23, 3) := by decide +kernel
theorem dX9_less_7 : decode cX9_less 7 = .ok (.dload_n 2, 1) := by decide +kernel
theorem dX9_less_8 : decode cX9_less 8 = .ok (.invokestatic 189, 3) := by decide +kernel
theorem dX9_less_11 : decode cX9_less 11 = .ok (.ifCond .eq 16, 3) := by decide +kernel
theorem dX9_less_14 : decode cX9_less 14 = .ok (.dload_n 0, 1) := by decide +kernel
theorem dX9_less_15 : decode cX9_less 15 = .ok (.invokestatic 193, 3) := by decide +kernel
theorem dX9_less_18 : decode cX9_less 18 = .ok (.ifCond .ne 13, 3) := by decide +kernel
theorem dX9_less_21 : decode cX9_less 21 = .ok (.dload_n 0, 1) := by decide +kernel
theorem dX9_less_22 : decode cX9_less 22 = .ok (.dload_n 2, 1) := by decide +kernel
theorem dX9_less_23 : decode cX9_less 23 = .ok (.dcmp .l, 1) := by decide +kernel
theorem dX9_less_24 : decode cX9_less 24 = .ok (.ifCond .ne 7, 3) := by decide +kernel
theorem dX9_less_27 : decode cX9_less 27 = .ok (.iconst 1, 1) := by decide +kernel
theorem dX9_less_28 : decode cX9_less 28 = .ok (.goto 4, 3) := by decide +kernel
theorem dX9_less_31 : decode cX9_less 31 = .ok (.iconst 0, 1) := by decide +kernel
theorem dX9_less_32 : decode cX9_less 32 = .ok (.istore 4, 2) := by decide +kernel
theorem dX9_less_34 : decode cX9_less 34 = .ok (.iload 4, 2) := by decide +kernel
theorem dX9_less_36 : decode cX9_less 36 = .ok (.ifCond .eq 9, 3) := by decide +kernel
theorem dX9_less_39 : decode cX9_less 39 = .ok (.ldc2_w 196, 3) := by decide +kernel
theorem dX9_less_42 : decode cX9_less 42 = .ok (.goto 6, 3) := by decide +kernel
theorem dX9_less_45 : decode cX9_less 45 = .ok (.dload_n 0, 1) := by decide +kernel
theorem dX9_less_46 : decode cX9_less 46 = .ok (.dload_n 2, 1) := by decide +kernel
theorem dX9_less_47 : decode cX9_less 47 = .ok (.dsub, 1) := by decide +kernel
theorem dX9_less_48 : decode cX9_less 48 = .ok (.dreturn, 1) := by decide +kernel
theorem dX9_times_0 : decode cX9_times 0 = .ok (.dload_n 0, 1) := by decide +kernel
theorem dX9_times_1 : decode cX9_times 1 = .ok (.invokestatic 189, 3) := by decide +kernel
theorem dX9_times_4 : decode cX9_times 4 = .ok (.ifCond .eq 36, 3) := by decide +kernel
theorem dX9_times_7 : decode cX9_times 7 = .ok (.dload_n 2, 1) := by decide +kernel
theorem dX9_times_8 : decode cX9_times 8 = .ok (.invokestatic 189, 3) := by decide +kernel
theorem dX9_times_11 : decode cX9_times 11 = .ok (.ifCond .eq 29, 3) := by decide +kernel
theorem dX9_times_14 : decode cX9_times 14 = .ok (.dload_n 0, 1) := by decide +kernel
theorem dX9_times_15 : decode cX9_times 15 = .ok (.dconst 0, 1) := by decide +kernel
theorem dX9_times_16 : decode cX9_times 16 = .ok (.dcmp .l, 1) := by decide +kernel
theorem dX9_times_17 : decode cX9_times 17 = .ok (.ifCond .ne 10, 3) := by decide +kernel
theorem dX9_times_20 : decode cX9_times 20 = .ok (.dload_n 2, 1) := by decide +kernel
theorem dX9_times_21 : decode cX9_times 21 = .ok (.invokestatic 193, 3) := by decide +kernel
theorem dX9_times_24 : decode cX9_times 24 = .ok (.ifCond .eq 16, 3) := by decide +kernel
theorem dX9_times_27 : decode cX9_times 27 = .ok (.dload_n 2, 1) := by decide +kernel
theorem dX9_times_28 : decode cX9_times 28 = .ok (.dconst 0, 1) := by decide +kernel
theorem dX9_times_29 : decode cX9_times 29 = .ok (.dcmp .l, 1) := by decide +kernel
theorem dX9_times_30 : decode cX9_times 30 = .ok (.ifCond .ne 14, 3) := by decide +kernel
theorem dX9_times_33 : decode cX9_times 33 = .ok (.dload_n 0, 1) := by decide +kernel
theorem dX9_times_34 : decode cX9_times 34 = .ok (.invokestatic 193, 3) := by decide +kernel
theorem dX9_times_37 : decode cX9_times 37 = .ok (.ifCond .ne 7, 3) := by decide +kernel
theorem dX9_times_40 : decode cX9_times 40 = .ok (.iconst 1, 1) := by decide +kernel
theorem dX9_times_41 : decode cX9_times 41 = .ok (.goto 4, 3) := by decide +kernel
theorem dX9_times_44 : decode cX9_times 44 = .ok (.iconst 0, 1) := by decide +kernel
theorem dX9_times_45 : decode cX9_times 45 = .ok (.istore 4, 2) := by decide +kernel
theorem dX9_times_47 : decode cX9_times 47 = .ok (.iload 4, 2) := by decide +kernel
theorem dX9_times_49 : decode cX9_times 49 = .ok (.ifCond .eq 9, 3) := by decide +kernel
theorem dX9_times_52 : decode cX9_times 52 = .ok (.ldc2_w 196, 3) := by decide +kernel
theorem dX9_times_55 : decode cX9_times 55 = .ok (.goto 6, 3) := by decide +kernel
theorem dX9_times_58 : decode cX9_times 58 = .ok (.dload_n 0, 1) := by decide +kernel
theorem dX9_times_59 : decode cX9_times 59 = .ok (.dload_n 2, 1) := by decide +kernel
theorem dX9_times_60 : decode cX9_times 60 = .ok (.dmul, 1) := by decide +kernel
theorem dX9_times_61 : decode cX9_times 61 = .ok (.dreturn, 1) := by decide +kernel
theorem dX9_by_0 : decode cX9_by 0 = .ok (.dload_n 0, 1) := by decide +kernel
theorem dX9_by_1 : decode cX9_by 1 = .ok (.invokestatic 189, 3) := by decide +kernel
theorem dX9_by_4 : decode cX9_by 4 = .ok (.ifCond .eq 36, 3) := by decide +kernel
theorem dX9_by_7 : decode cX9_by 7 = .ok (.dload_n 2, 1) := by decide +kernel
theorem dX9_by_8 : decode cX9_by 8 = .ok (.invokestatic 189, 3) := by decide +kernel
theorem dX9_by_11 : decode cX9_by 11 = .ok (.ifCond .eq 29, 3) := by decide +kernel
theorem dX9_by_14 : decode cX9_by 14 = .ok (.dload_n 0, 1) := by decide +kernel
theorem dX9_by_15 : decode cX9_by 15 = .ok (.dconst 0, 1) := by decide +kernel
theorem dX9_by_16 : decode cX9_by 16 = .ok (.dcmp .l, 1) := by decide +kernel
theorem dX9_by_17 : decode cX9_by 17 = .ok (.ifCond .ne 9, 3) := by decide +kernel
theorem dX9_by_20 : decode cX9_by 20 = .ok (.dload_n 2, 1) := by decide +kernel
theorem dX9_by_21 : decode cX9_by 21 = .ok (.dconst 0, 1) := by decide +kernel
theorem dX9_by_22 : decode cX9_by 22 = .ok (.dcmp .l, 1) := by decide +kernel
theorem dX9_by_23 : decode cX9_by 23 = .ok (.ifCond .eq 17, 3) := by decide +kernel
theorem dX9_by_26 : decode cX9_by 26 = .ok (.dload_n 0, 1) := by decide +kernel
theorem dX9_by_27 : decode cX9_by 27 = .ok (.invokestatic 193, 3) := by decide +kernel
theorem dX9_by_30 : decode cX9_by 30 = .ok (.ifCond .ne 14, 3) := by decide +kernel
theorem dX9_by_33 : decode cX9_by 33 = .ok (.dload_n 2, 1) := by decide +kernel
theorem dX9_by_34 : decode cX9_by 34 = .ok (.invokestatic 193, 3) := by decide +kernel
theorem dX9_by_37 : decode cX9_by 37 = .ok (.ifCond .ne 7, 3) := by decide +kernel
theorem dX9_by_40 : decode cX9_by 40 = .ok (.iconst 1, 1) := by decide +kernel
theorem dX9_by_41 : decode cX9_by 41 = .ok (.goto 4, 3) := by decide +kernel
theorem dX9_by_44 : decode cX9_by 44 = .ok (.iconst 0, 1) := by decide +kernel
theorem dX9_by_45 : decode cX9_by 45 = .ok (.istore 4, 2) := by decide +kernel
theorem dX9_by_47 : decode cX9_by 47 = .ok (.iload 4, 2) := by decide +kernel
theorem dX9_by_49 : decode cX9_by 49 = .ok (.ifCond .eq 9, 3) := by decide +kernel
theorem dX9_by_52 : decode cX9_by 52 = .ok (.ldc2_w 196, 3) := by decide +kernel
theorem dX9_by_55 : decode cX9_by 55 = .ok (.goto 6, 3) := by decide +kernel
theorem dX9_by_58 : decode cX9_by 58 = .ok (.dload_n 0, 1) := by decide +kernel
theorem dX9_by_59 : decode cX9_by 59 = .ok (.dload_n 2, 1) := by decide +kernel
theorem dX9_by_60 : decode cX9_by 60 = .ok (.ddiv, 1) := by decide +kernel
theorem dX9_by_61 : decode cX9_by 61 = .ok (.dreturn, 1) := by decide +kernel
theorem dX9_turned_0 : decode cX9_turned 0 = .ok (.dload_n 0, 1) := by decide +kernel
theorem dX9_turned_1 : decode cX9_turned 1 = .ok (.invokestatic 189, 3) := by decide +kernel
theorem dX9_turned_4 : decode cX9_turned 4 = .ok (.ifCond .eq 8, 3) := by decide +kernel
theorem dX9_turned_7 : decode cX9_turned 7 = .ok (.dload_n 0, 1) := by decide +kernel
theorem dX9_turned_8 : decode cX9_turned 8 = .ok (.dneg, 1) := by decide +kernel
theorem dX9_turned_9 : decode cX9_turned 9 = .ok (.goto 6, 3) := by decide +kernel
theorem dX9_turned_12 : decode cX9_turned 12 = .ok (.ldc2_w 196, 3) := by decide +kernel
theorem dX9_turned_15 : decode cX9_turned 15 = .ok (.dreturn, 1) := by decide +kernel
theorem dX9_size_0 : decode cX9_size 0 = .ok (.dload_n 0, 1) := by decide +kernel
theorem dX9_size_1 : decode cX9_size 1 = .ok (.dconst 0, 1) := by decide +kernel
theorem dX9_size_2 : decode cX9_size 2 = .ok (.dcmp .g, 1) := by decide +kernel
theorem dX9_size_3 : decode cX9_size 3 = .ok (.ifCond .ge 8, 3) := by decide +kernel
theorem dX9_size_6 : decode cX9_size 6 = .ok (.dload_n 0, 1) := by decide +kernel
theorem dX9_size_7 : decode cX9_size 7 = .ok (.dneg, 1) := by decide +kernel
theorem dX9_size_8 : decode cX9_size 8 = .ok (.goto 14, 3) := by decide +kernel
theorem dX9_size_11 : decode cX9_size 11 = .ok (.dload_n 0, 1) := by decide +kernel
theorem dX9_size_12 : decode cX9_size 12 = .ok (.dconst 0, 1) := by decide +kernel
theorem dX9_size_13 : decode cX9_size 13 = .ok (.dcmp .l, 1) := by decide +kernel
theorem dX9_size_14 : decode cX9_size 14 = .ok (.ifCond .ne 7, 3) := by decide +kernel
theorem dX9_size_17 : decode cX9_size 17 = .ok (.dconst 0, 1) := by decide +kernel
theorem dX9_size_18 : decode cX9_size 18 = .ok (.goto 4, 3) := by decide +kernel
theorem dX9_size_21 : decode cX9_size 21 = .ok (.dload_n 0, 1) := by decide +kernel
theorem dX9_size_22 : decode cX9_size 22 = .ok (.dreturn, 1) := by decide +kernel
theorem dX9_least_0 : decode cX9_least 0 = .ok (.dload_n 0, 1) := by decide +kernel
theorem dX9_least_1 : decode cX9_least 1 = .ok (.dload_n 0, 1) := by decide +kernel
theorem dX9_least_2 : decode cX9_least 2 = .ok (.dcmp .l, 1) := by decide +kernel
theorem dX9_least_3 : decode cX9_least 3 = .ok (.ifCond .eq 5, 3) := by decide +kernel
theorem dX9_least_6 : decode cX9_least 6 = .ok (.dload_n 0, 1) := by decide +kernel
theorem dX9_least_7 : decode cX9_least 7 = .ok (.dreturn, 1) := by decide +kernel
theorem dX9_least_8 : decode cX9_least 8 = .ok (.dload_n 2, 1) := by decide +kernel
theorem dX9_least_9 : decode cX9_least 9 = .ok (.dload_n 2, 1) := by decide +kernel
theorem dX9_least_10 : decode cX9_least 10 = .ok (.dcmp .l, 1) := by decide +kernel
theorem dX9_least_11 : decode cX9_least 11 = .ok (.ifCond .eq 5, 3) := by decide +kernel
theorem dX9_least_14 : decode cX9_least 14 = .ok (.dload_n 2, 1) := by decide +kernel
theorem dX9_least_15 : decode cX9_least 15 = .ok (.dreturn, 1) := by decide +kernel
theorem dX9_least_16 : decode cX9_least 16 = .ok (.dload_n 0, 1) := by decide +kernel
theorem dX9_least_17 : decode cX9_least 17 = .ok (.dload_n 2, 1) := by decide +kernel
theorem dX9_least_18 : decode cX9_least 18 = .ok (.dcmp .l, 1) := by decide +kernel
theorem dX9_least_19 : decode cX9_least 19 = .ok (.ifCond .ne 19, 3) := by decide +kernel
theorem dX9_least_22 : decode cX9_least 22 = .ok (.dconst 1, 1) := by decide +kernel
theorem dX9_least_23 : decode cX9_least 23 = .ok (.dload_n 0, 1) := by decide +kernel
theorem dX9_least_24 : decode cX9_least 24 = .ok (.ddiv, 1) := by decide +kernel
theorem dX9_least_25 : decode cX9_least 25 = .ok (.dconst 1, 1) := by decide +kernel
theorem dX9_least_26 : decode cX9_least 26 = .ok (.dload_n 2, 1) := by decide +kernel
theorem dX9_least_27 : decode cX9_least 27 = .ok (.ddiv, 1) := by decide +kernel
theorem dX9_least_28 : decode cX9_least 28 = .ok (.dcmp .g, 1) := by decide +kernel
theorem dX9_least_29 : decode cX9_least 29 = .ok (.ifCond .ge 7, 3) := by decide +kernel
theorem dX9_least_32 : decode cX9_least 32 = .ok (.dload_n 0, 1) := by decide +kernel
theorem dX9_least_33 : decode cX9_least 33 = .ok (.goto 4, 3) := by decide +kernel
theorem dX9_least_36 : decode cX9_least 36 = .ok (.dload_n 2, 1) := by decide +kernel
theorem dX9_least_37 : decode cX9_least 37 = .ok (.dreturn, 1) := by decide +kernel
theorem dX9_least_38 : decode cX9_least 38 = .ok (.dload_n 0, 1) := by decide +kernel
theorem dX9_least_39 : decode cX9_least 39 = .ok (.dload_n 2, 1) := by decide +kernel
theorem dX9_least_40 : decode cX9_least 40 = .ok (.dcmp .g, 1) := by decide +kernel
theorem dX9_least_41 : decode cX9_least 41 = .ok (.ifCond .ge 7, 3) := by decide +kernel
theorem dX9_least_44 : decode cX9_least 44 = .ok (.dload_n 0, 1) := by decide +kernel
theorem dX9_least_45 : decode cX9_least 45 = .ok (.goto 4, 3) := by decide +kernel
theorem dX9_least_48 : decode cX9_least 48 = .ok (.dload_n 2, 1) := by decide +kernel
theorem dX9_least_49 : decode cX9_least 49 = .ok (.dreturn, 1) := by decide +kernel
theorem dX9_greatest_0 : decode cX9_greatest 0 = .ok (.dload_n 0, 1) := by decide +kernel
theorem dX9_greatest_1 : decode cX9_greatest 1 = .ok (.dload_n 0, 1) := by decide +kernel
theorem dX9_greatest_2 : decode cX9_greatest 2 = .ok (.dcmp .l, 1) := by decide +kernel
theorem dX9_greatest_3 : decode cX9_greatest 3 = .ok (.ifCond .eq 5, 3) := by decide +kernel
theorem dX9_greatest_6 : decode cX9_greatest 6 = .ok (.dload_n 0, 1) := by decide +kernel
theorem dX9_greatest_7 : decode cX9_greatest 7 = .ok (.dreturn, 1) := by decide +kernel
theorem dX9_greatest_8 : decode cX9_greatest 8 = .ok (.dload_n 2, 1) := by decide +kernel
theorem dX9_greatest_9 : decode cX9_greatest 9 = .ok (.dload_n 2, 1) := by decide +kernel
theorem dX9_greatest_10 : decode cX9_greatest 10 = .ok (.dcmp .l, 1) := by decide +kernel
theorem dX9_greatest_11 : decode cX9_greatest 11 = .ok (.ifCond .eq 5, 3) := by decide +kernel
theorem dX9_greatest_14 : decode cX9_greatest 14 = .ok (.dload_n 2, 1) := by decide +kernel
theorem dX9_greatest_15 : decode cX9_greatest 15 = .ok (.dreturn, 1) := by decide +kernel
theorem dX9_greatest_16 : decode cX9_greatest 16 = .ok (.dload_n 0, 1) := by decide +kernel
theorem dX9_greatest_17 : decode cX9_greatest 17 = .ok (.dload_n 2, 1) := by decide +kernel
theorem dX9_greatest_18 : decode cX9_greatest 18 = .ok (.dcmp .l, 1) := by decide +kernel
theorem dX9_greatest_19 : decode cX9_greatest 19 = .ok (.ifCond .ne 19, 3) := by decide +kernel
theorem dX9_greatest_22 : decode cX9_greatest 22 = .ok (.dconst 1, 1) := by decide +kernel
theorem dX9_greatest_23 : decode cX9_greatest 23 = .ok (.dload_n 0, 1) := by decide +kernel
theorem dX9_greatest_24 : decode cX9_greatest 24 = .ok (.ddiv, 1) := by decide +kernel
theorem dX9_greatest_25 : decode cX9_greatest 25 = .ok (.dconst 1, 1) := by decide +kernel
theorem dX9_greatest_26 : decode cX9_greatest 26 = .ok (.dload_n 2, 1) := by decide +kernel
theorem dX9_greatest_27 : decode cX9_greatest 27 = .ok (.ddiv, 1) := by decide +kernel
theorem dX9_greatest_28 : decode cX9_greatest 28 = .ok (.dcmp .g, 1) := by decide +kernel
theorem dX9_greatest_29 : decode cX9_greatest 29 = .ok (.ifCond .ge 7, 3) := by decide +kernel
theorem dX9_greatest_32 : decode cX9_greatest 32 = .ok (.dload_n 2, 1) := by decide +kernel
theorem dX9_greatest_33 : decode cX9_greatest 33 = .ok (.goto 4, 3) := by decide +kernel
theorem dX9_greatest_36 : decode cX9_greatest 36 = .ok (.dload_n 0, 1) := by decide +kernel
theorem dX9_greatest_37 : decode cX9_greatest 37 = .ok (.dreturn, 1) := by decide +kernel
theorem dX9_greatest_38 : decode cX9_greatest 38 = .ok (.dload_n 0, 1) := by decide +kernel
theorem dX9_greatest_39 : decode cX9_greatest 39 = .ok (.dload_n 2, 1) := by decide +kernel
theorem dX9_greatest_40 : decode cX9_greatest 40 = .ok (.dcmp .g, 1) := by decide +kernel
theorem dX9_greatest_41 : decode cX9_greatest 41 = .ok (.ifCond .ge 7, 3) := by decide +kernel
theorem dX9_greatest_44 : decode cX9_greatest 44 = .ok (.dload_n 2, 1) := by decide +kernel
theorem dX9_greatest_45 : decode cX9_greatest 45 = .ok (.goto 4, 3) := by decide +kernel
theorem dX9_greatest_48 : decode cX9_greatest 48 = .ok (.dload_n 0, 1) := by decide +kernel
theorem dX9_greatest_49 : decode cX9_greatest 49 = .ok (.dreturn, 1) := by decide +kernel
theorem dX9_bits_0 : decode cX9_bits 0 = .ok (.dload_n 0, 1) := by decide +kernel
theorem dX9_bits_1 : decode cX9_bits 1 = .ok (.dload_n 0, 1) := by decide +kernel
theorem dX9_bits_2 : decode cX9_bits 2 = .ok (.dcmp .l, 1) := by decide +kernel
theorem dX9_bits_3 : decode cX9_bits 3 = .ok (.ifCond .eq 9, 3) := by decide +kernel
theorem dX9_bits_6 : decode cX9_bits 6 = .ok (.ldc2_w 198, 3) := by decide +kernel
theorem dX9_bits_9 : decode cX9_bits 9 = .ok (.goto 7, 3) := by decide +kernel
theorem dX9_bits_12 : decode cX9_bits 12 = .ok (.dload_n 0, 1) := by decide +kernel
theorem dX9_bits_13 : decode cX9_bits 13 = .ok (.invokestatic 200, 3) := by decide +kernel
theorem dX9_bits_16 : decode cX9_bits 16 = .ok (.lreturn, 1) := by decide +kernel
theorem dX9_put_0 : decode cX9_put 0 = .ok (.aload_n 0, 1) := by decide +kernel
theorem dX9_put_1 : decode cX9_put 1 = .ok (.getfield 15, 3) := by decide +kernel
theorem dX9_put_4 : decode cX9_put 4 = .ok (.iload_n 1, 1) := by decide +kernel
theorem dX9_put_5 : decode cX9_put 5 = .ok (.iaload, 1) := by decide +kernel
theorem dX9_put_6 : decode cX9_put 6 = .ok (.iload_n 2, 1) := by decide +kernel
theorem dX9_put_7 : decode cX9_put 7 = .ok (.ishr, 1) := by decide +kernel
theorem dX9_put_8 : decode cX9_put 8 = .ok (.iconst 1, 1) := by decide +kernel
theorem dX9_put_9 : decode cX9_put 9 = .ok (.iand, 1) := by decide +kernel
theorem dX9_put_10 : decode cX9_put 10 = .ok (.iconst 1, 1) := by decide +kernel
theorem dX9_put_11 : decode cX9_put 11 = .ok (.if_icmp .ne 16, 3) := by decide +kernel
theorem dX9_put_14 : decode cX9_put 14 = .ok (.dload_n 3, 1) := by decide +kernel
theorem dX9_put_15 : decode cX9_put 15 = .ok (.invokestatic 189, 3) := by decide +kernel
theorem dX9_put_18 : decode cX9_put 18 = .ok (.ifCond .eq 9, 3) := by decide +kernel
theorem dX9_put_21 : decode cX9_put 21 = .ok (.dload_n 3, 1) := by decide +kernel
theorem dX9_put_22 : decode cX9_put 22 = .ok (.d2f, 1) := by decide +kernel
theorem dX9_put_23 : decode cX9_put 23 = .ok (.f2d, 1) := by decide +kernel
theorem dX9_put_24 : decode cX9_put 24 = .ok (.goto 4, 3) := by decide +kernel
theorem dX9_put_27 : decode cX9_put 27 = .ok (.dload_n 3, 1) := by decide +kernel
theorem dX9_put_28 : decode cX9_put 28 = .ok (.dreturn, 1) := by decide +kernel
theorem dX9_signalAt_0 : decode cX9_signalAt 0 = .ok (.aload_n 0, 1) := by decide +kernel
theorem dX9_signalAt_1 : decode cX9_signalAt 1 = .ok (.getfield 43, 3) := by decide +kernel
theorem dX9_signalAt_4 : decode cX9_signalAt 4 = .ok (.iload_n 1, 1) := by decide +kernel
theorem dX9_signalAt_5 : decode cX9_signalAt 5 = .ok (.iaload, 1) := by decide +kernel
theorem dX9_signalAt_6 : decode cX9_signalAt 6 = .ok (.istore 4, 2) := by decide +kernel
theorem dX9_signalAt_8 : decode cX9_signalAt 8 = .ok (.iload 4, 2) := by decide +kernel
theorem dX9_signalAt_10 : decode cX9_signalAt 10 = .ok (.ifCond .ne 5, 3) := by decide +kernel
theorem dX9_signalAt_13 : decode cX9_signalAt 13 = .ok (.dconst 0, 1) := by decide +kernel
theorem dX9_signalAt_14 : decode cX9_signalAt 14 = .ok (.dreturn, 1) := by decide +kernel
theorem dX9_signalAt_15 : decode cX9_signalAt 15 = .ok (.dload_n 2, 1) := by decide +kernel
theorem dX9_signalAt_16 : decode cX9_signalAt 16 = .ok (.dload_n 2, 1) := by decide +kernel
theorem dX9_signalAt_17 : decode cX9_signalAt 17 = .ok (.dcmp .l, 1) := by decide +kernel
theorem dX9_signalAt_18 : decode cX9_signalAt 18 = .ok (.ifCond .eq 5, 3) := by decide +kernel
theorem dX9_signalAt_21 : decode cX9_signalAt 21 = .ok (.dload_n 2, 1) := by decide +kernel
theorem dX9_signalAt_22 : decode cX9_signalAt 22 = .ok (.dreturn, 1) := by decide +kernel
theorem dX9_signalAt_23 : decode cX9_signalAt 23 = .ok (.bipush 16, 2) := by decide +kernel
theorem dX9_signalAt_25 : decode cX9_signalAt 25 = .ok (.iload_n 1, 1) := by decide +kernel
theorem dX9_signalAt_26 : decode cX9_signalAt 26 = .ok (.imul, 1) := by decide +kernel
theorem dX9_signalAt_27 : decode cX9_signalAt 27 = .ok (.istore 5, 2) := by decide +kernel
theorem dX9_signalAt_29 : decode cX9_signalAt 29 = .ok (.dload_n 2, 1) := by decide +kernel
theorem dX9_signalAt_30 : decode cX9_signalAt 30 = .ok (.aload_n 0, 1) := by decide +kernel
theorem dX9_signalAt_31 : decode cX9_signalAt 31 = .ok (.getfield 46, 3) := by decide +kernel
theorem dX9_signalAt_34 : decode cX9_signalAt 34 = .ok (.iload 5, 2) := by decide +kernel
theorem dX9_signalAt_36 : decode cX9_signalAt 36 = .ok (.daload, 1) := by decide +kernel
theorem dX9_signalAt_37 : decode cX9_signalAt 37 = .ok (.dcmp .g, 1) := by decide +kernel
theorem dX9_signalAt_38 : decode cX9_signalAt 38 = .ok (.ifCond .gt 11, 3) := by decide +kernel
theorem dX9_signalAt_41 : decode cX9_signalAt 41 = .ok (.aload_n 0, 1) := by decide +kernel
theorem dX9_signalAt_42 : decode cX9_signalAt 42 = .ok (.getfield 49, 3) := by decide +kernel
theorem dX9_signalAt_45 : decode cX9_signalAt 45 = .ok (.iload 5, 2) := by decide +kernel
theorem dX9_signalAt_47 : decode cX9_signalAt 47 = .ok (.daload, 1) := by decide +kernel
theorem dX9_signalAt_48 : decode cX9_signalAt 48 = .ok (.dreturn, 1) := by decide +kernel
theorem dX9_signalAt_49 : decode cX9_signalAt 49 = .ok (.dload_n 2, 1) := by decide +kernel
theorem dX9_signalAt_50 : decode cX9_signalAt 50 = .ok (.aload_n 0, 1) := by decide +kernel
theorem dX9_signalAt_51 : decode cX9_signalAt 51 = .ok (.getfield 46, 3) := by decide +kernel
theorem dX9_signalAt_54 : decode cX9_signalAt 54 = .ok (.iload 5, 2) := by decide +kernel
theorem dX9_signalAt_56 : decode cX9_signalAt 56 = .ok (.iload 4, 2) := by decide +kernel
theorem dX9_signalAt_58 : decode cX9_signalAt 58 = .ok (.iadd, 1) := by decide +kernel
theorem dX9_signalAt_59 : decode cX9_signalAt 59 = .ok (.iconst 1, 1) := by decide +kernel
theorem dX9_signalAt_60 : decode cX9_signalAt 60 = .ok (.isub, 1) := by decide +kernel
theorem dX9_signalAt_61 : decode cX9_signalAt 61 = .ok (.daload, 1) := by decide +kernel
theorem dX9_signalAt_62 : decode cX9_signalAt 62 = .ok (.dcmp .l, 1) := by decide +kernel
theorem dX9_signalAt_63 : decode cX9_signalAt 63 = .ok (.ifCond .lt 16, 3) := by decide +kernel
theorem dX9_signalAt_66 : decode cX9_signalAt 66 = .ok (.aload_n 0, 1) := by decide +kernel
theorem dX9_signalAt_67 : decode cX9_signalAt 67 = .ok (.getfield 49, 3) := by decide +kernel
theorem dX9_signalAt_70 : decode cX9_signalAt 70 = .ok (.iload 5, 2) := by decide +kernel
theorem dX9_signalAt_72 : decode cX9_signalAt 72 = .ok (.iload 4, 2) := by decide +kernel
theorem dX9_signalAt_74 : decode cX9_signalAt 74 = .ok (.iadd, 1) := by decide +kernel
theorem dX9_signalAt_75 : decode cX9_signalAt 75 = .ok (.iconst 1, 1) := by decide +kernel
theorem dX9_signalAt_76 : decode cX9_signalAt 76 = .ok (.isub, 1) := by decide +kernel
theorem dX9_signalAt_77 : decode cX9_signalAt 77 = .ok (.daload, 1) := by decide +kernel
theorem dX9_signalAt_78 : decode cX9_signalAt 78 = .ok (.dreturn, 1) := by decide +kernel
theorem dX9_signalAt_79 : decode cX9_signalAt 79 = .ok (.iload 5, 2) := by decide +kernel
theorem dX9_signalAt_81 : decode cX9_signalAt 81 = .ok (.istore 6, 2) := by decide +kernel
theorem dX9_signalAt_83 : decode cX9_signalAt 83 = .ok (.aload_n 0, 1) := by decide +kernel
theorem dX9_signalAt_84 : decode cX9_signalAt 84 = .ok (.getfield 46, 3) := by decide +kernel
theorem dX9_signalAt_87 : decode cX9_signalAt 87 = .ok (.iload 6, 2) := by decide +kernel
theorem dX9_signalAt_89 : decode cX9_signalAt 89 = .ok (.iconst 1, 1) := by decide +kernel
theorem dX9_signalAt_90 : decode cX9_signalAt 90 = .ok (.iadd, 1) := by decide +kernel
theorem dX9_signalAt_91 : decode cX9_signalAt 91 = .ok (.daload, 1) := by decide +kernel
theorem dX9_signalAt_92 : decode cX9_signalAt 92 = .ok (.dload_n 2, 1) := by decide +kernel
theorem dX9_signalAt_93 : decode cX9_signalAt 93 = .ok (.dcmp .g, 1) := by decide +kernel
theorem dX9_signalAt_94 : decode cX9_signalAt 94 = .ok (.ifCond .gt 9, 3) := by decide +kernel
theorem dX9_signalAt_97 : decode cX9_signalAt 97 = .ok (.iinc 6 1, 3) := by decide +kernel
theorem dX9_signalAt_100 : decode cX9_signalAt 100 = .ok (.goto (-17), 3) := by decide +kernel
theorem dX9_signalAt_103 : decode cX9_signalAt 103 = .ok (.aload_n 0, 1) := by decide +kernel
theorem dX9_signalAt_104 : decode cX9_signalAt 104 = .ok (.getfield 40, 3) := by decide +kernel
theorem dX9_signalAt_107 : decode cX9_signalAt 107 = .ok (.iload_n 1, 1) := by decide +kernel
theorem dX9_signalAt_108 : decode cX9_signalAt 108 = .ok (.iaload, 1) := by decide +kernel
theorem dX9_signalAt_109 : decode cX9_signalAt 109 = .ok (.ifCond .eq 15, 3) := by decide +kernel
theorem dX9_signalAt_112 : decode cX9_signalAt 112 = .ok (.aload_n 0, 1) := by decide +kernel
theorem dX9_signalAt_113 : decode cX9_signalAt 113 = .ok (.getfield 46, 3) := by decide +kernel
theorem dX9_signalAt_116 : decode cX9_signalAt 116 = .ok (.iload 6, 2) := by decide +kernel
theorem dX9_signalAt_118 : decode cX9_signalAt 118 = .ok (.daload, 1) := by decide +kernel
theorem dX9_signalAt_119 : decode cX9_signalAt 119 = .ok (.dload_n 2, 1) := by decide +kernel
theorem dX9_signalAt_120 : decode cX9_signalAt 120 = .ok (.dcmp .l, 1) := by decide +kernel
theorem dX9_signalAt_121 : decode cX9_signalAt 121 = .ok (.ifCond .ne 11, 3) := by decide +kernel
theorem dX9_signalAt_124 : decode cX9_signalAt 124 = .ok (.aload_n 0, 1) := by decide +kernel
theorem dX9_signalAt_125 : decode cX9_signalAt 125 = .ok (.getfield 49, 3) := by decide +kernel
theorem dX9_signalAt_128 : decode cX9_signalAt 128 = .ok (.iload 6, 2) := by decide +kernel
theorem dX9_signalAt_130 : decode cX9_signalAt 130 = .ok (.daload, 1) := by decide +kernel
theorem dX9_signalAt_131 : decode cX9_signalAt 131 = .ok (.dreturn, 1) := by decide +kernel
theorem dX9_signalAt_132 : decode cX9_signalAt 132 = .ok (.aload_n 0, 1) := by decide +kernel
theorem dX9_signalAt_133 : decode cX9_signalAt 133 = .ok (.getfield 49, 3) := by decide +kernel
theorem dX9_signalAt_136 : decode cX9_signalAt 136 = .ok (.iload 6, 2) := by decide +kernel
theorem dX9_signalAt_138 : decode cX9_signalAt 138 = .ok (.daload, 1) := by decide +kernel
theorem dX9_signalAt_139 : decode cX9_signalAt 139 = .ok (.aload_n 0, 1) := by decide +kernel
theorem dX9_signalAt_140 : decode cX9_signalAt 140 = .ok (.getfield 49, 3) := by decide +kernel
theorem dX9_signalAt_143 : decode cX9_signalAt 143 = .ok (.iload 6, 2) := by decide +kernel
theorem dX9_signalAt_145 : decode cX9_signalAt 145 = .ok (.iconst 1, 1) := by decide +kernel
theorem dX9_signalAt_146 : decode cX9_signalAt 146 = .ok (.iadd, 1) := by decide +kernel
theorem dX9_signalAt_147 : decode cX9_signalAt 147 = .ok (.daload, 1) := by decide +kernel
theorem dX9_signalAt_148 : decode cX9_signalAt 148 = .ok (.aload_n 0, 1) := by decide +kernel
theorem dX9_signalAt_149 : decode cX9_signalAt 149 = .ok (.getfield 49, 3) := by decide +kernel
theorem dX9_signalAt_152 : decode cX9_signalAt 152 = .ok (.iload 6, 2) := by decide +kernel
theorem dX9_signalAt_154 : decode cX9_signalAt 154 = .ok (.daload, 1) := by decide +kernel
theorem dX9_signalAt_155 : decode cX9_signalAt 155 = .ok (.invokestatic 204, 3) := by decide +kernel
theorem dX9_signalAt_158 : decode cX9_signalAt 158 = .ok (.dload_n 2, 1) := by decide +kernel
theorem dX9_signalAt_159 : decode cX9_signalAt 159 = .ok (.aload_n 0, 1) := by decide +kernel
theorem dX9_signalAt_160 : decode cX9_signalAt 160 = .ok (.getfield 46, 3) := by decide +kernel
theorem dX9_signalAt_163 : decode cX9_signalAt 163 = .ok (.iload 6, 2) := by decide +kernel
theorem dX9_signalAt_165 : decode cX9_signalAt 165 = .ok (.daload, 1) := by decide +kernel
theorem dX9_signalAt_166 : decode cX9_signalAt 166 = .ok (.invokestatic 204, 3) := by decide +kernel
theorem dX9_signalAt_169 : decode cX9_signalAt 169 = .ok (.aload_n 0, 1) := by decide +kernel
theorem dX9_signalAt_170 : decode cX9_signalAt 170 = .ok (.getfield 46, 3) := by decide +kernel
theorem dX9_signalAt_173 : decode cX9_signalAt 173 = .ok (.iload 6, 2) := by decide +kernel
theorem dX9_signalAt_175 : decode cX9_signalAt 175 = .ok (.iconst 1, 1) := by decide +kernel
theorem dX9_signalAt_176 : decode cX9_signalAt 176 = .ok (.iadd, 1) := by decide +kernel
theorem dX9_signalAt_177 : decode cX9_signalAt 177 = .ok (.daload, 1) := by decide +kernel
theorem dX9_signalAt_178 : decode cX9_signalAt 178 = .ok (.aload_n 0, 1) := by decide +kernel
theorem dX9_signalAt_179 : decode cX9_signalAt 179 = .ok (.getfield 46, 3) := by decide +kernel
theorem dX9_signalAt_182 : decode cX9_signalAt 182 = .ok (.iload 6, 2) := by decide +kernel
theorem dX9_signalAt_184 : decode cX9_signalAt 184 = .ok (.daload, 1) := by decide +kernel
theorem dX9_signalAt_185 : decode cX9_signalAt 185 = .ok (.invokestatic 204, 3) := by decide +kernel
theorem dX9_signalAt_188 : decode cX9_signalAt 188 = .ok (.invokestatic 208, 3) := by decide +kernel
theorem dX9_signalAt_191 : decode cX9_signalAt 191 = .ok (.invokestatic 211, 3) := by decide +kernel
theorem dX9_signalAt_194 : decode cX9_signalAt 194 = .ok (.invokestatic 214, 3) := by decide +kernel
theorem dX9_signalAt_197 : decode cX9_signalAt 197 = .ok (.dreturn, 1) := by decide +kernel
theorem dX9_power_0 : decode cX9_power 0 = .ok (.dconst 1, 1) := by decide +kernel
theorem dX9_power_1 : decode cX9_power 1 = .ok (.dstore_n 3, 1) := by decide +kernel
theorem dX9_power_2 : decode cX9_power 2 = .ok (.iconst 0, 1) := by decide +kernel
theorem dX9_power_3 : decode cX9_power 3 = .ok (.istore 5, 2) := by decide +kernel
theorem dX9_power_5 : decode cX9_power 5 = .ok (.iload 5, 2) := by decide +kernel
theorem dX9_power_7 : decode cX9_power 7 = .ok (.iload_n 2, 1) := by decide +kernel
theorem dX9_power_8 : decode cX9_power 8 = .ok (.if_icmp .ge 15, 3) := by decide +kernel
theorem dX9_power_11 : decode cX9_power 11 = .ok (.dload_n 3, 1) := by decide +kernel
theorem dX9_power_12 : decode cX9_power 12 = .ok (.dload_n 0, 1) := by decide +kernel
theorem dX9_power_13 : decode cX9_power 13 = .ok (.invokestatic 211, 3) := by decide +kernel
theorem dX9_power_16 : decode cX9_power 16 = .ok (.dstore_n 3, 1) := by decide +kernel
theorem dX9_power_17 : decode cX9_power 17 = .ok (.iinc 5 1, 3) := by decide +kernel
theorem dX9_power_20 : decode cX9_power 20 = .ok (.goto (-15), 3) := by decide +kernel
theorem dX9_power_23 : decode cX9_power 23 = .ok (.dload_n 3, 1) := by decide +kernel
theorem dX9_power_24 : decode cX9_power 24 = .ok (.dreturn, 1) := by decide +kernel
theorem dX9_worth_0 : decode cX9_worth 0 = .ok (.bipush 48, 2) := by decide +kernel
theorem dX9_worth_2 : decode cX9_worth 2 = .ok (.iload_n 1, 1) := by decide +kernel
theorem dX9_worth_3 : decode cX9_worth 3 = .ok (.imul, 1) := by decide +kernel
theorem dX9_worth_4 : decode cX9_worth 4 = .ok (.iload_n 2, 1) := by decide +kernel
theorem dX9_worth_5 : decode cX9_worth 5 = .ok (.iadd, 1) := by decide +kernel
theorem dX9_worth_6 : decode cX9_worth 6 = .ok (.istore 6, 2) := by decide +kernel
theorem dX9_worth_8 : decode cX9_worth 8 = .ok (.aload_n 0, 1) := by decide +kernel
theorem dX9_worth_9 : decode cX9_worth 9 = .ok (.getfield 27, 3) := by decide +kernel
theorem dX9_worth_12 : decode cX9_worth 12 = .ok (.iload 6, 2) := by decide +kernel
theorem dX9_worth_14 : decode cX9_worth 14 = .ok (.iaload, 1) := by decide +kernel
theorem dX9_worth_15 : decode cX9_worth 15 = .ok (.istore 7, 2) := by decide +kernel
theorem dX9_worth_17 : decode cX9_worth 17 = .ok (.aload_n 0, 1) := by decide +kernel
theorem dX9_worth_18 : decode cX9_worth 18 = .ok (.getfield 30, 3) := by decide +kernel
theorem dX9_worth_21 : decode cX9_worth 21 = .ok (.iload 6, 2) := by decide +kernel
theorem dX9_worth_23 : decode cX9_worth 23 = .ok (.iaload, 1) := by decide +kernel
theorem dX9_worth_24 : decode cX9_worth 24 = .ok (.istore 8, 2) := by decide +kernel
theorem dX9_worth_26 : decode cX9_worth 26 = .ok (.aload_n 0, 1) := by decide +kernel
theorem dX9_worth_27 : decode cX9_worth 27 = .ok (.getfield 24, 3) := by decide +kernel
theorem dX9_worth_30 : decode cX9_worth 30 = .ok (.iload 6, 2) := by decide +kernel
theorem dX9_worth_32 : decode cX9_worth 32 = .ok (.iaload, 1) := by decide +kernel
theorem dX9_worth_33 : decode cX9_worth 33 = .ok (.tableswitch 267 0 12 #[67, 73, 75, 93, 111, 129, 147, 158, 169, 187, 205, 240, 253], 67) := by decide +kernel
theorem dX9_worth_100 : decode cX9_worth 100 = .ok (.aload 5, 2) := by decide +kernel
theorem dX9_worth_102 : decode cX9_worth 102 = .ok (.iload 7, 2) := by decide +kernel
theorem dX9_worth_104 : decode cX9_worth 104 = .ok (.daload, 1) := by decide +kernel
theorem dX9_worth_105 : decode cX9_worth 105 = .ok (.dreturn, 1) := by decide +kernel
theorem dX9_worth_106 : decode cX9_worth 106 = .ok (.dload_n 3, 1) := by decide +kernel
theorem dX9_worth_107 : decode cX9_worth 107 = .ok (.dreturn, 1) := by decide +kernel
theorem dX9_worth_108 : decode cX9_worth 108 = .ok (.aload_n 0, 1) := by decide +kernel
theorem dX9_worth_109 : decode cX9_worth 109 = .ok (.getfield 143, 3) := by decide +kernel
theorem dX9_worth_112 : decode cX9_worth 112 = .ok (.iload 7, 2) := by decide +kernel
theorem dX9_worth_114 : decode cX9_worth 114 = .ok (.daload, 1) := by decide +kernel
theorem dX9_worth_115 : decode cX9_worth 115 = .ok (.aload_n 0, 1) := by decide +kernel
theorem dX9_worth_116 : decode cX9_worth 116 = .ok (.getfield 143, 3) := by decide +kernel
theorem dX9_worth_119 : decode cX9_worth 119 = .ok (.iload 8, 2) := by decide +kernel
theorem dX9_worth_121 : decode cX9_worth 121 = .ok (.daload, 1) := by decide +kernel
theorem dX9_worth_122 : decode cX9_worth 122 = .ok (.invokestatic 214, 3) := by decide +kernel
theorem dX9_worth_125 : decode cX9_worth 125 = .ok (.dreturn, 1) := by decide +kernel
theorem dX9_worth_126 : decode cX9_worth 126 = .ok (.aload_n 0, 1) := by decide +kernel
theorem dX9_worth_127 : decode cX9_worth 127 = .ok (.getfield 143, 3) := by decide +kernel
theorem dX9_worth_130 : decode cX9_worth 130 = .ok (.iload 7, 2) := by decide +kernel
theorem dX9_worth_132 : decode cX9_worth 132 = .ok (.daload, 1) := by decide +kernel
theorem dX9_worth_133 : decode cX9_worth 133 = .ok (.aload_n 0, 1) := by decide +kernel
theorem dX9_worth_134 : decode cX9_worth 134 = .ok (.getfield 143, 3) := by decide +kernel
theorem dX9_worth_137 : decode cX9_worth 137 = .ok (.iload 8, 2) := by decide +kernel
theorem dX9_worth_139 : decode cX9_worth 139 = .ok (.daload, 1) := by decide +kernel
theorem dX9_worth_140 : decode cX9_worth 140 = .ok (.invokestatic 204, 3) := by decide +kernel
theorem dX9_worth_143 : decode cX9_worth 143 = .ok (.dreturn, 1) := by decide +kernel
theorem dX9_worth_144 : decode cX9_worth 144 = .ok (.aload_n 0, 1) := by decide +kernel
theorem dX9_worth_145 : decode cX9_worth 145 = .ok (.getfield 143, 3) := by decide +kernel
theorem dX9_worth_148 : decode cX9_worth 148 = .ok (.iload 7, 2) := by decide +kernel
theorem dX9_worth_150 : decode cX9_worth 150 = .ok (.daload, 1) := by decide +kernel
theorem dX9_worth_151 : decode cX9_worth 151 = .ok (.aload_n 0, 1) := by decide +kernel
theorem dX9_worth_152 : decode cX9_worth 152 = .ok (.getfield 143, 3) := by decide +kernel
theorem dX9_worth_155 : decode cX9_worth 155 = .ok (.iload 8, 2) := by decide +kernel
theorem dX9_worth_157 : decode cX9_worth 157 = .ok (.daload, 1) := by decide +kernel
theorem dX9_worth_158 : decode cX9_worth 158 = .ok (.invokestatic 211, 3) := by decide +kernel
theorem dX9_worth_161 : decode cX9_worth 161 = .ok (.dreturn, 1) := by decide +kernel
theorem dX9_worth_162 : decode cX9_worth 162 = .ok (.aload_n 0, 1) := by decide +kernel
theorem dX9_worth_163 : decode cX9_worth 163 = .ok (.getfield 143, 3) := by decide +kernel
theorem dX9_worth_166 : decode cX9_worth 166 = .ok (.iload 7, 2) := by decide +kernel
theorem dX9_worth_168 : decode cX9_worth 168 = .ok (.daload, 1) := by decide +kernel
theorem dX9_worth_169 : decode cX9_worth 169 = .ok (.aload_n 0, 1) := by decide +kernel
theorem dX9_worth_170 : decode cX9_worth 170 = .ok (.getfield 143, 3) := by decide +kernel
theorem dX9_worth_173 : decode cX9_worth 173 = .ok (.iload 8, 2) := by decide +kernel
theorem dX9_worth_175 : decode cX9_worth 175 = .ok (.daload, 1) := by decide +kernel
theorem dX9_worth_176 : decode cX9_worth 176 = .ok (.invokestatic 208, 3) := by decide +kernel
theorem dX9_worth_179 : decode cX9_worth 179 = .ok (.dreturn, 1) := by decide +kernel
theorem dX9_worth_180 : decode cX9_worth 180 = .ok (.aload_n 0, 1) := by decide +kernel
theorem dX9_worth_181 : decode cX9_worth 181 = .ok (.getfield 143, 3) := by decide +kernel
theorem dX9_worth_184 : decode cX9_worth 184 = .ok (.iload 7, 2) := by decide +kernel
theorem dX9_worth_186 : decode cX9_worth 186 = .ok (.daload, 1) := by decide +kernel
theorem dX9_worth_187 : decode cX9_worth 187 = .ok (.invokestatic 217, 3) := by decide +kernel
theorem dX9_worth_190 : decode cX9_worth 190 = .ok (.dreturn, 1) := by decide +kernel
theorem dX9_worth_191 : decode cX9_worth 191 = .ok (.aload_n 0, 1) := by decide +kernel
theorem dX9_worth_192 : decode cX9_worth 192 = .ok (.getfield 143, 3) := by decide +kernel
theorem dX9_worth_195 : decode cX9_worth 195 = .ok (.iload 7, 2) := by decide +kernel
theorem dX9_worth_197 : decode cX9_worth 197 = .ok (.daload, 1) := by decide +kernel
theorem dX9_worth_198 : decode cX9_worth 198 = .ok (.invokestatic 221, 3) := by decide +kernel
theorem dX9_worth_201 : decode cX9_worth 201 = .ok (.dreturn, 1) := by decide +kernel
theorem dX9_worth_202 : decode cX9_worth 202 = .ok (.aload_n 0, 1) := by decide +kernel
theorem dX9_worth_203 : decode cX9_worth 203 = .ok (.getfield 143, 3) := by decide +kernel
theorem dX9_worth_206 : decode cX9_worth 206 = .ok (.iload 7, 2) := by decide +kernel
theorem dX9_worth_208 : decode cX9_worth 208 = .ok (.daload, 1) := by decide +kernel
theorem dX9_worth_209 : decode cX9_worth 209 = .ok (.aload_n 0, 1) := by decide +kernel
theorem dX9_worth_210 : decode cX9_worth 210 = .ok (.getfield 143, 3) := by decide +kernel
theorem dX9_worth_213 : decode cX9_worth 213 = .ok (.iload 8, 2) := by decide +kernel
theorem dX9_worth_215 : decode cX9_worth 215 = .ok (.daload, 1) := by decide +kernel
theorem dX9_worth_216 : decode cX9_worth 216 = .ok (.invokestatic 224, 3) := by decide +kernel
theorem dX9_worth_219 : decode cX9_worth 219 = .ok (.dreturn, 1) := by decide +kernel
theorem dX9_worth_220 : decode cX9_worth 220 = .ok (.aload_n 0, 1) := by decide +kernel
theorem dX9_worth_221 : decode cX9_worth 221 = .ok (.getfield 143, 3) := by decide +kernel
theorem dX9_worth_224 : decode cX9_worth 224 = .ok (.iload 7, 2) := by decide +kernel
theorem dX9_worth_226 : decode cX9_worth 226 = .ok (.daload, 1) := by decide +kernel
theorem dX9_worth_227 : decode cX9_worth 227 = .ok (.aload_n 0, 1) := by decide +kernel
theorem dX9_worth_228 : decode cX9_worth 228 = .ok (.getfield 143, 3) := by decide +kernel
theorem dX9_worth_231 : decode cX9_worth 231 = .ok (.iload 8, 2) := by decide +kernel
theorem dX9_worth_233 : decode cX9_worth 233 = .ok (.daload, 1) := by decide +kernel
theorem dX9_worth_234 : decode cX9_worth 234 = .ok (.invokestatic 227, 3) := by decide +kernel
theorem dX9_worth_237 : decode cX9_worth 237 = .ok (.dreturn, 1) := by decide +kernel
theorem dX9_worth_238 : decode cX9_worth 238 = .ok (.aload_n 0, 1) := by decide +kernel
theorem dX9_worth_239 : decode cX9_worth 239 = .ok (.getfield 143, 3) := by decide +kernel
theorem dX9_worth_242 : decode cX9_worth 242 = .ok (.iload 7, 2) := by decide +kernel
theorem dX9_worth_244 : decode cX9_worth 244 = .ok (.daload, 1) := by decide +kernel
theorem dX9_worth_245 : decode cX9_worth 245 = .ok (.dconst 0, 1) := by decide +kernel
theorem dX9_worth_246 : decode cX9_worth 246 = .ok (.dcmp .g, 1) := by decide +kernel
theorem dX9_worth_247 : decode cX9_worth 247 = .ok (.ifCond .ge 13, 3) := by decide +kernel
theorem dX9_worth_250 : decode cX9_worth 250 = .ok (.aload_n 0, 1) := by decide +kernel
theorem dX9_worth_251 : decode cX9_worth 251 = .ok (.getfield 143, 3) := by decide +kernel
theorem dX9_worth_254 : decode cX9_worth 254 = .ok (.iload 8, 2) := by decide +kernel
theorem dX9_worth_256 : decode cX9_worth 256 = .ok (.daload, 1) := by decide +kernel
theorem dX9_worth_257 : decode cX9_worth 257 = .ok (.goto 15, 3) := by decide +kernel
theorem dX9_worth_260 : decode cX9_worth 260 = .ok (.aload_n 0, 1) := by decide +kernel
theorem dX9_worth_261 : decode cX9_worth 261 = .ok (.getfield 143, 3) := by decide +kernel
theorem dX9_worth_264 : decode cX9_worth 264 = .ok (.aload_n 0, 1) := by decide +kernel
theorem dX9_worth_265 : decode cX9_worth 265 = .ok (.getfield 33, 3) := by decide +kernel
theorem dX9_worth_268 : decode cX9_worth 268 = .ok (.iload 6, 2) := by decide +kernel
theorem dX9_worth_270 : decode cX9_worth 270 = .ok (.iaload, 1) := by decide +kernel
theorem dX9_worth_271 : decode cX9_worth 271 = .ok (.daload, 1) := by decide +kernel
theorem dX9_worth_272 : decode cX9_worth 272 = .ok (.dreturn, 1) := by decide +kernel
theorem dX9_worth_273 : decode cX9_worth 273 = .ok (.aload_n 0, 1) := by decide +kernel
theorem dX9_worth_274 : decode cX9_worth 274 = .ok (.getfield 143, 3) := by decide +kernel
theorem dX9_worth_277 : decode cX9_worth 277 = .ok (.iload 7, 2) := by decide +kernel
theorem dX9_worth_279 : decode cX9_worth 279 = .ok (.daload, 1) := by decide +kernel
theorem dX9_worth_280 : decode cX9_worth 280 = .ok (.iload 8, 2) := by decide +kernel
theorem dX9_worth_282 : decode cX9_worth 282 = .ok (.invokestatic 230, 3) := by decide +kernel
theorem dX9_worth_285 : decode cX9_worth 285 = .ok (.dreturn, 1) := by decide +kernel
theorem dX9_worth_286 : decode cX9_worth 286 = .ok (.aload_n 0, 1) := by decide +kernel
theorem dX9_worth_287 : decode cX9_worth 287 = .ok (.iload 8, 2) := by decide +kernel
theorem dX9_worth_289 : decode cX9_worth 289 = .ok (.aload_n 0, 1) := by decide +kernel
theorem dX9_worth_290 : decode cX9_worth 290 = .ok (.getfield 143, 3) := by decide +kernel
theorem dX9_worth_293 : decode cX9_worth 293 = .ok (.iload 7, 2) := by decide +kernel
theorem dX9_worth_295 : decode cX9_worth 295 = .ok (.daload, 1) := by decide +kernel
theorem dX9_worth_296 : decode cX9_worth 296 = .ok (.invokevirtual 234, 3) := by decide +kernel
theorem dX9_worth_299 : decode cX9_worth 299 = .ok (.dreturn, 1) := by decide +kernel
theorem dX9_worth_300 : decode cX9_worth 300 = .ok (.aload_n 0, 1) := by decide +kernel
theorem dX9_worth_301 : decode cX9_worth 301 = .ok (.getfield 36, 3) := by decide +kernel
theorem dX9_worth_304 : decode cX9_worth 304 = .ok (.iload 6, 2) := by decide +kernel
theorem dX9_worth_306 : decode cX9_worth 306 = .ok (.daload, 1) := by decide +kernel
theorem dX9_worth_307 : decode cX9_worth 307 = .ok (.dreturn, 1) := by decide +kernel
theorem dX9_all_0 : decode cX9_all 0 = .ok (.iconst 0, 1) := by decide +kernel
theorem dX9_all_1 : decode cX9_all 1 = .ok (.istore 5, 2) := by decide +kernel
theorem dX9_all_3 : decode cX9_all 3 = .ok (.iload 5, 2) := by decide +kernel
theorem dX9_all_5 : decode cX9_all 5 = .ok (.aload_n 0, 1) := by decide +kernel
theorem dX9_all_6 : decode cX9_all 6 = .ok (.getfield 18, 3) := by decide +kernel
theorem dX9_all_9 : decode cX9_all 9 = .ok (.iload_n 1, 1) := by decide +kernel
theorem dX9_all_10 : decode cX9_all 10 = .ok (.iaload, 1) := by decide +kernel
theorem dX9_all_11 : decode cX9_all 11 = .ok (.if_icmp .ge 26, 3) := by decide +kernel
theorem dX9_all_14 : decode cX9_all 14 = .ok (.aload_n 0, 1) := by decide +kernel
theorem dX9_all_15 : decode cX9_all 15 = .ok (.getfield 143, 3) := by decide +kernel
theorem dX9_all_18 : decode cX9_all 18 = .ok (.iload 5, 2) := by decide +kernel
theorem dX9_all_20 : decode cX9_all 20 = .ok (.aload_n 0, 1) := by decide +kernel
theorem dX9_all_21 : decode cX9_all 21 = .ok (.iload_n 1, 1) := by decide +kernel
theorem dX9_all_22 : decode cX9_all 22 = .ok (.iload 5, 2) := by decide +kernel
theorem dX9_all_24 : decode cX9_all 24 = .ok (.dload_n 2, 1) := by decide +kernel
theorem dX9_all_25 : decode cX9_all 25 = .ok (.aload 4, 2) := by decide +kernel
theorem dX9_all_27 : decode cX9_all 27 = .ok (.invokevirtual 238, 3) := by decide +kernel
theorem dX9_all_30 : decode cX9_all 30 = .ok (.dastore, 1) := by decide +kernel
theorem dX9_all_31 : decode cX9_all 31 = .ok (.iinc 5 1, 3) := by decide +kernel
theorem dX9_all_34 : decode cX9_all 34 = .ok (.goto (-31), 3) := by decide +kernel
theorem dX9_all_37 : decode cX9_all 37 = .ok (.return_, 1) := by decide +kernel
theorem dX9_rates_0 : decode cX9_rates 0 = .ok (.aload_n 0, 1) := by decide +kernel
theorem dX9_rates_1 : decode cX9_rates 1 = .ok (.iload_n 1, 1) := by decide +kernel
theorem dX9_rates_2 : decode cX9_rates 2 = .ok (.dload_n 2, 1) := by decide +kernel
theorem dX9_rates_3 : decode cX9_rates 3 = .ok (.aload 4, 2) := by decide +kernel
