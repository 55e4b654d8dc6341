theorem dX9_event_21 : decode cX9_event 21 = .ok (.iconst 1, 1) := by decide +kernel
theorem dX9_event_22 : decode cX9_event 22 = .ok (.isub, 1) := by decide +kernel
theorem dX9_event_23 : decode cX9_event 23 = .ok (.invokestatic 343, 3) := by decide +kernel
theorem dX9_event_26 : decode cX9_event 26 = .ok (.ifCond .eq 22, 3) := by decide +kernel
theorem dX9_event_29 : decode cX9_event 29 = .ok (.iload_n 3, 1) := by decide +kernel
theorem dX9_event_30 : decode cX9_event 30 = .ok (.iconst (-1), 1) := by decide +kernel
theorem dX9_event_31 : decode cX9_event 31 = .ok (.iconst 1, 1) := by decide +kernel
theorem dX9_event_32 : decode cX9_event 32 = .ok (.invokestatic 343, 3) := by decide +kernel
theorem dX9_event_35 : decode cX9_event 35 = .ok (.ifCond .eq 13, 3) := by decide +kernel
theorem dX9_event_38 : decode cX9_event 38 = .ok (.iload 4, 2) := by decide +kernel
theorem dX9_event_40 : decode cX9_event 40 = .ok (.iconst 0, 1) := by decide +kernel
theorem dX9_event_41 : decode cX9_event 41 = .ok (.iconst 3, 1) := by decide +kernel
theorem dX9_event_42 : decode cX9_event 42 = .ok (.invokestatic 343, 3) := by decide +kernel
theorem dX9_event_45 : decode cX9_event 45 = .ok (.ifCond .ne 5, 3) := by decide +kernel
theorem dX9_event_48 : decode cX9_event 48 = .ok (.iconst (-1), 1) := by decide +kernel
theorem dX9_event_49 : decode cX9_event 49 = .ok (.ireturn, 1) := by decide +kernel
theorem dX9_event_50 : decode cX9_event 50 = .ok (.aload_n 0, 1) := by decide +kernel
theorem dX9_event_51 : decode cX9_event 51 = .ok (.getfield 58, 3) := by decide +kernel
theorem dX9_event_54 : decode cX9_event 54 = .ok (.iload_n 1, 1) := by decide +kernel
theorem dX9_event_55 : decode cX9_event 55 = .ok (.iaload, 1) := by decide +kernel
theorem dX9_event_56 : decode cX9_event 56 = .ok (.iconst 4, 1) := by decide +kernel
theorem dX9_event_57 : decode cX9_event 57 = .ok (.if_icmp .ne 6, 3) := by decide +kernel
theorem dX9_event_60 : decode cX9_event 60 = .ok (.bipush (-3), 2) := by decide +kernel
theorem dX9_event_62 : decode cX9_event 62 = .ok (.ireturn, 1) := by decide +kernel
theorem dX9_event_63 : decode cX9_event 63 = .ok (.iconst 4, 1) := by decide +kernel
theorem dX9_event_64 : decode cX9_event 64 = .ok (.iload_n 1, 1) := by decide +kernel
theorem dX9_event_65 : decode cX9_event 65 = .ok (.imul, 1) := by decide +kernel
theorem dX9_event_66 : decode cX9_event 66 = .ok (.aload_n 0, 1) := by decide +kernel
theorem dX9_event_67 : decode cX9_event 67 = .ok (.getfield 58, 3) := by decide +kernel
theorem dX9_event_70 : decode cX9_event 70 = .ok (.iload_n 1, 1) := by decide +kernel
theorem dX9_event_71 : decode cX9_event 71 = .ok (.iaload, 1) := by decide +kernel
theorem dX9_event_72 : decode cX9_event 72 = .ok (.iadd, 1) := by decide +kernel
theorem dX9_event_73 : decode cX9_event 73 = .ok (.istore 6, 2) := by decide +kernel
theorem dX9_event_75 : decode cX9_event 75 = .ok (.aload_n 0, 1) := by decide +kernel
theorem dX9_event_76 : decode cX9_event 76 = .ok (.getfield 101, 3) := by decide +kernel
theorem dX9_event_79 : decode cX9_event 79 = .ok (.iload 6, 2) := by decide +kernel
theorem dX9_event_81 : decode cX9_event 81 = .ok (.iload_n 2, 1) := by decide +kernel
theorem dX9_event_82 : decode cX9_event 82 = .ok (.iastore, 1) := by decide +kernel
theorem dX9_event_83 : decode cX9_event 83 = .ok (.aload_n 0, 1) := by decide +kernel
theorem dX9_event_84 : decode cX9_event 84 = .ok (.getfield 104, 3) := by decide +kernel
theorem dX9_event_87 : decode cX9_event 87 = .ok (.iload 6, 2) := by decide +kernel
theorem dX9_event_89 : decode cX9_event 89 = .ok (.iload_n 3, 1) := by decide +kernel
theorem dX9_event_90 : decode cX9_event 90 = .ok (.iastore, 1) := by decide +kernel
theorem dX9_event_91 : decode cX9_event 91 = .ok (.aload_n 0, 1) := by decide +kernel
theorem dX9_event_92 : decode cX9_event 92 = .ok (.getfield 107, 3) := by decide +kernel
theorem dX9_event_95 : decode cX9_event 95 = .ok (.iload 6, 2) := by decide +kernel
theorem dX9_event_97 : decode cX9_event 97 = .ok (.iload 4, 2) := by decide +kernel
theorem dX9_event_99 : decode cX9_event 99 = .ok (.iastore, 1) := by decide +kernel
theorem dX9_event_100 : decode cX9_event 100 = .ok (.aload_n 0, 1) := by decide +kernel
theorem dX9_event_101 : decode cX9_event 101 = .ok (.getfield 110, 3) := by decide +kernel
theorem dX9_event_104 : decode cX9_event 104 = .ok (.iload 6, 2) := by decide +kernel
theorem dX9_event_106 : decode cX9_event 106 = .ok (.iload 5, 2) := by decide +kernel
theorem dX9_event_108 : decode cX9_event 108 = .ok (.iastore, 1) := by decide +kernel
theorem dX9_event_109 : decode cX9_event 109 = .ok (.aload_n 0, 1) := by decide +kernel
theorem dX9_event_110 : decode cX9_event 110 = .ok (.getfield 58, 3) := by decide +kernel
theorem dX9_event_113 : decode cX9_event 113 = .ok (.iload_n 1, 1) := by decide +kernel
theorem dX9_event_114 : decode cX9_event 114 = .ok (.dup2, 1) := by decide +kernel
theorem dX9_event_115 : decode cX9_event 115 = .ok (.iaload, 1) := by decide +kernel
theorem dX9_event_116 : decode cX9_event 116 = .ok (.iconst 1, 1) := by decide +kernel
theorem dX9_event_117 : decode cX9_event 117 = .ok (.iadd, 1) := by decide +kernel
theorem dX9_event_118 : decode cX9_event 118 = .ok (.iastore, 1) := by decide +kernel
theorem dX9_event_119 : decode cX9_event 119 = .ok (.aload_n 0, 1) := by decide +kernel
theorem dX9_event_120 : decode cX9_event 120 = .ok (.getfield 58, 3) := by decide +kernel
theorem dX9_event_123 : decode cX9_event 123 = .ok (.iload_n 1, 1) := by decide +kernel
theorem dX9_event_124 : decode cX9_event 124 = .ok (.iaload, 1) := by decide +kernel
theorem dX9_event_125 : decode cX9_event 125 = .ok (.iconst 1, 1) := by decide +kernel
theorem dX9_event_126 : decode cX9_event 126 = .ok (.isub, 1) := by decide +kernel
theorem dX9_event_127 : decode cX9_event 127 = .ok (.ireturn, 1) := by decide +kernel
theorem dX9_step_0 : decode cX9_step 0 = .ok (.aload_n 0, 1) := by decide +kernel
theorem dX9_step_1 : decode cX9_step 1 = .ok (.iload_n 1, 1) := by decide +kernel
theorem dX9_step_2 : decode cX9_step 2 = .ok (.invokevirtual 366, 3) := by decide +kernel
theorem dX9_step_5 : decode cX9_step 5 = .ok (.ifCond .ne 5, 3) := by decide +kernel
theorem dX9_step_8 : decode cX9_step 8 = .ok (.iconst (-1), 1) := by decide +kernel
theorem dX9_step_9 : decode cX9_step 9 = .ok (.ireturn, 1) := by decide +kernel
theorem dX9_step_10 : decode cX9_step 10 = .ok (.aload_n 0, 1) := by decide +kernel
theorem dX9_step_11 : decode cX9_step 11 = .ok (.getfield 73, 3) := by decide +kernel
theorem dX9_step_14 : decode cX9_step 14 = .ok (.iload_n 1, 1) := by decide +kernel
theorem dX9_step_15 : decode cX9_step 15 = .ok (.baload, 1) := by decide +kernel
theorem dX9_step_16 : decode cX9_step 16 = .ok (.ifCond .eq 8, 3) := by decide +kernel
theorem dX9_step_19 : decode cX9_step 19 = .ok (.bipush (-2), 2) := by decide +kernel
theorem dX9_step_21 : decode cX9_step 21 = .ok (.goto 16, 3) := by decide +kernel
theorem dX9_step_24 : decode cX9_step 24 = .ok (.aload_n 0, 1) := by decide +kernel
theorem dX9_step_25 : decode cX9_step 25 = .ok (.iload_n 1, 1) := by decide +kernel
theorem dX9_step_26 : decode cX9_step 26 = .ok (.aload_n 0, 1) := by decide +kernel
theorem dX9_step_27 : decode cX9_step 27 = .ok (.getfield 86, 3) := by decide +kernel
theorem dX9_step_30 : decode cX9_step 30 = .ok (.iload_n 1, 1) := by decide +kernel
theorem dX9_step_31 : decode cX9_step 31 = .ok (.daload, 1) := by decide +kernel
theorem dX9_step_32 : decode cX9_step 32 = .ok (.iconst 0, 1) := by decide +kernel
theorem dX9_step_33 : decode cX9_step 33 = .ok (.dconst 0, 1) := by decide +kernel
theorem dX9_step_34 : decode cX9_step 34 = .ok (.invokevirtual 370, 3) := by decide +kernel
theorem dX9_step_37 : decode cX9_step 37 = .ok (.ireturn, 1) := by decide +kernel
theorem dX9_to_0 : decode cX9_to 0 = .ok (.aload_n 0, 1) := by decide +kernel
theorem dX9_to_1 : decode cX9_to 1 = .ok (.iload_n 1, 1) := by decide +kernel
theorem dX9_to_2 : decode cX9_to 2 = .ok (.invokevirtual 366, 3) := by decide +kernel
theorem dX9_to_5 : decode cX9_to 5 = .ok (.ifCond .eq 26, 3) := by decide +kernel
theorem dX9_to_8 : decode cX9_to 8 = .ok (.iload 4, 2) := by decide +kernel
theorem dX9_to_10 : decode cX9_to 10 = .ok (.iconst 0, 1) := by decide +kernel
theorem dX9_to_11 : decode cX9_to 11 = .ok (.bipush 30, 2) := by decide +kernel
theorem dX9_to_13 : decode cX9_to 13 = .ok (.invokestatic 343, 3) := by decide +kernel
theorem dX9_to_16 : decode cX9_to 16 = .ok (.ifCond .eq 15, 3) := by decide +kernel
theorem dX9_to_19 : decode cX9_to 19 = .ok (.iload 5, 2) := by decide +kernel
theorem dX9_to_21 : decode cX9_to 21 = .ok (.iconst 1, 1) := by decide +kernel
theorem dX9_to_22 : decode cX9_to 22 = .ok (.sipush 200, 3) := by decide +kernel
theorem dX9_to_25 : decode cX9_to 25 = .ok (.invokestatic 343, 3) := by decide +kernel
theorem dX9_to_28 : decode cX9_to 28 = .ok (.ifCond .ne 5, 3) := by decide +kernel
theorem dX9_to_31 : decode cX9_to 31 = .ok (.iconst (-1), 1) := by decide +kernel
theorem dX9_to_32 : decode cX9_to 32 = .ok (.ireturn, 1) := by decide +kernel
theorem dX9_to_33 : decode cX9_to 33 = .ok (.aload_n 0, 1) := by decide +kernel
theorem dX9_to_34 : decode cX9_to 34 = .ok (.getfield 73, 3) := by decide +kernel
theorem dX9_to_37 : decode cX9_to 37 = .ok (.iload_n 1, 1) := by decide +kernel
theorem dX9_to_38 : decode cX9_to 38 = .ok (.baload, 1) := by decide +kernel
theorem dX9_to_39 : decode cX9_to 39 = .ok (.ifCond .eq 6, 3) := by decide +kernel
theorem dX9_to_42 : decode cX9_to 42 = .ok (.bipush (-2), 2) := by decide +kernel
theorem dX9_to_44 : decode cX9_to 44 = .ok (.ireturn, 1) := by decide +kernel
theorem dX9_to_45 : decode cX9_to 45 = .ok (.lload_n 2, 1) := by decide +kernel
theorem dX9_to_46 : decode cX9_to 46 = .ok (.iload 4, 2) := by decide +kernel
theorem dX9_to_48 : decode cX9_to 48 = .ok (.invokestatic 354, 3) := by decide +kernel
theorem dX9_to_51 : decode cX9_to 51 = .ok (.dstore 6, 2) := by decide +kernel
theorem dX9_to_53 : decode cX9_to 53 = .ok (.dload 6, 2) := by decide +kernel
theorem dX9_to_55 : decode cX9_to 55 = .ok (.aload_n 0, 1) := by decide +kernel
theorem dX9_to_56 : decode cX9_to 56 = .ok (.getfield 83, 3) := by decide +kernel
theorem dX9_to_59 : decode cX9_to 59 = .ok (.iload_n 1, 1) := by decide +kernel
theorem dX9_to_60 : decode cX9_to 60 = .ok (.daload, 1) := by decide +kernel
theorem dX9_to_61 : decode cX9_to 61 = .ok (.dsub, 1) := by decide +kernel
theorem dX9_to_62 : decode cX9_to 62 = .ok (.dstore 8, 2) := by decide +kernel
theorem dX9_to_64 : decode cX9_to 64 = .ok (.dload 8, 2) := by decide +kernel
theorem dX9_to_66 : decode cX9_to 66 = .ok (.dconst 0, 1) := by decide +kernel
theorem dX9_to_67 : decode cX9_to 67 = .ok (.dcmp .l, 1) := by decide +kernel
theorem dX9_to_68 : decode cX9_to 68 = .ok (.ifCond .eq 37, 3) := by decide +kernel
theorem dX9_to_71 : decode cX9_to 71 = .ok (.dload 8, 2) := by decide +kernel
theorem dX9_to_73 : decode cX9_to 73 = .ok (.dconst 0, 1) := by decide +kernel
theorem dX9_to_74 : decode cX9_to 74 = .ok (.dcmp .g, 1) := by decide +kernel
theorem dX9_to_75 : decode cX9_to 75 = .ok (.ifCond .ge 7, 3) := by decide +kernel
theorem dX9_to_78 : decode cX9_to 78 = .ok (.iconst 1, 1) := by decide +kernel
theorem dX9_to_79 : decode cX9_to 79 = .ok (.goto 4, 3) := by decide +kernel
theorem dX9_to_82 : decode cX9_to 82 = .ok (.iconst 0, 1) := by decide +kernel
theorem dX9_to_83 : decode cX9_to 83 = .ok (.aload_n 0, 1) := by decide +kernel
theorem dX9_to_84 : decode cX9_to 84 = .ok (.getfield 86, 3) := by decide +kernel
theorem dX9_to_87 : decode cX9_to 87 = .ok (.iload_n 1, 1) := by decide +kernel
theorem dX9_to_88 : decode cX9_to 88 = .ok (.daload, 1) := by decide +kernel
theorem dX9_to_89 : decode cX9_to 89 = .ok (.dconst 0, 1) := by decide +kernel
theorem dX9_to_90 : decode cX9_to 90 = .ok (.dcmp .g, 1) := by decide +kernel
theorem dX9_to_91 : decode cX9_to 91 = .ok (.ifCond .ge 7, 3) := by decide +kernel
theorem dX9_to_94 : decode cX9_to 94 = .ok (.iconst 1, 1) := by decide +kernel
theorem dX9_to_95 : decode cX9_to 95 = .ok (.goto 4, 3) := by decide +kernel
theorem dX9_to_98 : decode cX9_to 98 = .ok (.iconst 0, 1) := by decide +kernel
theorem dX9_to_99 : decode cX9_to 99 = .ok (.if_icmp .eq 6, 3) := by decide +kernel
theorem dX9_to_102 : decode cX9_to 102 = .ok (.bipush (-2), 2) := by decide +kernel
theorem dX9_to_104 : decode cX9_to 104 = .ok (.ireturn, 1) := by decide +kernel
theorem dX9_to_105 : decode cX9_to 105 = .ok (.aload_n 0, 1) := by decide +kernel
theorem dX9_to_106 : decode cX9_to 106 = .ok (.iload_n 1, 1) := by decide +kernel
theorem dX9_to_107 : decode cX9_to 107 = .ok (.bipush 8, 2) := by decide +kernel
theorem dX9_to_109 : decode cX9_to 109 = .ok (.invokevirtual 374, 3) := by decide +kernel
theorem dX9_to_112 : decode cX9_to 112 = .ok (.iconst 0, 1) := by decide +kernel
theorem dX9_to_113 : decode cX9_to 113 = .ok (.istore 10, 2) := by decide +kernel
theorem dX9_to_115 : decode cX9_to 115 = .ok (.dload 8, 2) := by decide +kernel
theorem dX9_to_117 : decode cX9_to 117 = .ok (.dconst 0, 1) := by decide +kernel
theorem dX9_to_118 : decode cX9_to 118 = .ok (.dcmp .l, 1) := by decide +kernel
theorem dX9_to_119 : decode cX9_to 119 = .ok (.ifCond .eq 103, 3) := by decide +kernel
theorem dX9_to_122 : decode cX9_to 122 = .ok (.iload 10, 2) := by decide +kernel
theorem dX9_to_124 : decode cX9_to 124 = .ok (.iload 5, 2) := by decide +kernel
theorem dX9_to_126 : decode cX9_to 126 = .ok (.if_icmp .ge 96, 3) := by decide +kernel
theorem dX9_to_129 : decode cX9_to 129 = .ok (.aload_n 0, 1) := by decide +kernel
theorem dX9_to_130 : decode cX9_to 130 = .ok (.getfield 73, 3) := by decide +kernel
theorem dX9_to_133 : decode cX9_to 133 = .ok (.iload_n 1, 1) := by decide +kernel
theorem dX9_to_134 : decode cX9_to 134 = .ok (.baload, 1) := by decide +kernel
theorem dX9_to_135 : decode cX9_to 135 = .ok (.ifCond .ne 87, 3) := by decide +kernel
theorem dX9_to_138 : decode cX9_to 138 = .ok (.dload 8, 2) := by decide +kernel
theorem dX9_to_140 : decode cX9_to 140 = .ok (.invokestatic 221, 3) := by decide +kernel
theorem dX9_to_143 : decode cX9_to 143 = .ok (.aload_n 0, 1) := by decide +kernel
theorem dX9_to_144 : decode cX9_to 144 = .ok (.getfield 86, 3) := by decide +kernel
theorem dX9_to_147 : decode cX9_to 147 = .ok (.iload_n 1, 1) := by decide +kernel
theorem dX9_to_148 : decode cX9_to 148 = .ok (.daload, 1) := by decide +kernel
theorem dX9_to_149 : decode cX9_to 149 = .ok (.invokestatic 221, 3) := by decide +kernel
theorem dX9_to_152 : decode cX9_to 152 = .ok (.dcmp .g, 1) := by decide +kernel
theorem dX9_to_153 : decode cX9_to 153 = .ok (.ifCond .gt 7, 3) := by decide +kernel
theorem dX9_to_156 : decode cX9_to 156 = .ok (.iconst 1, 1) := by decide +kernel
theorem dX9_to_157 : decode cX9_to 157 = .ok (.goto 4, 3) := by decide +kernel
theorem dX9_to_160 : decode cX9_to 160 = .ok (.iconst 0, 1) := by decide +kernel
theorem dX9_to_161 : decode cX9_to 161 = .ok (.istore 11, 2) := by decide +kernel
theorem dX9_to_163 : decode cX9_to 163 = .ok (.aload_n 0, 1) := by decide +kernel
theorem dX9_to_164 : decode cX9_to 164 = .ok (.iload_n 1, 1) := by decide +kernel
theorem dX9_to_165 : decode cX9_to 165 = .ok (.iload 11, 2) := by decide +kernel
theorem dX9_to_167 : decode cX9_to 167 = .ok (.ifCond .eq 8, 3) := by decide +kernel
theorem dX9_to_170 : decode cX9_to 170 = .ok (.dload 8, 2) := by decide +kernel
theorem dX9_to_172 : decode cX9_to 172 = .ok (.goto 9, 3) := by decide +kernel
theorem dX9_to_175 : decode cX9_to 175 = .ok (.aload_n 0, 1) := by decide +kernel
theorem dX9_to_176 : decode cX9_to 176 = .ok (.getfield 86, 3) := by decide +kernel
theorem dX9_to_179 : decode cX9_to 179 = .ok (.iload_n 1, 1) := by decide +kernel
theorem dX9_to_180 : decode cX9_to 180 = .ok (.daload, 1) := by decide +kernel
theorem dX9_to_181 : decode cX9_to 181 = .ok (.iload 11, 2) := by decide +kernel
theorem dX9_to_183 : decode cX9_to 183 = .ok (.dload 6, 2) := by decide +kernel
theorem dX9_to_185 : decode cX9_to 185 = .ok (.invokevirtual 370, 3) := by decide +kernel
theorem dX9_to_188 : decode cX9_to 188 = .ok (.istore 12, 2) := by decide +kernel
theorem dX9_to_190 : decode cX9_to 190 = .ok (.iload 12, 2) := by decide +kernel
theorem dX9_to_192 : decode cX9_to 192 = .ok (.ifCond .ge 13, 3) := by decide +kernel
theorem dX9_to_195 : decode cX9_to 195 = .ok (.aload_n 0, 1) := by decide +kernel
theorem dX9_to_196 : decode cX9_to 196 = .ok (.bipush 8, 2) := by decide +kernel
theorem dX9_to_198 : decode cX9_to 198 = .ok (.iload_n 1, 1) := by decide +kernel
theorem dX9_to_199 : decode cX9_to 199 = .ok (.invokevirtual 374, 3) := by decide +kernel
theorem dX9_to_202 : decode cX9_to 202 = .ok (.iload 12, 2) := by decide +kernel
theorem dX9_to_204 : decode cX9_to 204 = .ok (.ireturn, 1) := by decide +kernel
theorem dX9_to_205 : decode cX9_to 205 = .ok (.iinc 10 1, 3) := by decide +kernel
theorem dX9_to_208 : decode cX9_to 208 = .ok (.dload 6, 2) := by decide +kernel
theorem dX9_to_210 : decode cX9_to 210 = .ok (.aload_n 0, 1) := by decide +kernel
theorem dX9_to_211 : decode cX9_to 211 = .ok (.getfield 83, 3) := by decide +kernel
theorem dX9_to_214 : decode cX9_to 214 = .ok (.iload_n 1, 1) := by decide +kernel
theorem dX9_to_215 : decode cX9_to 215 = .ok (.daload, 1) := by decide +kernel
theorem dX9_to_216 : decode cX9_to 216 = .ok (.dsub, 1) := by decide +kernel
theorem dX9_to_217 : decode cX9_to 217 = .ok (.dstore 8, 2) := by decide +kernel
theorem dX9_to_219 : decode cX9_to 219 = .ok (.goto (-104), 3) := by decide +kernel
theorem dX9_to_222 : decode cX9_to 222 = .ok (.iload 10, 2) := by decide +kernel
theorem dX9_to_224 : decode cX9_to 224 = .ok (.ireturn, 1) := by decide +kernel
theorem dX9_state_0 : decode cX9_state 0 = .ok (.aload_n 0, 1) := by decide +kernel
theorem dX9_state_1 : decode cX9_state 1 = .ok (.iload_n 1, 1) := by decide +kernel
theorem dX9_state_2 : decode cX9_state 2 = .ok (.invokevirtual 366, 3) := by decide +kernel
theorem dX9_state_5 : decode cX9_state 5 = .ok (.ifCond .eq 41, 3) := by decide +kernel
theorem dX9_state_8 : decode cX9_state 8 = .ok (.iload_n 2, 1) := by decide +kernel
theorem dX9_state_9 : decode cX9_state 9 = .ok (.iconst 0, 1) := by decide +kernel
theorem dX9_state_10 : decode cX9_state 10 = .ok (.aload_n 0, 1) := by decide +kernel
theorem dX9_state_11 : decode cX9_state 11 = .ok (.getfield 9, 3) := by decide +kernel
theorem dX9_state_14 : decode cX9_state 14 = .ok (.aload_n 0, 1) := by decide +kernel
theorem dX9_state_15 : decode cX9_state 15 = .ok (.getfield 52, 3) := by decide +kernel
theorem dX9_state_18 : decode cX9_state 18 = .ok (.iload_n 1, 1) := by decide +kernel
theorem dX9_state_19 : decode cX9_state 19 = .ok (.iaload, 1) := by decide +kernel
theorem dX9_state_20 : decode cX9_state 20 = .ok (.iaload, 1) := by decide +kernel
theorem dX9_state_21 : decode cX9_state 21 = .ok (.iconst 1, 1) := by decide +kernel
theorem dX9_state_22 : decode cX9_state 22 = .ok (.isub, 1) := by decide +kernel
theorem dX9_state_23 : decode cX9_state 23 = .ok (.invokestatic 343, 3) := by decide +kernel
theorem dX9_state_26 : decode cX9_state 26 = .ok (.ifCond .eq 20, 3) := by decide +kernel
theorem dX9_state_29 : decode cX9_state 29 = .ok (.aload_n 0, 1) := by decide +kernel
theorem dX9_state_30 : decode cX9_state 30 = .ok (.getfield 98, 3) := by decide +kernel
theorem dX9_state_33 : decode cX9_state 33 = .ok (.bipush 6, 2) := by decide +kernel
theorem dX9_state_35 : decode cX9_state 35 = .ok (.iload_n 1, 1) := by decide +kernel
theorem dX9_state_36 : decode cX9_state 36 = .ok (.imul, 1) := by decide +kernel
theorem dX9_state_37 : decode cX9_state 37 = .ok (.iload_n 2, 1) := by decide +kernel
theorem dX9_state_38 : decode cX9_state 38 = .ok (.iadd, 1) := by decide +kernel
theorem dX9_state_39 : decode cX9_state 39 = .ok (.daload, 1) := by decide +kernel
theorem dX9_state_40 : decode cX9_state 40 = .ok (.invokestatic 377, 3) := by decide +kernel
theorem dX9_state_43 : decode cX9_state 43 = .ok (.goto 6, 3) := by decide +kernel
theorem dX9_state_46 : decode cX9_state 46 = .ok (.ldc2_w 198, 3) := by decide +kernel
theorem dX9_state_49 : decode cX9_state 49 = .ok (.lreturn, 1) := by decide +kernel
theorem dX9_clock_0 : decode cX9_clock 0 = .ok (.aload_n 0, 1) := by decide +kernel
theorem dX9_clock_1 : decode cX9_clock 1 = .ok (.iload_n 1, 1) := by decide +kernel
theorem dX9_clock_2 : decode cX9_clock 2 = .ok (.invokevirtual 366, 3) := by decide +kernel
theorem dX9_clock_5 : decode cX9_clock 5 = .ok (.ifCond .ne 7, 3) := by decide +kernel
theorem dX9_clock_8 : decode cX9_clock 8 = .ok (.ldc2_w 198, 3) := by decide +kernel
theorem dX9_clock_11 : decode cX9_clock 11 = .ok (.lreturn, 1) := by decide +kernel
theorem dX9_clock_12 : decode cX9_clock 12 = .ok (.iload_n 2, 1) := by decide +kernel
theorem dX9_clock_13 : decode cX9_clock 13 = .ok (.tableswitch 71 0 3 #[31, 41, 51, 61], 31) := by decide +kernel
theorem dX9_clock_44 : decode cX9_clock 44 = .ok (.aload_n 0, 1) := by decide +kernel
theorem dX9_clock_45 : decode cX9_clock 45 = .ok (.getfield 83, 3) := by decide +kernel
theorem dX9_clock_48 : decode cX9_clock 48 = .ok (.iload_n 1, 1) := by decide +kernel
theorem dX9_clock_49 : decode cX9_clock 49 = .ok (.daload, 1) := by decide +kernel
theorem dX9_clock_50 : decode cX9_clock 50 = .ok (.invokestatic 377, 3) := by decide +kernel
theorem dX9_clock_53 : decode cX9_clock 53 = .ok (.lreturn, 1) := by decide +kernel
theorem dX9_clock_54 : decode cX9_clock 54 = .ok (.aload_n 0, 1) := by decide +kernel
theorem dX9_clock_55 : decode cX9_clock 55 = .ok (.getfield 86, 3) := by decide +kernel
theorem dX9_clock_58 : decode cX9_clock 58 = .ok (.iload_n 1, 1) := by decide +kernel
theorem dX9_clock_59 : decode cX9_clock 59 = .ok (.daload, 1) := by decide +kernel
theorem dX9_clock_60 : decode cX9_clock 60 = .ok (.invokestatic 377, 3) := by decide +kernel
theorem dX9_clock_63 : decode cX9_clock 63 = .ok (.lreturn, 1) := by decide +kernel
theorem dX9_clock_64 : decode cX9_clock 64 = .ok (.aload_n 0, 1) := by decide +kernel
theorem dX9_clock_65 : decode cX9_clock 65 = .ok (.getfield 95, 3) := by decide +kernel
theorem dX9_clock_68 : decode cX9_clock 68 = .ok (.iload_n 1, 1) := by decide +kernel
theorem dX9_clock_69 : decode cX9_clock 69 = .ok (.daload, 1) := by decide +kernel
theorem dX9_clock_70 : decode cX9_clock 70 = .ok (.invokestatic 377, 3) := by decide +kernel
theorem dX9_clock_73 : decode cX9_clock 73 = .ok (.lreturn, 1) := by decide +kernel
theorem dX9_clock_74 : decode cX9_clock 74 = .ok (.aload_n 0, 1) := by decide +kernel
theorem dX9_clock_75 : decode cX9_clock 75 = .ok (.getfield 125, 3) := by decide +kernel
theorem dX9_clock_78 : decode cX9_clock 78 = .ok (.iload_n 1, 1) := by decide +kernel
theorem dX9_clock_79 : decode cX9_clock 79 = .ok (.daload, 1) := by decide +kernel
theorem dX9_clock_80 : decode cX9_clock 80 = .ok (.invokestatic 377, 3) := by decide +kernel
theorem dX9_clock_83 : decode cX9_clock 83 = .ok (.lreturn, 1) := by decide +kernel
theorem dX9_clock_84 : decode cX9_clock 84 = .ok (.ldc2_w 198, 3) := by decide +kernel
theorem dX9_clock_87 : decode cX9_clock 87 = .ok (.lreturn, 1) := by decide +kernel
theorem dX9_count_0 : decode cX9_count 0 = .ok (.aload_n 0, 1) := by decide +kernel
theorem dX9_count_1 : decode cX9_count 1 = .ok (.iload_n 1, 1) := by decide +kernel
theorem dX9_count_2 : decode cX9_count 2 = .ok (.invokevirtual 366, 3) := by decide +kernel
theorem dX9_count_5 : decode cX9_count 5 = .ok (.ifCond .ne 5, 3) := by decide +kernel
theorem dX9_count_8 : decode cX9_count 8 = .ok (.iconst (-1), 1) := by decide +kernel
theorem dX9_count_9 : decode cX9_count 9 = .ok (.ireturn, 1) := by decide +kernel
theorem dX9_count_10 : decode cX9_count 10 = .ok (.iload_n 2, 1) := by decide +kernel
theorem dX9_count_11 : decode cX9_count 11 = .ok (.tableswitch 109 0 7 #[45, 52, 59, 66, 73, 80, 95, 102], 45) := by decide +kernel
theorem dX9_count_56 : decode cX9_count 56 = .ok (.aload_n 0, 1) := by decide +kernel
theorem dX9_count_57 : decode cX9_count 57 = .ok (.getfield 52, 3) := by decide +kernel
theorem dX9_count_60 : decode cX9_count 60 = .ok (.iload_n 1, 1) := by decide +kernel
theorem dX9_count_61 : decode cX9_count 61 = .ok (.iaload, 1) := by decide +kernel
theorem dX9_count_62 : decode cX9_count 62 = .ok (.ireturn, 1) := by decide +kernel
theorem dX9_count_63 : decode cX9_count 63 = .ok (.aload_n 0, 1) := by decide +kernel
theorem dX9_count_64 : decode cX9_count 64 = .ok (.getfield 55, 3) := by decide +kernel
theorem dX9_count_67 : decode cX9_count 67 = .ok (.iload_n 1, 1) := by decide +kernel
theorem dX9_count_68 : decode cX9_count 68 = .ok (.iaload, 1) := by decide +kernel
theorem dX9_count_69 : decode cX9_count 69 = .ok (.ireturn, 1) := by decide +kernel
theorem dX9_count_70 : decode cX9_count 70 = .ok (.aload_n 0, 1) := by decide +kernel
theorem dX9_count_71 : decode cX9_count 71 = .ok (.getfield 61, 3) := by decide +kernel
theorem dX9_count_74 : decode cX9_count 74 = .ok (.iload_n 1, 1) := by decide +kernel
theorem dX9_count_75 : decode cX9_count 75 = .ok (.iaload, 1) := by decide +kernel
theorem dX9_count_76 : decode cX9_count 76 = .ok (.ireturn, 1) := by decide +kernel
theorem dX9_count_77 : decode cX9_count 77 = .ok (.aload_n 0, 1) := by decide +kernel
theorem dX9_count_78 : decode cX9_count 78 = .ok (.getfield 64, 3) := by decide +kernel
theorem dX9_count_81 : decode cX9_count 81 = .ok (.iload_n 1, 1) := by decide +kernel
theorem dX9_count_82 : decode cX9_count 82 = .ok (.iaload, 1) := by decide +kernel
theorem dX9_count_83 : decode cX9_count 83 = .ok (.ireturn, 1) := by decide +kernel
theorem dX9_count_84 : decode cX9_count 84 = .ok (.aload_n 0, 1) := by decide +kernel
theorem dX9_count_85 : decode cX9_count 85 = .ok (.getfield 67, 3) := by decide +kernel
theorem dX9_count_88 : decode cX9_count 88 = .ok (.iload_n 1, 1) := by decide +kernel
theorem dX9_count_89 : decode cX9_count 89 = .ok (.iaload, 1) := by decide +kernel
theorem dX9_count_90 : decode cX9_count 90 = .ok (.ireturn, 1) := by decide +kernel
theorem dX9_count_91 : decode cX9_count 91 = .ok (.aload_n 0, 1) := by decide +kernel
theorem dX9_count_92 : decode cX9_count 92 = .ok (.getfield 73, 3) := by decide +kernel
theorem dX9_count_95 : decode cX9_count 95 = .ok (.iload_n 1, 1) := by decide +kernel
theorem dX9_count_96 : decode cX9_count 96 = .ok (.baload, 1) := by decide +kernel
theorem dX9_count_97 : decode cX9_count 97 = .ok (.ifCond .eq 7, 3) := by decide +kernel
theorem dX9_count_100 : decode cX9_count 100 = .ok (.iconst 1, 1) := by decide +kernel
theorem dX9_count_101 : decode cX9_count 101 = .ok (.goto 4, 3) := by decide +kernel
theorem dX9_count_104 : decode cX9_count 104 = .ok (.iconst 0, 1) := by decide +kernel
theorem dX9_count_105 : decode cX9_count 105 = .ok (.ireturn, 1) := by decide +kernel
theorem dX9_count_106 : decode cX9_count 106 = .ok (.aload_n 0, 1) := by decide +kernel
theorem dX9_count_107 : decode cX9_count 107 = .ok (.getfield 58, 3) := by decide +kernel
theorem dX9_count_110 : decode cX9_count 110 = .ok (.iload_n 1, 1) := by decide +kernel
theorem dX9_count_111 : decode cX9_count 111 = .ok (.iaload, 1) := by decide +kernel
theorem dX9_count_112 : decode cX9_count 112 = .ok (.ireturn, 1) := by decide +kernel
theorem dX9_count_113 : decode cX9_count 113 = .ok (.aload_n 0, 1) := by decide +kernel
theorem dX9_count_114 : decode cX9_count 114 = .ok (.getfield 70, 3) := by decide +kernel
theorem dX9_count_117 : decode cX9_count 117 = .ok (.iload_n 1, 1) := by decide +kernel
theorem dX9_count_118 : decode cX9_count 118 = .ok (.iaload, 1) := by decide +kernel
theorem dX9_count_119 : decode cX9_count 119 = .ok (.ireturn, 1) := by decide +kernel
theorem dX9_count_120 : decode cX9_count 120 = .ok (.iconst (-1), 1) := by decide +kernel
theorem dX9_count_121 : decode cX9_count 121 = .ok (.ireturn, 1) := by decide +kernel
theorem dX9_stage_0 : decode cX9_stage 0 = .ok (.aload_n 0, 1) := by decide +kernel
theorem dX9_stage_1 : decode cX9_stage 1 = .ok (.iload_n 1, 1) := by decide +kernel
theorem dX9_stage_2 : decode cX9_stage 2 = .ok (.invokevirtual 366, 3) := by decide +kernel
theorem dX9_stage_5 : decode cX9_stage 5 = .ok (.ifCond .eq 33, 3) := by decide +kernel
theorem dX9_stage_8 : decode cX9_stage 8 = .ok (.iload_n 3, 1) := by decide +kernel
theorem dX9_stage_9 : decode cX9_stage 9 = .ok (.iconst 0, 1) := by decide +kernel
theorem dX9_stage_10 : decode cX9_stage 10 = .ok (.aload_n 0, 1) := by decide +kernel
theorem dX9_stage_11 : decode cX9_stage 11 = .ok (.getfield 9, 3) := by decide +kernel
theorem dX9_stage_14 : decode cX9_stage 14 = .ok (.aload_n 0, 1) := by decide +kernel
theorem dX9_stage_15 : decode cX9_stage 15 = .ok (.getfield 52, 3) := by decide +kernel
theorem dX9_stage_18 : decode cX9_stage 18 = .ok (.iload_n 1, 1) := by decide +kernel
theorem dX9_stage_19 : decode cX9_stage 19 = .ok (.iaload, 1) := by decide +kernel
theorem dX9_stage_20 : decode cX9_stage 20 = .ok (.iaload, 1) := by decide +kernel
theorem dX9_stage_21 : decode cX9_stage 21 = .ok (.iconst 1, 1) := by decide +kernel
theorem dX9_stage_22 : decode cX9_stage 22 = .ok (.isub, 1) := by decide +kernel
theorem dX9_stage_23 : decode cX9_stage 23 = .ok (.invokestatic 343, 3) := by decide +kernel
theorem dX9_stage_26 : decode cX9_stage 26 = .ok (.ifCond .eq 12, 3) := by decide +kernel
theorem dX9_stage_29 : decode cX9_stage 29 = .ok (.aload_n 0, 1) := by decide +kernel
theorem dX9_stage_30 : decode cX9_stage 30 = .ok (.getfield 77, 3) := by decide +kernel
theorem dX9_stage_33 : decode cX9_stage 33 = .ok (.iload_n 1, 1) := by decide +kernel
theorem dX9_stage_34 : decode cX9_stage 34 = .ok (.baload, 1) := by decide +kernel
theorem dX9_stage_35 : decode cX9_stage 35 = .ok (.ifCond .ne 7, 3) := by decide +kernel
theorem dX9_stage_38 : decode cX9_stage 38 = .ok (.ldc2_w 198, 3) := by decide +kernel
theorem dX9_stage_41 : decode cX9_stage 41 = .ok (.lreturn, 1) := by decide +kernel
theorem dX9_stage_42 : decode cX9_stage 42 = .ok (.aload_n 0, 1) := by decide +kernel
theorem dX9_stage_43 : decode cX9_stage 43 = .ok (.getfield 119, 3) := by decide +kernel
theorem dX9_stage_46 : decode cX9_stage 46 = .ok (.iload_n 1, 1) := by decide +kernel
theorem dX9_stage_47 : decode cX9_stage 47 = .ok (.iaload, 1) := by decide +kernel
theorem dX9_stage_48 : decode cX9_stage 48 = .ok (.istore 4, 2) := by decide +kernel
theorem dX9_stage_50 : decode cX9_stage 50 = .ok (.iload 4, 2) := by decide +kernel
theorem dX9_stage_52 : decode cX9_stage 52 = .ok (.ifCond .ne 7, 3) := by decide +kernel
theorem dX9_stage_55 : decode cX9_stage 55 = .ok (.iconst 1, 1) := by decide +kernel
theorem dX9_stage_56 : decode cX9_stage 56 = .ok (.goto 37, 3) := by decide +kernel
theorem dX9_stage_59 : decode cX9_stage 59 = .ok (.iload 4, 2) := by decide +kernel
theorem dX9_stage_61 : decode cX9_stage 61 = .ok (.iconst 1, 1) := by decide +kernel
theorem dX9_stage_62 : decode cX9_stage 62 = .ok (.if_icmp .eq 9, 3) := by decide +kernel
theorem dX9_stage_65 : decode cX9_stage 65 = .ok (.iload 4, 2) := by decide +kernel
theorem dX9_stage_67 : decode cX9_stage 67 = .ok (.iconst 5, 1) := by decide +kernel
theorem dX9_stage_68 : decode cX9_stage 68 = .ok (.if_icmp .ne 7, 3) := by decide +kernel
theorem dX9_stage_71 : decode cX9_stage 71 = .ok (.iconst 2, 1) := by decide +kernel
theorem dX9_stage_72 : decode cX9_stage 72 = .ok (.goto 21, 3) := by decide +kernel
theorem dX9_stage_75 : decode cX9_stage 75 = .ok (.iload 4, 2) := by decide +kernel
theorem dX9_stage_77 : decode cX9_stage 77 = .ok (.iconst 2, 1) := by decide +kernel
theorem dX9_stage_78 : decode cX9_stage 78 = .ok (.if_icmp .eq 10, 3) := by decide +kernel
theorem dX9_stage_81 : decode cX9_stage 81 = .ok (.iload 4, 2) := by decide +kernel
theorem dX9_stage_83 : decode cX9_stage 83 = .ok (.bipush 6, 2) := by decide +kernel
theorem dX9_stage_85 : decode cX9_stage 85 = .ok (.if_icmp .ne 7, 3) := by decide +kernel
theorem dX9_stage_88 : decode cX9_stage 88 = .ok (.iconst 3, 1) := by decide +kernel
theorem dX9_stage_89 : decode cX9_stage 89 = .ok (.goto 4, 3) := by decide +kernel
theorem dX9_stage_92 : decode cX9_stage 92 = .ok (.iconst 4, 1) := by decide +kernel
theorem dX9_stage_93 : decode cX9_stage 93 = .ok (.istore 5, 2) := by decide +kernel
theorem dX9_stage_95 : decode cX9_stage 95 = .ok (.iload_n 2, 1) := by decide +kernel
theorem dX9_stage_96 : decode cX9_stage 96 = .ok (.iconst 1, 1) := by decide +kernel
theorem dX9_stage_97 : decode cX9_stage 97 = .ok (.iload 5, 2) := by decide +kernel
theorem dX9_stage_99 : decode cX9_stage 99 = .ok (.invokestatic 343, 3) := by decide +kernel
theorem dX9_stage_102 : decode cX9_stage 102 = .ok (.ifCond .ne 14, 3) := by decide +kernel
theorem dX9_stage_105 : decode cX9_stage 105 = .ok (.iload 4, 2) := by decide +kernel
theorem dX9_stage_107 : decode cX9_stage 107 = .ok (.iconst 4, 1) := by decide +kernel
theorem dX9_stage_108 : decode cX9_stage 108 = .ok (.if_icmp .ne 12, 3) := by decide +kernel
theorem dX9_stage_111 : decode cX9_stage 111 = .ok (.iload_n 2, 1) := by decide +kernel
theorem dX9_stage_112 : decode cX9_stage 112 = .ok (.iconst 5, 1) := by decide +kernel
theorem dX9_stage_113 : decode cX9_stage 113 = .ok (.if_icmp .ne 7, 3) := by decide +kernel
theorem dX9_stage_116 : decode cX9_stage 116 = .ok (.iconst 1, 1) := by decide +kernel
theorem dX9_stage_117 : decode cX9_stage 117 = .ok (.goto 4, 3) := by decide +kernel
theorem dX9_stage_120 : decode cX9_stage 120 = .ok (.iconst 0, 1) := by decide +kernel
theorem dX9_stage_121 : decode cX9_stage 121 = .ok (.istore 6, 2) := by decide +kernel
theorem dX9_stage_123 : decode cX9_stage 123 = .ok (.iload 6, 2) := by decide +kernel
theorem dX9_stage_125 : decode cX9_stage 125 = .ok (.ifCond .eq 26, 3) := by decide +kernel
theorem dX9_stage_128 : decode cX9_stage 128 = .ok (.aload_n 0, 1) := by decide +kernel
theorem dX9_stage_129 : decode cX9_stage 129 = .ok (.getfield 140, 3) := by decide +kernel
theorem dX9_stage_132 : decode cX9_stage 132 = .ok (.iconst 5, 1) := by decide +kernel
theorem dX9_stage_133 : decode cX9_stage 133 = .ok (.bipush 6, 2) := by decide +kernel
theorem dX9_stage_135 : decode cX9_stage 135 = .ok (.iload_n 1, 1) := by decide +kernel
theorem dX9_stage_136 : decode cX9_stage 136 = .ok (.imul, 1) := by decide +kernel
theorem dX9_stage_137 : decode cX9_stage 137 = .ok (.iload_n 3, 1) := by decide +kernel
theorem dX9_stage_138 : decode cX9_stage 138 = .ok (.iadd, 1) := by decide +kernel
theorem dX9_stage_139 : decode cX9_stage 139 = .ok (.imul, 1) := by decide +kernel
theorem dX9_stage_140 : decode cX9_stage 140 = .ok (.iload_n 2, 1) := by decide +kernel
theorem dX9_stage_141 : decode cX9_stage 141 = .ok (.iadd, 1) := by decide +kernel
theorem dX9_stage_142 : decode cX9_stage 142 = .ok (.iconst 1, 1) := by decide +kernel
theorem dX9_stage_143 : decode cX9_stage 143 = .ok (.isub, 1) := by decide +kernel
theorem dX9_stage_144 : decode cX9_stage 144 = .ok (.daload, 1) := by decide +kernel
theorem dX9_stage_145 : decode cX9_stage 145 = .ok (.invokestatic 377, 3) := by decide +kernel
theorem dX9_stage_148 : decode cX9_stage 148 = .ok (.goto 6, 3) := by decide +kernel
theorem dX9_stage_151 : decode cX9_stage 151 = .ok (.ldc2_w 198, 3) := by decide +kernel
theorem dX9_stage_154 : decode cX9_stage 154 = .ok (.lreturn, 1) := by decide +kernel
theorem dX9_value_0 : decode cX9_value 0 = .ok (.aload_n 0, 1) := by decide +kernel
theorem dX9_value_1 : decode cX9_value 1 = .ok (.iload_n 1, 1) := by decide +kernel
theorem dX9_value_2 : decode cX9_value 2 = .ok (.invokevirtual 366, 3) := by decide +kernel
theorem dX9_value_5 : decode cX9_value 5 = .ok (.ifCond .eq 24, 3) := by decide +kernel
theorem dX9_value_8 : decode cX9_value 8 = .ok (.iload_n 2, 1) := by decide +kernel
theorem dX9_value_9 : decode cX9_value 9 = .ok (.iconst 0, 1) := by decide +kernel
theorem dX9_value_10 : decode cX9_value 10 = .ok (.aload_n 0, 1) := by decide +kernel
theorem dX9_value_11 : decode cX9_value 11 = .ok (.getfield 18, 3) := by decide +kernel
theorem dX9_value_14 : decode cX9_value 14 = .ok (.aload_n 0, 1) := by decide +kernel
theorem dX9_value_15 : decode cX9_value 15 = .ok (.getfield 52, 3) := by decide +kernel
theorem dX9_value_18 : decode cX9_value 18 = .ok (.iload_n 1, 1) := by decide +kernel
theorem dX9_value_19 : decode cX9_value 19 = .ok (.iaload, 1) := by decide +kernel
theorem dX9_value_20 : decode cX9_value 20 = .ok (.iaload, 1) := by decide +kernel
theorem dX9_value_21 : decode cX9_value 21 = .ok (.iconst 1, 1) := by decide +kernel
theorem dX9_value_22 : decode cX9_value 22 = .ok (.isub, 1) := by decide +kernel
theorem dX9_value_23 : decode cX9_value 23 = .ok (.invokestatic 343, 3) := by decide +kernel
theorem dX9_value_26 : decode cX9_value 26 = .ok (.ifCond .ne 7, 3) := by decide +kernel
theorem dX9_value_29 : decode cX9_value 29 = .ok (.ldc2_w 198, 3) := by decide +kernel
theorem dX9_value_32 : decode cX9_value 32 = .ok (.lreturn, 1) := by decide +kernel
theorem dX9_value_33 : decode cX9_value 33 = .ok (.iconst 0, 1) := by decide +kernel
theorem dX9_value_34 : decode cX9_value 34 = .ok (.istore_n 3, 1) := by decide +kernel
theorem dX9_value_35 : decode cX9_value 35 = .ok (.iload_n 3, 1) := by decide +kernel
theorem dX9_value_36 : decode cX9_value 36 = .ok (.aload_n 0, 1) := by decide +kernel
theorem dX9_value_37 : decode cX9_value 37 = .ok (.getfield 9, 3) := by decide +kernel
theorem dX9_value_40 : decode cX9_value 40 = .ok (.aload_n 0, 1) := by decide +kernel
theorem dX9_value_41 : decode cX9_value 41 = .ok (.getfield 52, 3) := by decide +kernel
theorem dX9_value_44 : decode cX9_value 44 = .ok (.iload_n 1, 1) := by decide +kernel
theorem dX9_value_45 : decode cX9_value 45 = .ok (.iaload, 1) := by decide +kernel
theorem dX9_value_46 : decode cX9_value 46 = .ok (.iaload, 1) := by decide +kernel
theorem dX9_value_47 : decode cX9_value 47 = .ok (.if_icmp .ge 26, 3) := by decide +kernel
theorem dX9_value_50 : decode cX9_value 50 = .ok (.aload_n 0, 1) := by decide +kernel
theorem dX9_value_51 : decode cX9_value 51 = .ok (.getfield 173, 3) := by decide +kernel
theorem dX9_value_54 : decode cX9_value 54 = .ok (.iload_n 3, 1) := by decide +kernel
theorem dX9_value_55 : decode cX9_value 55 = .ok (.aload_n 0, 1) := by decide +kernel
theorem dX9_value_56 : decode cX9_value 56 = .ok (.getfield 98, 3) := by decide +kernel
theorem dX9_value_59 : decode cX9_value 59 = .ok (.bipush 6, 2) := by decide +kernel
theorem dX9_value_61 : decode cX9_value 61 = .ok (.iload_n 1, 1) := by decide +kernel
theorem dX9_value_62 : decode cX9_value 62 = .ok (.imul, 1) := by decide +kernel
theorem dX9_value_63 : decode cX9_value 63 = .ok (.iload_n 3, 1) := by decide +kernel
theorem dX9_value_64 : decode cX9_value 64 = .ok (.iadd, 1) := by decide +kernel
theorem dX9_value_65 : decode cX9_value 65 = .ok (.daload, 1) := by decide +kernel
theorem dX9_value_66 : decode cX9_value 66 = .ok (.dastore, 1) := by decide +kernel
theorem dX9_value_67 : decode cX9_value 67 = .ok (.iinc 3 1, 3) := by decide +kernel
theorem dX9_value_70 : decode cX9_value 70 = .ok (.goto (-35), 3) := by decide +kernel
theorem dX9_value_73 : decode cX9_value 73 = .ok (.aload_n 0, 1) := by decide +kernel
theorem dX9_value_74 : decode cX9_value 74 = .ok (.aload_n 0, 1) := by decide +kernel
theorem dX9_value_75 : decode cX9_value 75 = .ok (.getfield 52, 3) := by decide +kernel
theorem dX9_value_78 : decode cX9_value 78 = .ok (.iload_n 1, 1) := by decide +kernel
theorem dX9_value_79 : decode cX9_value 79 = .ok (.iaload, 1) := by decide +kernel
theorem dX9_value_80 : decode cX9_value 80 = .ok (.aload_n 0, 1) := by decide +kernel
theorem dX9_value_81 : decode cX9_value 81 = .ok (.getfield 83, 3) := by decide +kernel
theorem dX9_value_84 : decode cX9_value 84 = .ok (.iload_n 1, 1) := by decide +kernel
theorem dX9_value_85 : decode cX9_value 85 = .ok (.daload, 1) := by decide +kernel
theorem dX9_value_86 : decode cX9_value 86 = .ok (.aload_n 0, 1) := by decide +kernel
theorem dX9_value_87 : decode cX9_value 87 = .ok (.getfield 173, 3) := by decide +kernel
theorem dX9_value_90 : decode cX9_value 90 = .ok (.invokevirtual 242, 3) := by decide +kernel
theorem dX9_value_93 : decode cX9_value 93 = .ok (.aload_n 0, 1) := by decide +kernel
theorem dX9_value_94 : decode cX9_value 94 = .ok (.getfield 143, 3) := by decide +kernel
theorem dX9_value_97 : decode cX9_value 97 = .ok (.iload_n 2, 1) := by decide +kernel
theorem dX9_value_98 : decode cX9_value 98 = .ok (.daload, 1) := by decide +kernel
theorem dX9_value_99 : decode cX9_value 99 = .ok (.invokestatic 377, 3) := by decide +kernel
theorem dX9_value_102 : decode cX9_value 102 = .ok (.lreturn, 1) := by decide +kernel
theorem dX9_between_0 : decode cX9_between 0 = .ok (.aload_n 0, 1) := by decide +kernel
theorem dX9_between_1 : decode cX9_between 1 = .ok (.iload_n 1, 1) := by decide +kernel
theorem dX9_between_2 : decode cX9_between 2 = .ok (.invokevirtual 366, 3) := by decide +kernel
theorem dX9_between_5 : decode cX9_between 5 = .ok (.ifCond .eq 44, 3) := by decide +kernel
theorem dX9_between_8 : decode cX9_between 8 = .ok (.iload_n 2, 1) := by decide +kernel
theorem dX9_between_9 : decode cX9_between 9 = .ok (.iconst 0, 1) := by decide +kernel
theorem dX9_between_10 : decode cX9_between 10 = .ok (.aload_n 0, 1) := by decide +kernel
theorem dX9_between_11 : decode cX9_between 11 = .ok (.getfield 9, 3) := by decide +kernel
theorem dX9_between_14 : decode cX9_between 14 = .ok (.aload_n 0, 1) := by decide +kernel
theorem dX9_between_15 : decode cX9_between 15 = .ok (.getfield 52, 3) := by decide +kernel
theorem dX9_between_18 : decode cX9_between 18 = .ok (.iload_n 1, 1) := by decide +kernel
theorem dX9_between_19 : decode cX9_between 19 = .ok (.iaload, 1) := by decide +kernel
theorem dX9_between_20 : decode cX9_between 20 = .ok (.iaload, 1) := by decide +kernel
theorem dX9_between_21 : decode cX9_between 21 = .ok (.iconst 1, 1) := by decide +kernel
theorem dX9_between_22 : decode cX9_between 22 = .ok (.isub, 1) := by decide +kernel
theorem dX9_between_23 : decode cX9_between 23 = .ok (.invokestatic 343, 3) := by decide +kernel
theorem dX9_between_26 : decode cX9_between 26 = .ok (.ifCond .eq 23, 3) := by decide +kernel
theorem dX9_between_29 : decode cX9_between 29 = .ok (.aload_n 0, 1) := by decide +kernel
theorem dX9_between_30 : decode cX9_between 30 = .ok (.getfield 77, 3) := by decide +kernel
theorem dX9_between_33 : decode cX9_between 33 = .ok (.iload_n 1, 1) := by decide +kernel
theorem dX9_between_34 : decode cX9_between 34 = .ok (.baload, 1) := by decide +kernel
theorem dX9_between_35 : decode cX9_between 35 = .ok (.ifCond .eq 14, 3) := by decide +kernel
theorem dX9_between_38 : decode cX9_between 38 = .ok (.iload 5, 2) := by decide +kernel
theorem dX9_between_40 : decode cX9_between 40 = .ok (.iconst 0, 1) := by decide +kernel
theorem dX9_between_41 : decode cX9_between 41 = .ok (.bipush 30, 2) := by decide +kernel
theorem dX9_between_43 : decode cX9_between 43 = .ok (.invokestatic 343, 3) := by decide +kernel
theorem dX9_between_46 : decode cX9_between 46 = .ok (.ifCond .ne 7, 3) := by decide +kernel
theorem dX9_between_49 : decode cX9_between 49 = .ok (.ldc2_w 198, 3) := by decide +kernel
theorem dX9_between_52 : decode cX9_between 52 = .ok (.lreturn, 1) := by decide +kernel
theorem dX9_between_53 : decode cX9_between 53 = .ok (.lload_n 3, 1) := by decide +kernel
theorem dX9_between_54 : decode cX9_between 54 = .ok (.iload 5, 2) := by decide +kernel
theorem dX9_between_56 : decode cX9_between 56 = .ok (.invokestatic 354, 3) := by decide +kernel
theorem dX9_between_59 : decode cX9_between 59 = .ok (.dstore 6, 2) := by decide +kernel
theorem dX9_between_61 : decode cX9_between 61 = .ok (.dload 6, 2) := by decide +kernel
theorem dX9_between_63 : decode cX9_between 63 = .ok (.dconst 0, 1) := by decide +kernel
theorem dX9_between_64 : decode cX9_between 64 = .ok (.dcmp .g, 1) := by decide +kernel
theorem dX9_between_65 : decode cX9_between 65 = .ok (.ifCond .lt 10, 3) := by decide +kernel
theorem dX9_between_68 : decode cX9_between 68 = .ok (.dload 6, 2) := by decide +kernel
theorem dX9_between_70 : decode cX9_between 70 = .ok (.dconst 1, 1) := by decide +kernel
theorem dX9_between_71 : decode cX9_between 71 = .ok (.dcmp .l, 1) := by decide +kernel
theorem dX9_between_72 : decode cX9_between 72 = .ok (.ifCond .le 9, 3) := by decide +kernel
theorem dX9_between_75 : decode cX9_between 75 = .ok (.ldc2_w 198, 3) := by decide +kernel
theorem dX9_between_78 : decode cX9_between 78 = .ok (.goto 14, 3) := by decide +kernel
theorem dX9_between_81 : decode cX9_between 81 = .ok (.aload_n 0, 1) := by decide +kernel
theorem dX9_between_82 : decode cX9_between 82 = .ok (.iload_n 1, 1) := by decide +kernel
theorem dX9_between_83 : decode cX9_between 83 = .ok (.iload_n 2, 1) := by decide +kernel
theorem dX9_between_84 : decode cX9_between 84 = .ok (.dload 6, 2) := by decide +kernel
theorem dX9_between_86 : decode cX9_between 86 = .ok (.invokevirtual 330, 3) := by decide +kernel
theorem dX9_between_89 : decode cX9_between 89 = .ok (.invokestatic 377, 3) := by decide +kernel
theorem dX9_between_92 : decode cX9_between 92 = .ok (.lreturn, 1) := by decide +kernel
theorem dX9_fired_0 : decode cX9_fired 0 = .ok (.aload_n 0, 1) := by decide +kernel
theorem dX9_fired_1 : decode cX9_fired 1 = .ok (.iload_n 1, 1) := by decide +kernel
theorem dX9_fired_2 : decode cX9_fired 2 = .ok (.invokevirtual 366, 3) := by decide +kernel
theorem dX9_fired_5 : decode cX9_fired 5 = .ok (.ifCond .eq 32, 3) := by decide +kernel
theorem dX9_fired_8 : decode cX9_fired 8 = .ok (.iload_n 2, 1) := by decide +kernel
theorem dX9_fired_9 : decode cX9_fired 9 = .ok (.ifCond .lt 28, 3) := by decide +kernel
theorem dX9_fired_12 : decode cX9_fired 12 = .ok (.iload_n 2, 1) := by decide +kernel
theorem dX9_fired_13 : decode cX9_fired 13 = .ok (.aload_n 0, 1) := by decide +kernel
theorem dX9_fired_14 : decode cX9_fired 14 = .ok (.getfield 70, 3) := by decide +kernel
theorem dX9_fired_17 : decode cX9_fired 17 = .ok (.iload_n 1, 1) := by decide +kernel
theorem dX9_fired_18 : decode cX9_fired 18 = .ok (.iaload, 1) := by decide +kernel
theorem dX9_fired_19 : decode cX9_fired 19 = .ok (.if_icmp .ge 18, 3) := by decide +kernel
theorem dX9_fired_22 : decode cX9_fired 22 = .ok (.iload_n 2, 1) := by decide +kernel
theorem dX9_fired_23 : decode cX9_fired 23 = .ok (.bipush 64, 2) := by decide +kernel
theorem dX9_fired_25 : decode cX9_fired 25 = .ok (.if_icmp .ge 12, 3) := by decide +kernel
theorem dX9_fired_28 : decode cX9_fired 28 = .ok (.iload_n 3, 1) := by decide +kernel
theorem dX9_fired_29 : decode cX9_fired 29 = .ok (.iconst 0, 1) := by decide +kernel
theorem dX9_fired_30 : decode cX9_fired 30 = .ok (.iconst 1, 1) := by decide +kernel
theorem dX9_fired_31 : decode cX9_fired 31 = .ok (.invokestatic 343, 3) := by decide +kernel
theorem dX9_fired_34 : decode cX9_fired 34 = .ok (.ifCond .ne 7, 3) := by decide +kernel
theorem dX9_fired_37 : decode cX9_fired 37 = .ok (.ldc2_w 198, 3) := by decide +kernel
theorem dX9_fired_40 : decode cX9_fired 40 = .ok (.lreturn, 1) := by decide +kernel
theorem dX9_fired_41 : decode cX9_fired 41 = .ok (.iload_n 3, 1) := by decide +kernel
theorem dX9_fired_42 : decode cX9_fired 42 = .ok (.ifCond .ne 18, 3) := by decide +kernel
theorem dX9_fired_45 : decode cX9_fired 45 = .ok (.aload_n 0, 1) := by decide +kernel
theorem dX9_fired_46 : decode cX9_fired 46 = .ok (.getfield 113, 3) := by decide +kernel
theorem dX9_fired_49 : decode cX9_fired 49 = .ok (.bipush 64, 2) := by decide +kernel
theorem dX9_fired_51 : decode cX9_fired 51 = .ok (.iload_n 1, 1) := by decide +kernel
theorem dX9_fired_52 : decode cX9_fired 52 = .ok (.imul, 1) := by decide +kernel
theorem dX9_fired_53 : decode cX9_fired 53 = .ok (.iload_n 2, 1) := by decide +kernel
theorem dX9_fired_54 : decode cX9_fired 54 = .ok (.iadd, 1) := by decide +kernel
theorem dX9_fired_55 : decode cX9_fired 55 = .ok (.iaload, 1) := by decide +kernel
theorem dX9_fired_56 : decode cX9_fired 56 = .ok (.i2l, 1) := by decide +kernel
theorem dX9_fired_57 : decode cX9_fired 57 = .ok (.goto 17, 3) := by decide +kernel
theorem dX9_fired_60 : decode cX9_fired 60 = .ok (.aload_n 0, 1) := by decide +kernel
theorem dX9_fired_61 : decode cX9_fired 61 = .ok (.getfield 116, 3) := by decide +kernel
theorem dX9_fired_64 : decode cX9_fired 64 = .ok (.bipush 64, 2) := by decide +kernel
theorem dX9_fired_66 : decode cX9_fired 66 = .ok (.iload_n 1, 1) := by decide +kernel
theorem dX9_fired_67 : decode cX9_fired 67 = .ok (.imul, 1) := by decide +kernel
theorem dX9_fired_68 : decode cX9_fired 68 = .ok (.iload_n 2, 1) := by decide +kernel
theorem dX9_fired_69 : decode cX9_fired 69 = .ok (.iadd, 1) := by decide +kernel
theorem dX9_fired_70 : decode cX9_fired 70 = .ok (.daload, 1) := by decide +kernel
theorem dX9_fired_71 : decode cX9_fired 71 = .ok (.invokestatic 377, 3) := by decide +kernel
theorem dX9_fired_74 : decode cX9_fired 74 = .ok (.lreturn, 1) := by decide +kernel
theorem dX9_halves_0 : decode cX9_halves 0 = .ok (.aload_n 0, 1) := by decide +kernel
theorem dX9_halves_1 : decode cX9_halves 1 = .ok (.iload_n 1, 1) := by decide +kernel
theorem dX9_halves_2 : decode cX9_halves 2 = .ok (.invokevirtual 366, 3) := by decide +kernel
theorem dX9_halves_5 : decode cX9_halves 5 = .ok (.ifCond .eq 33, 3) := by decide +kernel
theorem dX9_halves_8 : decode cX9_halves 8 = .ok (.iload_n 2, 1) := by decide +kernel
theorem dX9_halves_9 : decode cX9_halves 9 = .ok (.iconst 0, 1) := by decide +kernel
theorem dX9_halves_10 : decode cX9_halves 10 = .ok (.aload_n 0, 1) := by decide +kernel
theorem dX9_halves_11 : decode cX9_halves 11 = .ok (.getfield 9, 3) := by decide +kernel
theorem dX9_halves_14 : decode cX9_halves 14 = .ok (.aload_n 0, 1) := by decide +kernel
theorem dX9_halves_15 : decode cX9_halves 15 = .ok (.getfield 52, 3) := by decide +kernel
theorem dX9_halves_18 : decode cX9_halves 18 = .ok (.iload_n 1, 1) := by decide +kernel
theorem dX9_halves_19 : decode cX9_halves 19 = .ok (.iaload, 1) := by decide +kernel
theorem dX9_halves_20 : decode cX9_halves 20 = .ok (.iaload, 1) := by decide +kernel
theorem dX9_halves_21 : decode cX9_halves 21 = .ok (.iconst 1, 1) := by decide +kernel
theorem dX9_halves_22 : decode cX9_halves 22 = .ok (.isub, 1) := by decide +kernel
theorem dX9_halves_23 : decode cX9_halves 23 = .ok (.invokestatic 343, 3) := by decide +kernel
theorem dX9_halves_26 : decode cX9_halves 26 = .ok (.ifCond .eq 12, 3) := by decide +kernel
theorem dX9_halves_29 : decode cX9_halves 29 = .ok (.aload_n 0, 1) := by decide +kernel
theorem dX9_halves_30 : decode cX9_halves 30 = .ok (.getfield 73, 3) := by decide +kernel
theorem dX9_halves_33 : decode cX9_halves 33 = .ok (.iload_n 1, 1) := by decide +kernel
theorem dX9_halves_34 : decode cX9_halves 34 = .ok (.baload, 1) := by decide +kernel
theorem dX9_halves_35 : decode cX9_halves 35 = .ok (.ifCond .eq 7, 3) := by decide +kernel
theorem dX9_halves_38 : decode cX9_halves 38 = .ok (.ldc2_w 198, 3) := by decide +kernel
theorem dX9_halves_41 : decode cX9_halves 41 = .ok (.lreturn, 1) := by decide +kernel
theorem dX9_halves_42 : decode cX9_halves 42 = .ok (.aload_n 0, 1) := by decide +kernel
theorem dX9_halves_43 : decode cX9_halves 43 = .ok (.getfield 52, 3) := by decide +kernel
theorem dX9_halves_46 : decode cX9_halves 46 = .ok (.iload_n 1, 1) := by decide +kernel
theorem dX9_halves_47 : decode cX9_halves 47 = .ok (.iaload, 1) := by decide +kernel
theorem dX9_halves_48 : decode cX9_halves 48 = .ok (.istore_n 3, 1) := by decide +kernel
theorem dX9_halves_49 : decode cX9_halves 49 = .ok (.aload_n 0, 1) := by decide +kernel
theorem dX9_halves_50 : decode cX9_halves 50 = .ok (.getfield 9, 3) := by decide +kernel
theorem dX9_halves_53 : decode cX9_halves 53 = .ok (.iload_n 3, 1) := by decide +kernel
theorem dX9_halves_54 : decode cX9_halves 54 = .ok (.iaload, 1) := by decide +kernel
theorem dX9_halves_55 : decode cX9_halves 55 = .ok (.istore 4, 2) := by decide +kernel
theorem dX9_halves_57 : decode cX9_halves 57 = .ok (.aload_n 0, 1) := by decide +kernel
theorem dX9_halves_58 : decode cX9_halves 58 = .ok (.getfield 86, 3) := by decide +kernel
theorem dX9_halves_61 : decode cX9_halves 61 = .ok (.iload_n 1, 1) := by decide +kernel
theorem dX9_halves_62 : decode cX9_halves 62 = .ok (.daload, 1) := by decide +kernel
theorem dX9_halves_63 : decode cX9_halves 63 = .ok (.dstore 5, 2) := by decide +kernel
theorem dX9_halves_65 : decode cX9_halves 65 = .ok (.iconst 0, 1) := by decide +kernel
theorem dX9_halves_66 : decode cX9_halves 66 = .ok (.istore 7, 2) := by decide +kernel
theorem dX9_halves_68 : decode cX9_halves 68 = .ok (.iload 7, 2) := by decide +kernel
theorem dX9_halves_70 : decode cX9_halves 70 = .ok (.iload 4, 2) := by decide +kernel
theorem dX9_halves_72 : decode cX9_halves 72 = .ok (.if_icmp .ge 28, 3) := by decide +kernel
theorem dX9_halves_75 : decode cX9_halves 75 = .ok (.aload_n 0, 1) := by decide +kernel
theorem dX9_halves_76 : decode cX9_halves 76 = .ok (.getfield 146, 3) := by decide +kernel
theorem dX9_halves_79 : decode cX9_halves 79 = .ok (.iload 7, 2) := by decide +kernel
theorem dX9_halves_81 : decode cX9_halves 81 = .ok (.aload_n 0, 1) := by decide +kernel
theorem dX9_halves_82 : decode cX9_halves 82 = .ok (.getfield 98, 3) := by decide +kernel
theorem dX9_halves_85 : decode cX9_halves 85 = .ok (.bipush 6, 2) := by decide +kernel
theorem dX9_halves_87 : decode cX9_halves 87 = .ok (.iload_n 1, 1) := by decide +kernel
theorem dX9_halves_88 : decode cX9_halves 88 = .ok (.imul, 1) := by decide +kernel
theorem dX9_halves_89 : decode cX9_halves 89 = .ok (.iload 7, 2) := by decide +kernel
theorem dX9_halves_91 : decode cX9_halves 91 = .ok (.iadd, 1) := by decide +kernel
theorem dX9_halves_92 : decode cX9_halves 92 = .ok (.daload, 1) := by decide +kernel
theorem dX9_halves_93 : decode cX9_halves 93 = .ok (.dastore, 1) := by decide +kernel
theorem dX9_halves_94 : decode cX9_halves 94 = .ok (.iinc 7 1, 3) := by decide +kernel
theorem dX9_halves_97 : decode cX9_halves 97 = .ok (.goto (-29), 3) := by decide +kernel
theorem dX9_halves_100 : decode cX9_halves 100 = .ok (.aload_n 0, 1) := by decide +kernel
theorem dX9_halves_101 : decode cX9_halves 101 = .ok (.iload_n 3, 1) := by decide +kernel
theorem dX9_halves_102 : decode cX9_halves 102 = .ok (.aload_n 0, 1) := by decide +kernel
theorem dX9_halves_103 : decode cX9_halves 103 = .ok (.getfield 55, 3) := by decide +kernel
theorem dX9_halves_106 : decode cX9_halves 106 = .ok (.iload_n 1, 1) := by decide +kernel
theorem dX9_halves_107 : decode cX9_halves 107 = .ok (.iaload, 1) := by decide +kernel
theorem dX9_halves_108 : decode cX9_halves 108 = .ok (.aload_n 0, 1) := by decide +kernel
theorem dX9_halves_109 : decode cX9_halves 109 = .ok (.getfield 83, 3) := by decide +kernel
theorem dX9_halves_112 : decode cX9_halves 112 = .ok (.iload_n 1, 1) := by decide +kernel
theorem dX9_halves_113 : decode cX9_halves 113 = .ok (.daload, 1) := by decide +kernel
theorem dX9_halves_114 : decode cX9_halves 114 = .ok (.dload 5, 2) := by decide +kernel
theorem dX9_halves_116 : decode cX9_halves 116 = .ok (.invokevirtual 301, 3) := by decide +kernel
theorem dX9_halves_119 : decode cX9_halves 119 = .ok (.ifCond .eq 7, 3) := by decide +kernel
theorem dX9_halves_122 : decode cX9_halves 122 = .ok (.ldc2_w 198, 3) := by decide +kernel
theorem dX9_halves_125 : decode cX9_halves 125 = .ok (.lreturn, 1) := by decide +kernel
theorem dX9_halves_126 : decode cX9_halves 126 = .ok (.iconst 0, 1) := by decide +kernel
theorem dX9_halves_127 : decode cX9_halves 127 = .ok (.istore 7, 2) := by decide +kernel
theorem dX9_halves_129 : decode cX9_halves 129 = .ok (.iload 7, 2) := by decide +kernel
theorem dX9_halves_131 : decode cX9_halves 131 = .ok (.iload 4, 2) := by decide +kernel
theorem dX9_halves_133 : decode cX9_halves 133 = .ok (.if_icmp .ge 23, 3) := by decide +kernel
theorem dX9_halves_136 : decode cX9_halves 136 = .ok (.aload_n 0, 1) := by decide +kernel
theorem dX9_halves_137 : decode cX9_halves 137 = .ok (.getfield 176, 3) := by decide +kernel
theorem dX9_halves_140 : decode cX9_halves 140 = .ok (.iload 7, 2) := by decide +kernel
theorem dX9_halves_142 : decode cX9_halves 142 = .ok (.aload_n 0, 1) := by decide +kernel
theorem dX9_halves_143 : decode cX9_halves 143 = .ok (.getfield 152, 3) := by decide +kernel
theorem dX9_halves_146 : decode cX9_halves 146 = .ok (.iload 7, 2) := by decide +kernel
theorem dX9_halves_148 : decode cX9_halves 148 = .ok (.daload, 1) := by decide +kernel
theorem dX9_halves_149 : decode cX9_halves 149 = .ok (.dastore, 1) := by decide +kernel
theorem dX9_halves_150 : decode cX9_halves 150 = .ok (.iinc 7 1, 3) := by decide +kernel
theorem dX9_halves_153 : decode cX9_halves 153 = .ok (.goto (-24), 3) := by decide +kernel
theorem dX9_halves_156 : decode cX9_halves 156 = .ok (.aload_n 0, 1) := by decide +kernel
theorem dX9_halves_157 : decode cX9_halves 157 = .ok (.iload_n 3, 1) := by decide +kernel
theorem dX9_halves_158 : decode cX9_halves 158 = .ok (.aload_n 0, 1) := by decide +kernel
theorem dX9_halves_159 : decode cX9_halves 159 = .ok (.getfield 55, 3) := by decide +kernel
theorem dX9_halves_162 : decode cX9_halves 162 = .ok (.iload_n 1, 1) := by decide +kernel
theorem dX9_halves_163 : decode cX9_halves 163 = .ok (.iaload, 1) := by decide +kernel
theorem dX9_halves_164 : decode cX9_halves 164 = .ok (.aload_n 0, 1) := by decide +kernel
theorem dX9_halves_165 : decode cX9_halves 165 = .ok (.getfield 83, 3) := by decide +kernel
theorem dX9_halves_168 : decode cX9_halves 168 = .ok (.iload_n 1, 1) := by decide +kernel
theorem dX9_halves_169 : decode cX9_halves 169 = .ok (.daload, 1) := by decide +kernel
theorem dX9_halves_170 : decode cX9_halves 170 = .ok (.dload 5, 2) := by decide +kernel
theorem dX9_halves_172 : decode cX9_halves 172 = .ok (.ldc2_w 285, 3) := by decide +kernel
theorem dX9_halves_175 : decode cX9_halves 175 = .ok (.ddiv, 1) := by decide +kernel
theorem dX9_halves_176 : decode cX9_halves 176 = .ok (.invokevirtual 301, 3) := by decide +kernel
theorem dX9_halves_179 : decode cX9_halves 179 = .ok (.ifCond .eq 7, 3) := by decide +kernel
theorem dX9_halves_182 : decode cX9_halves 182 = .ok (.ldc2_w 198, 3) := by decide +kernel
theorem dX9_halves_185 : decode cX9_halves 185 = .ok (.lreturn, 1) := by decide +kernel
theorem dX9_halves_186 : decode cX9_halves 186 = .ok (.iconst 0, 1) := by decide +kernel
theorem dX9_halves_187 : decode cX9_halves 187 = .ok (.istore 7, 2) := by decide +kernel
theorem dX9_halves_189 : decode cX9_halves 189 = .ok (.iload 7, 2) := by decide +kernel
theorem dX9_halves_191 : decode cX9_halves 191 = .ok (.iload 4, 2) := by decide +kernel
theorem dX9_halves_193 : decode cX9_halves 193 = .ok (.if_icmp .ge 23, 3) := by decide +kernel
theorem dX9_halves_196 : decode cX9_halves 196 = .ok (.aload_n 0, 1) := by decide +kernel
theorem dX9_halves_197 : decode cX9_halves 197 = .ok (.getfield 146, 3) := by decide +kernel
theorem dX9_halves_200 : decode cX9_halves 200 = .ok (.iload 7, 2) := by decide +kernel
theorem dX9_halves_202 : decode cX9_halves 202 = .ok (.aload_n 0, 1) := by decide +kernel
theorem dX9_halves_203 : decode cX9_halves 203 = .ok (.getfield 152, 3) := by decide +kernel
theorem dX9_halves_206 : decode cX9_halves 206 = .ok (.iload 7, 2) := by decide +kernel
theorem dX9_halves_208 : decode cX9_halves 208 = .ok (.daload, 1) := by decide +kernel
theorem dX9_halves_209 : decode cX9_halves 209 = .ok (.dastore, 1) := by decide +kernel
theorem dX9_halves_210 : decode cX9_halves 210 = .ok (.iinc 7 1, 3) := by decide +kernel
theorem dX9_halves_213 : decode cX9_halves 213 = .ok (.goto (-24), 3) := by decide +kernel
theorem dX9_halves_216 : decode cX9_halves 216 = .ok (.aload_n 0, 1) := by decide +kernel
theorem dX9_halves_217 : decode cX9_halves 217 = .ok (.iload_n 3, 1) := by decide +kernel
theorem dX9_halves_218 : decode cX9_halves 218 = .ok (.aload_n 0, 1) := by decide +kernel
theorem dX9_halves_219 : decode cX9_halves 219 = .ok (.getfield 55, 3) := by decide +kernel
theorem dX9_halves_222 : decode cX9_halves 222 = .ok (.iload_n 1, 1) := by decide +kernel
theorem dX9_halves_223 : decode cX9_halves 223 = .ok (.iaload, 1) := by decide +kernel
theorem dX9_halves_224 : decode cX9_halves 224 = .ok (.aload_n 0, 1) := by decide +kernel
theorem dX9_halves_225 : decode cX9_halves 225 = .ok (.getfield 83, 3) := by decide +kernel
theorem dX9_halves_228 : decode cX9_halves 228 = .ok (.iload_n 1, 1) := by decide +kernel
theorem dX9_halves_229 : decode cX9_halves 229 = .ok (.daload, 1) := by decide +kernel
theorem dX9_halves_230 : decode cX9_halves 230 = .ok (.dload 5, 2) := by decide +kernel
theorem dX9_halves_232 : decode cX9_halves 232 = .ok (.ldc2_w 285, 3) := by decide +kernel
theorem dX9_halves_235 : decode cX9_halves 235 = .ok (.ddiv, 1) := by decide +kernel
theorem dX9_halves_236 : decode cX9_halves 236 = .ok (.dadd, 1) := by decide +kernel
theorem dX9_halves_237 : decode cX9_halves 237 = .ok (.dload 5, 2) := by decide +kernel
theorem dX9_halves_239 : decode cX9_halves 239 = .ok (.ldc2_w 285, 3) := by decide +kernel
theorem dX9_halves_242 : decode cX9_halves 242 = .ok (.ddiv, 1) := by decide +kernel
theorem dX9_halves_243 : decode cX9_halves 243 = .ok (.invokevirtual 301, 3) := by decide +kernel
theorem dX9_halves_246 : decode cX9_halves 246 = .ok (.ifCond .eq 7, 3) := by decide +kernel
theorem dX9_halves_249 : decode cX9_halves 249 = .ok (.ldc2_w 198, 3) := by decide +kernel
theorem dX9_halves_252 : decode cX9_halves 252 = .ok (.lreturn, 1) := by decide +kernel
theorem dX9_halves_253 : decode cX9_halves 253 = .ok (.aload_n 0, 1) := by decide +kernel
theorem dX9_halves_254 : decode cX9_halves 254 = .ok (.getfield 152, 3) := by decide +kernel
theorem dX9_halves_257 : decode cX9_halves 257 = .ok (.iload_n 2, 1) := by decide +kernel
theorem dX9_halves_258 : decode cX9_halves 258 = .ok (.daload, 1) := by decide +kernel
theorem dX9_halves_259 : decode cX9_halves 259 = .ok (.aload_n 0, 1) := by decide +kernel
theorem dX9_halves_260 : decode cX9_halves 260 = .ok (.getfield 176, 3) := by decide +kernel
theorem dX9_halves_263 : decode cX9_halves 263 = .ok (.iload_n 2, 1) := by decide +kernel
theorem dX9_halves_264 : decode cX9_halves 264 = .ok (.daload, 1) := by decide +kernel
theorem dX9_halves_265 : decode cX9_halves 265 = .ok (.dsub, 1) := by decide +kernel
theorem dX9_halves_266 : decode cX9_halves 266 = .ok (.invokestatic 377, 3) := by decide +kernel
theorem dX9_halves_269 : decode cX9_halves 269 = .ok (.lreturn, 1) := by decide +kernel
theorem dX9_copies_0 : decode cX9_copies 0 = .ok (.aload_n 0, 1) := by decide +kernel
theorem dX9_copies_1 : decode cX9_copies 1 = .ok (.getfield 52, 3) := by decide +kernel
theorem dX9_copies_4 : decode cX9_copies 4 = .ok (.iload_n 2, 1) := by decide +kernel
theorem dX9_copies_5 : decode cX9_copies 5 = .ok (.aload_n 0, 1) := by decide +kernel
theorem dX9_copies_6 : decode cX9_copies 6 = .ok (.getfield 52, 3) := by decide +kernel
theorem dX9_copies_9 : decode cX9_copies 9 = .ok (.iload_n 1, 1) := by decide +kernel
theorem dX9_copies_10 : decode cX9_copies 10 = .ok (.iaload, 1) := by decide +kernel
theorem dX9_copies_11 : decode cX9_copies 11 = .ok (.iastore, 1) := by decide +kernel
theorem dX9_copies_12 : decode cX9_copies 12 = .ok (.aload_n 0, 1) := by decide +kernel
theorem dX9_copies_13 : decode cX9_copies 13 = .ok (.getfield 55, 3) := by decide +kernel
theorem dX9_copies_16 : decode cX9_copies 16 = .ok (.iload_n 2, 1) := by decide +kernel
theorem dX9_copies_17 : decode cX9_copies 17 = .ok (.aload_n 0, 1) := by decide +kernel
theorem dX9_copies_18 : decode cX9_copies 18 = .ok (.getfield 55, 3) := by decide +kernel
theorem dX9_copies_21 : decode cX9_copies 21 = .ok (.iload_n 1, 1) := by decide +kernel
theorem dX9_copies_22 : decode cX9_copies 22 = .ok (.iaload, 1) := by decide +kernel
theorem dX9_copies_23 : decode cX9_copies 23 = .ok (.iastore, 1) := by decide +kernel
theorem dX9_copies_24 : decode cX9_copies 24 = .ok (.aload_n 0, 1) := by decide +kernel
theorem dX9_copies_25 : decode cX9_copies 25 = .ok (.getfield 58, 3) := by decide +kernel
theorem dX9_copies_28 : decode cX9_copies 28 = .ok (.iload_n 2, 1) := by decide +kernel
theorem dX9_copies_29 : decode cX9_copies 29 = .ok (.aload_n 0, 1) := by decide +kernel
theorem dX9_copies_30 : decode cX9_copies 30 = .ok (.getfield 58, 3) := by decide +kernel
theorem dX9_copies_33 : decode cX9_copies 33 = .ok (.iload_n 1, 1) := by decide +kernel
theorem dX9_copies_34 : decode cX9_copies 34 = .ok (.iaload, 1) := by decide +kernel
theorem dX9_copies_35 : decode cX9_copies 35 = .ok (.iastore, 1) := by decide +kernel
theorem dX9_copies_36 : decode cX9_copies 36 = .ok (.aload_n 0, 1) := by decide +kernel
theorem dX9_copies_37 : decode cX9_copies 37 = .ok (.getfield 61, 3) := by decide +kernel
theorem dX9_copies_40 : decode cX9_copies 40 = .ok (.iload_n 2, 1) := by decide +kernel
theorem dX9_copies_41 : decode cX9_copies 41 = .ok (.aload_n 0, 1) := by decide +kernel
theorem dX9_copies_42 : decode cX9_copies 42 = .ok (.getfield 61, 3) := by decide +kernel
theorem dX9_copies_45 : decode cX9_copies 45 = .ok (.iload_n 1, 1) := by decide +kernel
theorem dX9_copies_46 : decode cX9_copies 46 = .ok (.iaload, 1) := by decide +kernel
theorem dX9_copies_47 : decode cX9_copies 47 = .ok (.iastore, 1) := by decide +kernel
theorem dX9_copies_48 : decode cX9_copies 48 = .ok (.aload_n 0, 1) := by decide +kernel
theorem dX9_copies_49 : decode cX9_copies 49 = .ok (.getfield 64, 3) := by decide +kernel
theorem dX9_copies_52 : decode cX9_copies 52 = .ok (.iload_n 2, 1) := by decide +kernel
theorem dX9_copies_53 : decode cX9_copies 53 = .ok (.aload_n 0, 1) := by decide +kernel
theorem dX9_copies_54 : decode cX9_copies 54 = .ok (.getfield 64, 3) := by decide +kernel
theorem dX9_copies_57 : decode cX9_copies 57 = .ok (.iload_n 1, 1) := by decide +kernel
theorem dX9_copies_58 : decode cX9_copies 58 = .ok (.iaload, 1) := by decide +kernel
theorem dX9_copies_59 : decode cX9_copies 59 = .ok (.iastore, 1) := by decide +kernel
theorem dX9_copies_60 : decode cX9_copies 60 = .ok (.aload_n 0, 1) := by decide +kernel
theorem dX9_copies_61 : decode cX9_copies 61 = .ok (.getfield 67, 3) := by decide +kernel
theorem dX9_copies_64 : decode cX9_copies 64 = .ok (.iload_n 2, 1) := by decide +kernel
theorem dX9_copies_65 : decode cX9_copies 65 = .ok (.aload_n 0, 1) := by decide +kernel
theorem dX9_copies_66 : decode cX9_copies 66 = .ok (.getfield 67, 3) := by decide +kernel
theorem dX9_copies_69 : decode cX9_copies 69 = .ok (.iload_n 1, 1) := by decide +kernel
theorem dX9_copies_70 : decode cX9_copies 70 = .ok (.iaload, 1) := by decide +kernel
theorem dX9_copies_71 : decode cX9_copies 71 = .ok (.iastore, 1) := by decide +kernel
theorem dX9_copies_72 : decode cX9_copies 72 = .ok (.aload_n 0, 1) := by decide +kernel
theorem dX9_copies_73 : decode cX9_copies 73 = .ok (.getfield 70, 3) := by decide +kernel
theorem dX9_copies_76 : decode cX9_copies 76 = .ok (.iload_n 2, 1) := by decide +kernel
theorem dX9_copies_77 : decode cX9_copies 77 = .ok (.aload_n 0, 1) := by decide +kernel
theorem dX9_copies_78 : decode cX9_copies 78 = .ok (.getfield 70, 3) := by decide +kernel
theorem dX9_copies_81 : decode cX9_copies 81 = .ok (.iload_n 1, 1) := by decide +kernel
theorem dX9_copies_82 : decode cX9_copies 82 = .ok (.iaload, 1) := by decide +kernel
theorem dX9_copies_83 : decode cX9_copies 83 = .ok (.iastore, 1) := by decide +kernel
theorem dX9_copies_84 : decode cX9_copies 84 = .ok (.aload_n 0, 1) := by decide +kernel
theorem dX9_copies_85 : decode cX9_copies 85 = .ok (.getfield 73, 3) := by decide +kernel
theorem dX9_copies_88 : decode cX9_copies 88 = .ok (.iload_n 2, 1) := by decide +kernel
theorem dX9_copies_89 : decode cX9_copies 89 = .ok (.aload_n 0, 1) := by decide +kernel
theorem dX9_copies_90 : decode cX9_copies 90 = .ok (.getfield 73, 3) := by decide +kernel
theorem dX9_copies_93 : decode cX9_copies 93 = .ok (.iload_n 1, 1) := by decide +kernel
theorem dX9_copies_94 : decode cX9_copies 94 = .ok (.baload, 1) := by decide +kernel
theorem dX9_copies_95 : decode cX9_copies 95 = .ok (.bastore, 1) := by decide +kernel
theorem dX9_copies_96 : decode cX9_copies 96 = .ok (.aload_n 0, 1) := by decide +kernel
theorem dX9_copies_97 : decode cX9_copies 97 = .ok (.getfield 77, 3) := by decide +kernel
theorem dX9_copies_100 : decode cX9_copies 100 = .ok (.iload_n 2, 1) := by decide +kernel
theorem dX9_copies_101 : decode cX9_copies 101 = .ok (.aload_n 0, 1) := by decide +kernel
theorem dX9_copies_102 : decode cX9_copies 102 = .ok (.getfield 77, 3) := by decide +kernel
theorem dX9_copies_105 : decode cX9_copies 105 = .ok (.iload_n 1, 1) := by decide +kernel
theorem dX9_copies_106 : decode cX9_copies 106 = .ok (.baload, 1) := by decide +kernel
theorem dX9_copies_107 : decode cX9_copies 107 = .ok (.bastore, 1) := by decide +kernel
theorem dX9_copies_108 : decode cX9_copies 108 = .ok (.aload_n 0, 1) := by decide +kernel
theorem dX9_copies_109 : decode cX9_copies 109 = .ok (.getfield 83, 3) := by decide +kernel
theorem dX9_copies_112 : decode cX9_copies 112 = .ok (.iload_n 2, 1) := by decide +kernel
theorem dX9_copies_113 : decode cX9_copies 113 = .ok (.aload_n 0, 1) := by decide +kernel
theorem dX9_copies_114 : decode cX9_copies 114 = .ok (.getfield 83, 3) := by decide +kernel
theorem dX9_copies_117 : decode cX9_copies 117 = .ok (.iload_n 1, 1) := by decide +kernel
theorem dX9_copies_118 : decode cX9_copies 118 = .ok (.daload, 1) := by decide +kernel
theorem dX9_copies_119 : decode cX9_copies 119 = .ok (.dastore, 1) := by decide +kernel
theorem dX9_copies_120 : decode cX9_copies 120 = .ok (.aload_n 0, 1) := by decide +kernel
theorem dX9_copies_121 : decode cX9_copies 121 = .ok (.getfield 86, 3) := by decide +kernel
theorem dX9_copies_124 : decode cX9_copies 124 = .ok (.iload_n 2, 1) := by decide +kernel
theorem dX9_copies_125 : decode cX9_copies 125 = .ok (.aload_n 0, 1) := by decide +kernel
theorem dX9_copies_126 : decode cX9_copies 126 = .ok (.getfield 86, 3) := by decide +kernel
theorem dX9_copies_129 : decode cX9_copies 129 = .ok (.iload_n 1, 1) := by decide +kernel
theorem dX9_copies_130 : decode cX9_copies 130 = .ok (.daload, 1) := by decide +kernel
theorem dX9_copies_131 : decode cX9_copies 131 = .ok (.dastore, 1) := by decide +kernel
theorem dX9_copies_132 : decode cX9_copies 132 = .ok (.aload_n 0, 1) := by decide +kernel
theorem dX9_copies_133 : decode cX9_copies 133 = .ok (.getfield 89, 3) := by decide +kernel
theorem dX9_copies_136 : decode cX9_copies 136 = .ok (.iload_n 2, 1) := by decide +kernel
theorem dX9_copies_137 : decode cX9_copies 137 = .ok (.aload_n 0, 1) := by decide +kernel
theorem dX9_copies_138 : decode cX9_copies 138 = .ok (.getfield 89, 3) := by decide +kernel
theorem dX9_copies_141 : decode cX9_copies 141 = .ok (.iload_n 1, 1) := by decide +kernel
theorem dX9_copies_142 : decode cX9_copies 142 = .ok (.daload, 1) := by decide +kernel
theorem dX9_copies_143 : decode cX9_copies 143 = .ok (.dastore, 1) := by decide +kernel
theorem dX9_copies_144 : decode cX9_copies 144 = .ok (.aload_n 0, 1) := by decide +kernel
theorem dX9_copies_145 : decode cX9_copies 145 = .ok (.getfield 92, 3) := by decide +kernel
theorem dX9_copies_148 : decode cX9_copies 148 = .ok (.iload_n 2, 1) := by decide +kernel
theorem dX9_copies_149 : decode cX9_copies 149 = .ok (.aload_n 0, 1) := by decide +kernel
theorem dX9_copies_150 : decode cX9_copies 150 = .ok (.getfield 92, 3) := by decide +kernel
theorem dX9_copies_153 : decode cX9_copies 153 = .ok (.iload_n 1, 1) := by decide +kernel
theorem dX9_copies_154 : decode cX9_copies 154 = .ok (.daload, 1) := by decide +kernel
theorem dX9_copies_155 : decode cX9_copies 155 = .ok (.dastore, 1) := by decide +kernel
theorem dX9_copies_156 : decode cX9_copies 156 = .ok (.aload_n 0, 1) := by decide +kernel
theorem dX9_copies_157 : decode cX9_copies 157 = .ok (.getfield 95, 3) := by decide +kernel
theorem dX9_copies_160 : decode cX9_copies 160 = .ok (.iload_n 2, 1) := by decide +kernel
theorem dX9_copies_161 : decode cX9_copies 161 = .ok (.aload_n 0, 1) := by decide +kernel
theorem dX9_copies_162 : decode cX9_copies 162 = .ok (.getfield 95, 3) := by decide +kernel
theorem dX9_copies_165 : decode cX9_copies 165 = .ok (.iload_n 1, 1) := by decide +kernel
theorem dX9_copies_166 : decode cX9_copies 166 = .ok (.daload, 1) := by decide +kernel
theorem dX9_copies_167 : decode cX9_copies 167 = .ok (.dastore, 1) := by decide +kernel
theorem dX9_copies_168 : decode cX9_copies 168 = .ok (.aload_n 0, 1) := by decide +kernel
theorem dX9_copies_169 : decode cX9_copies 169 = .ok (.getfield 119, 3) := by decide +kernel
theorem dX9_copies_172 : decode cX9_copies 172 = .ok (.iload_n 2, 1) := by decide +kernel
theorem dX9_copies_173 : decode cX9_copies 173 = .ok (.aload_n 0, 1) := by decide +kernel
theorem dX9_copies_174 : decode cX9_copies 174 = .ok (.getfield 119, 3) := by decide +kernel
theorem dX9_copies_177 : decode cX9_copies 177 = .ok (.iload_n 1, 1) := by decide +kernel
theorem dX9_copies_178 : decode cX9_copies 178 = .ok (.iaload, 1) := by decide +kernel
theorem dX9_copies_179 : decode cX9_copies 179 = .ok (.iastore, 1) := by decide +kernel
theorem dX9_copies_180 : decode cX9_copies 180 = .ok (.aload_n 0, 1) := by decide +kernel
theorem dX9_copies_181 : decode cX9_copies 181 = .ok (.getfield 122, 3) := by decide +kernel
theorem dX9_copies_184 : decode cX9_copies 184 = .ok (.iload_n 2, 1) := by decide +kernel
theorem dX9_copies_185 : decode cX9_copies 185 = .ok (.aload_n 0, 1) := by decide +kernel
theorem dX9_copies_186 : decode cX9_copies 186 = .ok (.getfield 122, 3) := by decide +kernel
theorem dX9_copies_189 : decode cX9_copies 189 = .ok (.iload_n 1, 1) := by decide +kernel
theorem dX9_copies_190 : decode cX9_copies 190 = .ok (.daload, 1) := by decide +kernel
theorem dX9_copies_191 : decode cX9_copies 191 = .ok (.dastore, 1) := by decide +kernel
theorem dX9_copies_192 : decode cX9_copies 192 = .ok (.aload_n 0, 1) := by decide +kernel
theorem dX9_copies_193 : decode cX9_copies 193 = .ok (.getfield 125, 3) := by decide +kernel
theorem dX9_copies_196 : decode cX9_copies 196 = .ok (.iload_n 2, 1) := by decide +kernel
theorem dX9_copies_197 : decode cX9_copies 197 = .ok (.aload_n 0, 1) := by decide +kernel
theorem dX9_copies_198 : decode cX9_copies 198 = .ok (.getfield 125, 3) := by decide +kernel
theorem dX9_copies_201 : decode cX9_copies 201 = .ok (.iload_n 1, 1) := by decide +kernel
theorem dX9_copies_202 : decode cX9_copies 202 = .ok (.daload, 1) := by decide +kernel
theorem dX9_copies_203 : decode cX9_copies 203 = .ok (.dastore, 1) := by decide +kernel
theorem dX9_copies_204 : decode cX9_copies 204 = .ok (.iconst 0, 1) := by decide +kernel
theorem dX9_copies_205 : decode cX9_copies 205 = .ok (.istore_n 3, 1) := by decide +kernel
theorem dX9_copies_206 : decode cX9_copies 206 = .ok (.iload_n 3, 1) := by decide +kernel
theorem dX9_copies_207 : decode cX9_copies 207 = .ok (.bipush 6, 2) := by decide +kernel
theorem dX9_copies_209 : decode cX9_copies 209 = .ok (.if_icmp .ge 25, 3) := by decide +kernel
theorem dX9_copies_212 : decode cX9_copies 212 = .ok (.aload_n 0, 1) := by decide +kernel
theorem dX9_copies_213 : decode cX9_copies 213 = .ok (.bipush 6, 2) := by decide +kernel
theorem dX9_copies_215 : decode cX9_copies 215 = .ok (.iload_n 1, 1) := by decide +kernel
theorem dX9_copies_216 : decode cX9_copies 216 = .ok (.imul, 1) := by decide +kernel
theorem dX9_copies_217 : decode cX9_copies 217 = .ok (.iload_n 3, 1) := by decide +kernel
theorem dX9_copies_218 : decode cX9_copies 218 = .ok (.iadd, 1) := by decide +kernel
theorem dX9_copies_219 : decode cX9_copies 219 = .ok (.bipush 6, 2) := by decide +kernel
theorem dX9_copies_221 : decode cX9_copies 221 = .ok (.iload_n 2, 1) := by decide +kernel
theorem dX9_copies_222 : decode cX9_copies 222 = .ok (.imul, 1) := by decide +kernel
theorem dX9_copies_223 : decode cX9_copies 223 = .ok (.iload_n 3, 1) := by decide +kernel
theorem dX9_copies_224 : decode cX9_copies 224 = .ok (.iadd, 1) := by decide +kernel
theorem dX9_copies_225 : decode cX9_copies 225 = .ok (.invokevirtual 380, 3) := by decide +kernel
theorem dX9_copies_228 : decode cX9_copies 228 = .ok (.iinc 3 1, 3) := by decide +kernel
theorem dX9_copies_231 : decode cX9_copies 231 = .ok (.goto (-25), 3) := by decide +kernel
theorem dX9_copies_234 : decode cX9_copies 234 = .ok (.iconst 0, 1) := by decide +kernel
theorem dX9_copies_235 : decode cX9_copies 235 = .ok (.istore_n 3, 1) := by decide +kernel
theorem dX9_copies_236 : decode cX9_copies 236 = .ok (.iload_n 3, 1) := by decide +kernel
theorem dX9_copies_237 : decode cX9_copies 237 = .ok (.iconst 4, 1) := by decide +kernel
theorem dX9_copies_238 : decode cX9_copies 238 = .ok (.if_icmp .ge 89, 3) := by decide +kernel
theorem dX9_copies_241 : decode cX9_copies 241 = .ok (.aload_n 0, 1) := by decide +kernel
theorem dX9_copies_242 : decode cX9_copies 242 = .ok (.getfield 101, 3) := by decide +kernel
theorem dX9_copies_245 : decode cX9_copies 245 = .ok (.iconst 4, 1) := by decide +kernel
theorem dX9_copies_246 : decode cX9_copies 246 = .ok (.iload_n 2, 1) := by decide +kernel
theorem dX9_copies_247 : decode cX9_copies 247 = .ok (.imul, 1) := by decide +kernel
theorem dX9_copies_248 : decode cX9_copies 248 = .ok (.iload_n 3, 1) := by decide +kernel
theorem dX9_copies_249 : decode cX9_copies 249 = .ok (.iadd, 1) := by decide +kernel
theorem dX9_copies_250 : decode cX9_copies 250 = .ok (.aload_n 0, 1) := by decide +kernel
theorem dX9_copies_251 : decode cX9_copies 251 = .ok (.getfield 101, 3) := by decide +kernel
theorem dX9_copies_254 : decode cX9_copies 254 = .ok (.iconst 4, 1) := by decide +kernel
theorem dX9_copies_255 : decode cX9_copies 255 = .ok (.iload_n 1, 1) := by decide +kernel
theorem dX9_copies_256 : decode cX9_copies 256 = .ok (.imul, 1) := by decide +kernel
theorem dX9_copies_257 : decode cX9_copies 257 = .ok (.iload_n 3, 1) := by decide +kernel
theorem dX9_copies_258 : decode cX9_copies 258 = .ok (.iadd, 1) := by decide +kernel
theorem dX9_copies_259 : decode cX9_copies 259 = .ok (.iaload, 1) := by decide +kernel
theorem dX9_copies_260 : decode cX9_copies 260 = .ok (.iastore, 1) := by decide +kernel
theorem dX9_copies_261 : decode cX9_copies 261 = .ok (.aload_n 0, 1) := by decide +kernel
theorem dX9_copies_262 : decode cX9_copies 262 = .ok (.getfield 104, 3) := by decide +kernel
theorem dX9_copies_265 : decode cX9_copies 265 = .ok (.iconst 4, 1) := by decide +kernel
theorem dX9_copies_266 : decode cX9_copies 266 = .ok (.iload_n 2, 1) := by decide +kernel
theorem dX9_copies_267 : decode cX9_copies 267 = .ok (.imul, 1) := by decide +kernel
theorem dX9_copies_268 : decode cX9_copies 268 = .ok (.iload_n 3, 1) := by decide +kernel
theorem dX9_copies_269 : decode cX9_copies 269 = .ok (.iadd, 1) := by decide +kernel
theorem dX9_copies_270 : decode cX9_copies 270 = .ok (.aload_n 0, 1) := by decide +kernel
theorem dX9_copies_271 : decode cX9_copies 271 = .ok (.getfield 104, 3) := by decide +kernel
theorem dX9_copies_274 : decode cX9_copies 274 = .ok (.iconst 4, 1) := by decide +kernel
theorem dX9_copies_275 : decode cX9_copies 275 = .ok (.iload_n 1, 1) := by decide +kernel
theorem dX9_copies_276 : decode cX9_copies 276 = .ok (.imul, 1) := by decide +kernel
theorem dX9_copies_277 : decode cX9_copies 277 = .ok (.iload_n 3, 1) := by decide +kernel
theorem dX9_copies_278 : decode cX9_copies 278 = .ok (.iadd, 1) := by decide +kernel
theorem dX9_copies_279 : decode cX9_copies 279 = .ok (.iaload, 1) := by decide +kernel
theorem dX9_copies_280 : decode cX9_copies 280 = .ok (.iastore, 1) := by decide +kernel
theorem dX9_copies_281 : decode cX9_copies 281 = .ok (.aload_n 0, 1) := by decide +kernel
theorem dX9_copies_282 : decode cX9_copies 282 = .ok (.getfield 107, 3) := by decide +kernel
theorem dX9_copies_285 : decode cX9_copies 285 = .ok (.iconst 4, 1) := by decide +kernel
theorem dX9_copies_286 : decode cX9_copies 286 = .ok (.iload_n 2, 1) := by decide +kernel
theorem dX9_copies_287 : decode cX9_copies 287 = .ok (.imul, 1) := by decide +kernel
theorem dX9_copies_288 : decode cX9_copies 288 = .ok (.iload_n 3, 1) := by decide +kernel
theorem dX9_copies_289 : decode cX9_copies 289 = .ok (.iadd, 1) := by decide +kernel
theorem dX9_copies_290 : decode cX9_copies 290 = .ok (.aload_n 0, 1) := by decide +kernel
theorem dX9_copies_291 : decode cX9_copies 291 = .ok (.getfield 107, 3) := by decide +kernel
theorem dX9_copies_294 : decode cX9_copies 294 = .ok (.iconst 4, 1) := by decide +kernel
theorem dX9_copies_295 : decode cX9_copies 295 = .ok (.iload_n 1, 1) := by decide +kernel
theorem dX9_copies_296 : decode cX9_copies 296 = .ok (.imul, 1) := by decide +kernel
theorem dX9_copies_297 : decode cX9_copies 297 = .ok (.iload_n 3, 1) := by decide +kernel
theorem dX9_copies_298 : decode cX9_copies 298 = .ok (.iadd, 1) := by decide +kernel
theorem dX9_copies_299 : decode cX9_copies 299 = .ok (.iaload, 1) := by decide +kernel
theorem dX9_copies_300 : decode cX9_copies 300 = .ok (.iastore, 1) := by decide +kernel
theorem dX9_copies_301 : decode cX9_copies 301 = .ok (.aload_n 0, 1) := by decide +kernel
theorem dX9_copies_302 : decode cX9_copies 302 = .ok (.getfield 110, 3) := by decide +kernel
theorem dX9_copies_305 : decode cX9_copies 305 = .ok (.iconst 4, 1) := by decide +kernel
theorem dX9_copies_306 : decode cX9_copies 306 = .ok (.iload_n 2, 1) := by decide +kernel
theorem dX9_copies_307 : decode cX9_copies 307 = .ok (.imul, 1) := by decide +kernel
theorem dX9_copies_308 : decode cX9_copies 308 = .ok (.iload_n 3, 1) := by decide +kernel
theorem dX9_copies_309 : decode cX9_copies 309 = .ok (.iadd, 1) := by decide +kernel
theorem dX9_copies_310 : decode cX9_copies 310 = .ok (.aload_n 0, 1) := by decide +kernel
theorem dX9_copies_311 : decode cX9_copies 311 = .ok (.getfield 110, 3) := by decide +kernel
theorem dX9_copies_314 : decode cX9_copies 314 = .ok (.iconst 4, 1) := by decide +kernel
theorem dX9_copies_315 : decode cX9_copies 315 = .ok (.iload_n 1, 1) := by decide +kernel
theorem dX9_copies_316 : decode cX9_copies 316 = .ok (.imul, 1) := by decide +kernel
theorem dX9_copies_317 : decode cX9_copies 317 = .ok (.iload_n 3, 1) := by decide +kernel
theorem dX9_copies_318 : decode cX9_copies 318 = .ok (.iadd, 1) := by decide +kernel
theorem dX9_copies_319 : decode cX9_copies 319 = .ok (.iaload, 1) := by decide +kernel
theorem dX9_copies_320 : decode cX9_copies 320 = .ok (.iastore, 1) := by decide +kernel
theorem dX9_copies_321 : decode cX9_copies 321 = .ok (.iinc 3 1, 3) := by decide +kernel
theorem dX9_copies_324 : decode cX9_copies 324 = .ok (.goto (-88), 3) := by decide +kernel
theorem dX9_copies_327 : decode cX9_copies 327 = .ok (.iconst 0, 1) := by decide +kernel
theorem dX9_copies_328 : decode cX9_copies 328 = .ok (.istore_n 3, 1) := by decide +kernel
theorem dX9_copies_329 : decode cX9_copies 329 = .ok (.iload_n 3, 1) := by decide +kernel
theorem dX9_copies_330 : decode cX9_copies 330 = .ok (.bipush 64, 2) := by decide +kernel
theorem dX9_copies_332 : decode cX9_copies 332 = .ok (.if_icmp .ge 53, 3) := by decide +kernel
theorem dX9_copies_335 : decode cX9_copies 335 = .ok (.aload_n 0, 1) := by decide +kernel
theorem dX9_copies_336 : decode cX9_copies 336 = .ok (.getfield 113, 3) := by decide +kernel
theorem dX9_copies_339 : decode cX9_copies 339 = .ok (.bipush 64, 2) := by decide +kernel
theorem dX9_copies_341 : decode cX9_copies 341 = .ok (.iload_n 2, 1) := by decide +kernel
theorem dX9_copies_342 : decode cX9_copies 342 = .ok (.imul, 1) := by decide +kernel
theorem dX9_copies_343 : decode cX9_copies 343 = .ok (.iload_n 3, 1) := by decide +kernel
theorem dX9_copies_344 : decode cX9_copies 344 = .ok (.iadd, 1) := by decide +kernel
theorem dX9_copies_345 : decode cX9_copies 345 = .ok (.aload_n 0, 1) := by decide +kernel
theorem dX9_copies_346 : decode cX9_copies 346 = .ok (.getfield 113, 3) := by decide +kernel
theorem dX9_copies_349 : decode cX9_copies 349 = .ok (.bipush 64, 2) := by decide +kernel
theorem dX9_copies_351 : decode cX9_copies 351 = .ok (.iload_n 1, 1) := by decide +kernel
theorem dX9_copies_352 : decode cX9_copies 352 = .ok (.imul, 1) := by decide +kernel
theorem dX9_copies_353 : decode cX9_copies 353 = .ok (.iload_n 3, 1) := by decide +kernel
theorem dX9_copies_354 : decode cX9_copies 354 = .ok (.iadd, 1) := by decide +kernel
theorem dX9_copies_355 : decode cX9_copies 355 = .ok (.iaload, 1) := by decide +kernel
theorem dX9_copies_356 : decode cX9_copies 356 = .ok (.iastore, 1) := by decide +kernel
theorem dX9_copies_357 : decode cX9_copies 357 = .ok (.aload_n 0, 1) := by decide +kernel
theorem dX9_copies_358 : decode cX9_copies 358 = .ok (.getfield 116, 3) := by decide +kernel
theorem dX9_copies_361 : decode cX9_copies 361 = .ok (.bipush 64, 2) := by decide +kernel
theorem dX9_copies_363 : decode cX9_copies 363 = .ok (.iload_n 2, 1) := by decide +kernel
theorem dX9_copies_364 : decode cX9_copies 364 = .ok (.imul, 1) := by decide +kernel
theorem dX9_copies_365 : decode cX9_copies 365 = .ok (.iload_n 3, 1) := by decide +kernel
theorem dX9_copies_366 : decode cX9_copies 366 = .ok (.iadd, 1) := by decide +kernel
theorem dX9_copies_367 : decode cX9_copies 367 = .ok (.aload_n 0, 1) := by decide +kernel
theorem dX9_copies_368 : decode cX9_copies 368 = .ok (.getfield 116, 3) := by decide +kernel
theorem dX9_copies_371 : decode cX9_copies 371 = .ok (.bipush 64, 2) := by decide +kernel
theorem dX9_copies_373 : decode cX9_copies 373 = .ok (.iload_n 1, 1) := by decide +kernel
theorem dX9_copies_374 : decode cX9_copies 374 = .ok (.imul, 1) := by decide +kernel
theorem dX9_copies_375 : decode cX9_copies 375 = .ok (.iload_n 3, 1) := by decide +kernel
theorem dX9_copies_376 : decode cX9_copies 376 = .ok (.iadd, 1) := by decide +kernel
theorem dX9_copies_377 : decode cX9_copies 377 = .ok (.daload, 1) := by decide +kernel
theorem dX9_copies_378 : decode cX9_copies 378 = .ok (.dastore, 1) := by decide +kernel
theorem dX9_copies_379 : decode cX9_copies 379 = .ok (.iinc 3 1, 3) := by decide +kernel
theorem dX9_copies_382 : decode cX9_copies 382 = .ok (.goto (-53), 3) := by decide +kernel
theorem dX9_copies_385 : decode cX9_copies 385 = .ok (.return_, 1) := by decide +kernel
theorem dX9_copiesVariable_0 : decode cX9_copiesVariable 0 = .ok (.aload_n 0, 1) := by decide +kernel
theorem dX9_copiesVariable_1 : decode cX9_copiesVariable 1 = .ok (.getfield 98, 3) := by decide +kernel
theorem dX9_copiesVariable_4 : decode cX9_copiesVariable 4 = .ok (.iload_n 2, 1) := by decide +kernel
theorem dX9_copiesVariable_5 : decode cX9_copiesVariable 5 = .ok (.aload_n 0, 1) := by decide +kernel
theorem dX9_copiesVariable_6 : decode cX9_copiesVariable 6 = .ok (.getfield 98, 3) := by decide +kernel
theorem dX9_copiesVariable_9 : decode cX9_copiesVariable 9 = .ok (.iload_n 1, 1) := by decide +kernel
theorem dX9_copiesVariable_10 : decode cX9_copiesVariable 10 = .ok (.daload, 1) := by decide +kernel
theorem dX9_copiesVariable_11 : decode cX9_copiesVariable 11 = .ok (.dastore, 1) := by decide +kernel
theorem dX9_copiesVariable_12 : decode cX9_copiesVariable 12 = .ok (.aload_n 0, 1) := by decide +kernel
theorem dX9_copiesVariable_13 : decode cX9_copiesVariable 13 = .ok (.getfield 128, 3) := by decide +kernel
theorem dX9_copiesVariable_16 : decode cX9_copiesVariable 16 = .ok (.iload_n 2, 1) := by decide +kernel
theorem dX9_copiesVariable_17 : decode cX9_copiesVariable 17 = .ok (.aload_n 0, 1) := by decide +kernel
theorem dX9_copiesVariable_18 : decode cX9_copiesVariable 18 = .ok (.getfield 128, 3) := by decide +kernel
theorem dX9_copiesVariable_21 : decode cX9_copiesVariable 21 = .ok (.iload_n 1, 1) := by decide +kernel
theorem dX9_copiesVariable_22 : decode cX9_copiesVariable 22 = .ok (.daload, 1) := by decide +kernel
theorem dX9_copiesVariable_23 : decode cX9_copiesVariable 23 = .ok (.dastore, 1) := by decide +kernel
theorem dX9_copiesVariable_24 : decode cX9_copiesVariable 24 = .ok (.aload_n 0, 1) := by decide +kernel
theorem dX9_copiesVariable_25 : decode cX9_copiesVariable 25 = .ok (.getfield 131, 3) := by decide +kernel
theorem dX9_copiesVariable_28 : decode cX9_copiesVariable 28 = .ok (.iload_n 2, 1) := by decide +kernel
theorem dX9_copiesVariable_29 : decode cX9_copiesVariable 29 = .ok (.aload_n 0, 1) := by decide +kernel
theorem dX9_copiesVariable_30 : decode cX9_copiesVariable 30 = .ok (.getfield 131, 3) := by decide +kernel
theorem dX9_copiesVariable_33 : decode cX9_copiesVariable 33 = .ok (.iload_n 1, 1) := by decide +kernel
theorem dX9_copiesVariable_34 : decode cX9_copiesVariable 34 = .ok (.daload, 1) := by decide +kernel
theorem dX9_copiesVariable_35 : decode cX9_copiesVariable 35 = .ok (.dastore, 1) := by decide +kernel
theorem dX9_copiesVariable_36 : decode cX9_copiesVariable 36 = .ok (.aload_n 0, 1) := by decide +kernel
theorem dX9_copiesVariable_37 : decode cX9_copiesVariable 37 = .ok (.getfield 134, 3) := by decide +kernel
theorem dX9_copiesVariable_40 : decode cX9_copiesVariable 40 = .ok (.iload_n 2, 1) := by decide +kernel
theorem dX9_copiesVariable_41 : decode cX9_copiesVariable 41 = .ok (.aload_n 0, 1) := by decide +kernel
theorem dX9_copiesVariable_42 : decode cX9_copiesVariable 42 = .ok (.getfield 134, 3) := by decide +kernel
theorem dX9_copiesVariable_45 : decode cX9_copiesVariable 45 = .ok (.iload_n 1, 1) := by decide +kernel
theorem dX9_copiesVariable_46 : decode cX9_copiesVariable 46 = .ok (.daload, 1) := by decide +kernel
theorem dX9_copiesVariable_47 : decode cX9_copiesVariable 47 = .ok (.dastore, 1) := by decide +kernel
theorem dX9_copiesVariable_48 : decode cX9_copiesVariable 48 = .ok (.aload_n 0, 1) := by decide +kernel
theorem dX9_copiesVariable_49 : decode cX9_copiesVariable 49 = .ok (.getfield 137, 3) := by decide +kernel
theorem dX9_copiesVariable_52 : decode cX9_copiesVariable 52 = .ok (.iload_n 2, 1) := by decide +kernel
theorem dX9_copiesVariable_53 : decode cX9_copiesVariable 53 = .ok (.aload_n 0, 1) := by decide +kernel
theorem dX9_copiesVariable_54 : decode cX9_copiesVariable 54 = .ok (.getfield 137, 3) := by decide +kernel
theorem dX9_copiesVariable_57 : decode cX9_copiesVariable 57 = .ok (.iload_n 1, 1) := by decide +kernel
theorem dX9_copiesVariable_58 : decode cX9_copiesVariable 58 = .ok (.daload, 1) := by decide +kernel
theorem dX9_copiesVariable_59 : decode cX9_copiesVariable 59 = .ok (.dastore, 1) := by decide +kernel
theorem dX9_copiesVariable_60 : decode cX9_copiesVariable 60 = .ok (.iconst 0, 1) := by decide +kernel
theorem dX9_copiesVariable_61 : decode cX9_copiesVariable 61 = .ok (.istore_n 3, 1) := by decide +kernel
theorem dX9_copiesVariable_62 : decode cX9_copiesVariable 62 = .ok (.iload_n 3, 1) := by decide +kernel
theorem dX9_copiesVariable_63 : decode cX9_copiesVariable 63 = .ok (.iconst 5, 1) := by decide +kernel
theorem dX9_copiesVariable_64 : decode cX9_copiesVariable 64 = .ok (.if_icmp .ge 29, 3) := by decide +kernel
theorem dX9_copiesVariable_67 : decode cX9_copiesVariable 67 = .ok (.aload_n 0, 1) := by decide +kernel
theorem dX9_copiesVariable_68 : decode cX9_copiesVariable 68 = .ok (.getfield 140, 3) := by decide +kernel
theorem dX9_copiesVariable_71 : decode cX9_copiesVariable 71 = .ok (.iconst 5, 1) := by decide +kernel
theorem dX9_copiesVariable_72 : decode cX9_copiesVariable 72 = .ok (.iload_n 2, 1) := by decide +kernel
theorem dX9_copiesVariable_73 : decode cX9_copiesVariable 73 = .ok (.imul, 1) := by decide +kernel
theorem dX9_copiesVariable_74 : decode cX9_copiesVariable 74 = .ok (.iload_n 3, 1) := by decide +kernel
theorem dX9_copiesVariable_75 : decode cX9_copiesVariable 75 = .ok (.iadd, 1) := by decide +kernel
theorem dX9_copiesVariable_76 : decode cX9_copiesVariable 76 = .ok (.aload_n 0, 1) := by decide +kernel
theorem dX9_copiesVariable_77 : decode cX9_copiesVariable 77 = .ok (.getfield 140, 3) := by decide +kernel
theorem dX9_copiesVariable_80 : decode cX9_copiesVariable 80 = .ok (.iconst 5, 1) := by decide +kernel
theorem dX9_copiesVariable_81 : decode cX9_copiesVariable 81 = .ok (.iload_n 1, 1) := by decide +kernel
theorem dX9_copiesVariable_82 : decode cX9_copiesVariable 82 = .ok (.imul, 1) := by decide +kernel
theorem dX9_copiesVariable_83 : decode cX9_copiesVariable 83 = .ok (.iload_n 3, 1) := by decide +kernel
theorem dX9_copiesVariable_84 : decode cX9_copiesVariable 84 = .ok (.iadd, 1) := by decide +kernel
theorem dX9_copiesVariable_85 : decode cX9_copiesVariable 85 = .ok (.daload, 1) := by decide +kernel
theorem dX9_copiesVariable_86 : decode cX9_copiesVariable 86 = .ok (.dastore, 1) := by decide +kernel
theorem dX9_copiesVariable_87 : decode cX9_copiesVariable 87 = .ok (.iinc 3 1, 3) := by decide +kernel
theorem dX9_copiesVariable_90 : decode cX9_copiesVariable 90 = .ok (.goto (-28), 3) := by decide +kernel
theorem dX9_copiesVariable_93 : decode cX9_copiesVariable 93 = .ok (.return_, 1) := by decide +kernel
theorem dX9_keep_0 : decode cX9_keep 0 = .ok (.aload_n 0, 1) := by decide +kernel
theorem dX9_keep_1 : decode cX9_keep 1 = .ok (.iload_n 1, 1) := by decide +kernel
theorem dX9_keep_2 : decode cX9_keep 2 = .ok (.invokevirtual 366, 3) := by decide +kernel
theorem dX9_keep_5 : decode cX9_keep 5 = .ok (.ifCond .eq 12, 3) := by decide +kernel
theorem dX9_keep_8 : decode cX9_keep 8 = .ok (.iload_n 2, 1) := by decide +kernel
theorem dX9_keep_9 : decode cX9_keep 9 = .ok (.iconst 0, 1) := by decide +kernel
theorem dX9_keep_10 : decode cX9_keep 10 = .ok (.iconst 3, 1) := by decide +kernel
theorem dX9_keep_11 : decode cX9_keep 11 = .ok (.invokestatic 343, 3) := by decide +kernel
theorem dX9_keep_14 : decode cX9_keep 14 = .ok (.ifCond .ne 5, 3) := by decide +kernel
theorem dX9_keep_17 : decode cX9_keep 17 = .ok (.iconst (-1), 1) := by decide +kernel
theorem dX9_keep_18 : decode cX9_keep 18 = .ok (.ireturn, 1) := by decide +kernel
theorem dX9_keep_19 : decode cX9_keep 19 = .ok (.aload_n 0, 1) := by decide +kernel
theorem dX9_keep_20 : decode cX9_keep 20 = .ok (.iload_n 1, 1) := by decide +kernel
theorem dX9_keep_21 : decode cX9_keep 21 = .ok (.iconst 4, 1) := by decide +kernel
theorem dX9_keep_22 : decode cX9_keep 22 = .ok (.iload_n 2, 1) := by decide +kernel
theorem dX9_keep_23 : decode cX9_keep 23 = .ok (.iadd, 1) := by decide +kernel
theorem dX9_keep_24 : decode cX9_keep 24 = .ok (.invokevirtual 374, 3) := by decide +kernel
theorem dX9_keep_27 : decode cX9_keep 27 = .ok (.aload_n 0, 1) := by decide +kernel
theorem dX9_keep_28 : decode cX9_keep 28 = .ok (.getfield 80, 3) := by decide +kernel
theorem dX9_keep_31 : decode cX9_keep 31 = .ok (.iload_n 2, 1) := by decide +kernel
theorem dX9_keep_32 : decode cX9_keep 32 = .ok (.iconst 1, 1) := by decide +kernel
theorem dX9_keep_33 : decode cX9_keep 33 = .ok (.bastore, 1) := by decide +kernel
theorem dX9_keep_34 : decode cX9_keep 34 = .ok (.iconst 1, 1) := by decide +kernel
theorem dX9_keep_35 : decode cX9_keep 35 = .ok (.ireturn, 1) := by decide +kernel
theorem dX9_back_0 : decode cX9_back 0 = .ok (.aload_n 0, 1) := by decide +kernel
theorem dX9_back_1 : decode cX9_back 1 = .ok (.iload_n 1, 1) := by decide +kernel
theorem dX9_back_2 : decode cX9_back 2 = .ok (.invokevirtual 366, 3) := by decide +kernel
theorem dX9_back_5 : decode cX9_back 5 = .ok (.ifCond .eq 12, 3) := by decide +kernel
theorem dX9_back_8 : decode cX9_back 8 = .ok (.iload_n 2, 1) := by decide +kernel
theorem dX9_back_9 : decode cX9_back 9 = .ok (.iconst 0, 1) := by decide +kernel
theorem dX9_back_10 : decode cX9_back 10 = .ok (.iconst 3, 1) := by decide +kernel
theorem dX9_back_11 : decode cX9_back 11 = .ok (.invokestatic 343, 3) := by decide +kernel
theorem dX9_back_14 : decode cX9_back 14 = .ok (.ifCond .ne 5, 3) := by decide +kernel
theorem dX9_back_17 : decode cX9_back 17 = .ok (.iconst (-1), 1) := by decide +kernel
theorem dX9_back_18 : decode cX9_back 18 = .ok (.ireturn, 1) := by decide +kernel
theorem dX9_back_19 : decode cX9_back 19 = .ok (.aload_n 0, 1) := by decide +kernel
theorem dX9_back_20 : decode cX9_back 20 = .ok (.getfield 80, 3) := by decide +kernel
theorem dX9_back_23 : decode cX9_back 23 = .ok (.iload_n 2, 1) := by decide +kernel
theorem dX9_back_24 : decode cX9_back 24 = .ok (.baload, 1) := by decide +kernel
theorem dX9_back_25 : decode cX9_back 25 = .ok (.ifCond .ne 6, 3) := by decide +kernel
theorem dX9_back_28 : decode cX9_back 28 = .ok (.bipush (-2), 2) := by decide +kernel
theorem dX9_back_30 : decode cX9_back 30 = .ok (.ireturn, 1) := by decide +kernel
theorem dX9_back_31 : decode cX9_back 31 = .ok (.aload_n 0, 1) := by decide +kernel
theorem dX9_back_32 : decode cX9_back 32 = .ok (.iconst 4, 1) := by decide +kernel
theorem dX9_back_33 : decode cX9_back 33 = .ok (.iload_n 2, 1) := by decide +kernel
theorem dX9_back_34 : decode cX9_back 34 = .ok (.iadd, 1) := by decide +kernel
theorem dX9_back_35 : decode cX9_back 35 = .ok (.iload_n 1, 1) := by decide +kernel
theorem dX9_back_36 : decode cX9_back 36 = .ok (.invokevirtual 374, 3) := by decide +kernel
theorem dX9_back_39 : decode cX9_back 39 = .ok (.iconst 1, 1) := by decide +kernel
theorem dX9_back_40 : decode cX9_back 40 = .ok (.ireturn, 1) := by decide +kernel
theorem dX9_unlike_0 : decode cX9_unlike 0 = .ok (.aload_n 0, 1) := by decide +kernel
theorem dX9_unlike_1 : decode cX9_unlike 1 = .ok (.iload_n 1, 1) := by decide +kernel
theorem dX9_unlike_2 : decode cX9_unlike 2 = .ok (.invokevirtual 366, 3) := by decide +kernel
theorem dX9_unlike_5 : decode cX9_unlike 5 = .ok (.ifCond .eq 12, 3) := by decide +kernel
theorem dX9_unlike_8 : decode cX9_unlike 8 = .ok (.iload_n 2, 1) := by decide +kernel
theorem dX9_unlike_9 : decode cX9_unlike 9 = .ok (.iconst 0, 1) := by decide +kernel
theorem dX9_unlike_10 : decode cX9_unlike 10 = .ok (.iconst 3, 1) := by decide +kernel
theorem dX9_unlike_11 : decode cX9_unlike 11 = .ok (.invokestatic 343, 3) := by decide +kernel
theorem dX9_unlike_14 : decode cX9_unlike 14 = .ok (.ifCond .ne 5, 3) := by decide +kernel
theorem dX9_unlike_17 : decode cX9_unlike 17 = .ok (.iconst (-1), 1) := by decide +kernel
theorem dX9_unlike_18 : decode cX9_unlike 18 = .ok (.ireturn, 1) := by decide +kernel
theorem dX9_unlike_19 : decode cX9_unlike 19 = .ok (.aload_n 0, 1) := by decide +kernel
theorem dX9_unlike_20 : decode cX9_unlike 20 = .ok (.getfield 80, 3) := by decide +kernel
theorem dX9_unlike_23 : decode cX9_unlike 23 = .ok (.iload_n 2, 1) := by decide +kernel
theorem dX9_unlike_24 : decode cX9_unlike 24 = .ok (.baload, 1) := by decide +kernel
theorem dX9_unlike_25 : decode cX9_unlike 25 = .ok (.ifCond .ne 6, 3) := by decide +kernel
theorem dX9_unlike_28 : decode cX9_unlike 28 = .ok (.bipush (-2), 2) := by decide +kernel
theorem dX9_unlike_30 : decode cX9_unlike 30 = .ok (.ireturn, 1) := by decide +kernel
theorem dX9_unlike_31 : decode cX9_unlike 31 = .ok (.iconst 4, 1) := by decide +kernel
theorem dX9_unlike_32 : decode cX9_unlike 32 = .ok (.iload_n 2, 1) := by decide +kernel
theorem dX9_unlike_33 : decode cX9_unlike 33 = .ok (.iadd, 1) := by decide +kernel
theorem dX9_unlike_34 : decode cX9_unlike 34 = .ok (.istore_n 3, 1) := by decide +kernel
theorem dX9_unlike_35 : decode cX9_unlike 35 = .ok (.aload_n 0, 1) := by decide +kernel
theorem dX9_unlike_36 : decode cX9_unlike 36 = .ok (.getfield 9, 3) := by decide +kernel
theorem dX9_unlike_39 : decode cX9_unlike 39 = .ok (.aload_n 0, 1) := by decide +kernel
theorem dX9_unlike_40 : decode cX9_unlike 40 = .ok (.getfield 52, 3) := by decide +kernel
theorem dX9_unlike_43 : decode cX9_unlike 43 = .ok (.iload_n 1, 1) := by decide +kernel
theorem dX9_unlike_44 : decode cX9_unlike 44 = .ok (.iaload, 1) := by decide +kernel
theorem dX9_unlike_45 : decode cX9_unlike 45 = .ok (.iaload, 1) := by decide +kernel
theorem dX9_unlike_46 : decode cX9_unlike 46 = .ok (.istore 4, 2) := by decide +kernel
theorem dX9_unlike_48 : decode cX9_unlike 48 = .ok (.aload_n 0, 1) := by decide +kernel
theorem dX9_unlike_49 : decode cX9_unlike 49 = .ok (.getfield 9, 3) := by decide +kernel
theorem dX9_unlike_52 : decode cX9_unlike 52 = .ok (.aload_n 0, 1) := by decide +kernel
theorem dX9_unlike_53 : decode cX9_unlike 53 = .ok (.getfield 52, 3) := by decide +kernel
theorem dX9_unlike_56 : decode cX9_unlike 56 = .ok (.iload_n 3, 1) := by decide +kernel
theorem dX9_unlike_57 : decode cX9_unlike 57 = .ok (.iaload, 1) := by decide +kernel
theorem dX9_unlike_58 : decode cX9_unlike 58 = .ok (.iaload, 1) := by decide +kernel
theorem dX9_unlike_59 : decode cX9_unlike 59 = .ok (.istore 5, 2) := by decide +kernel
theorem dX9_unlike_61 : decode cX9_unlike 61 = .ok (.aload_n 0, 1) := by decide +kernel
theorem dX9_unlike_62 : decode cX9_unlike 62 = .ok (.getfield 83, 3) := by decide +kernel
theorem dX9_unlike_65 : decode cX9_unlike 65 = .ok (.iload_n 1, 1) := by decide +kernel
theorem dX9_unlike_66 : decode cX9_unlike 66 = .ok (.daload, 1) := by decide +kernel
theorem dX9_unlike_67 : decode cX9_unlike 67 = .ok (.invokestatic 377, 3) := by decide +kernel
theorem dX9_unlike_70 : decode cX9_unlike 70 = .ok (.aload_n 0, 1) := by decide +kernel
theorem dX9_unlike_71 : decode cX9_unlike 71 = .ok (.getfield 83, 3) := by decide +kernel
theorem dX9_unlike_74 : decode cX9_unlike 74 = .ok (.iload_n 3, 1) := by decide +kernel
theorem dX9_unlike_75 : decode cX9_unlike 75 = .ok (.daload, 1) := by decide +kernel
theorem dX9_unlike_76 : decode cX9_unlike 76 = .ok (.invokestatic 377, 3) := by decide +kernel
theorem dX9_unlike_79 : decode cX9_unlike 79 = .ok (.lcmp, 1) := by decide +kernel
theorem dX9_unlike_80 : decode cX9_unlike 80 = .ok (.ifCond .eq 7, 3) := by decide +kernel
theorem dX9_unlike_83 : decode cX9_unlike 83 = .ok (.iconst 1, 1) := by decide +kernel
theorem dX9_unlike_84 : decode cX9_unlike 84 = .ok (.goto 4, 3) := by decide +kernel
theorem dX9_unlike_87 : decode cX9_unlike 87 = .ok (.iconst 0, 1) := by decide +kernel
theorem dX9_unlike_88 : decode cX9_unlike 88 = .ok (.aload_n 0, 1) := by decide +kernel
theorem dX9_unlike_89 : decode cX9_unlike 89 = .ok (.getfield 86, 3) := by decide +kernel
theorem dX9_unlike_92 : decode cX9_unlike 92 = .ok (.iload_n 1, 1) := by decide +kernel
theorem dX9_unlike_93 : decode cX9_unlike 93 = .ok (.daload, 1) := by decide +kernel
theorem dX9_unlike_94 : decode cX9_unlike 94 = .ok (.invokestatic 377, 3) := by decide +kernel
theorem dX9_unlike_97 : decode cX9_unlike 97 = .ok (.aload_n 0, 1) := by decide +kernel
theorem dX9_unlike_98 : decode cX9_unlike 98 = .ok (.getfield 86, 3) := by decide +kernel
theorem dX9_unlike_101 : decode cX9_unlike 101 = .ok (.iload_n 3, 1) := by decide +kernel
theorem dX9_unlike_102 : decode cX9_unlike 102 = .ok (.daload, 1) := by decide +kernel
theorem dX9_unlike_103 : decode cX9_unlike 103 = .ok (.invokestatic 377, 3) := by decide +kernel
theorem dX9_unlike_106 : decode cX9_unlike 106 = .ok (.lcmp, 1) := by decide +kernel
theorem dX9_unlike_107 : decode cX9_unlike 107 = .ok (.ifCond .eq 7, 3) := by decide +kernel
theorem dX9_unlike_110 : decode cX9_unlike 110 = .ok (.iconst 1, 1) := by decide +kernel
theorem dX9_unlike_111 : decode cX9_unlike 111 = .ok (.goto 4, 3) := by decide +kernel
theorem dX9_unlike_114 : decode cX9_unlike 114 = .ok (.iconst 0, 1) := by decide +kernel
theorem dX9_unlike_115 : decode cX9_unlike 115 = .ok (.iadd, 1) := by decide +kernel
theorem dX9_unlike_116 : decode cX9_unlike 116 = .ok (.iload 4, 2) := by decide +kernel
theorem dX9_unlike_118 : decode cX9_unlike 118 = .ok (.iload 5, 2) := by decide +kernel
theorem dX9_unlike_120 : decode cX9_unlike 120 = .ok (.if_icmp .ge 11, 3) := by decide +kernel
theorem dX9_unlike_123 : decode cX9_unlike 123 = .ok (.iload 5, 2) := by decide +kernel
theorem dX9_unlike_125 : decode cX9_unlike 125 = .ok (.iload 4, 2) := by decide +kernel
theorem dX9_unlike_127 : decode cX9_unlike 127 = .ok (.isub, 1) := by decide +kernel
theorem dX9_unlike_128 : decode cX9_unlike 128 = .ok (.goto 8, 3) := by decide +kernel
theorem dX9_unlike_131 : decode cX9_unlike 131 = .ok (.iload 4, 2) := by decide +kernel
theorem dX9_unlike_133 : decode cX9_unlike 133 = .ok (.iload 5, 2) := by decide +kernel
theorem dX9_unlike_135 : decode cX9_unlike 135 = .ok (.isub, 1) := by decide +kernel
theorem dX9_unlike_136 : decode cX9_unlike 136 = .ok (.iadd, 1) := by decide +kernel
theorem dX9_unlike_137 : decode cX9_unlike 137 = .ok (.istore 6, 2) := by decide +kernel
theorem dX9_unlike_139 : decode cX9_unlike 139 = .ok (.iconst 0, 1) := by decide +kernel
theorem dX9_unlike_140 : decode cX9_unlike 140 = .ok (.istore 7, 2) := by decide +kernel
theorem dX9_unlike_142 : decode cX9_unlike 142 = .ok (.iload 7, 2) := by decide +kernel
theorem dX9_unlike_144 : decode cX9_unlike 144 = .ok (.iload 4, 2) := by decide +kernel
theorem dX9_unlike_146 : decode cX9_unlike 146 = .ok (.if_icmp .ge 53, 3) := by decide +kernel
theorem dX9_unlike_149 : decode cX9_unlike 149 = .ok (.iload 7, 2) := by decide +kernel
theorem dX9_unlike_151 : decode cX9_unlike 151 = .ok (.iload 5, 2) := by decide +kernel
theorem dX9_unlike_153 : decode cX9_unlike 153 = .ok (.if_icmp .ge 46, 3) := by decide +kernel
theorem dX9_unlike_156 : decode cX9_unlike 156 = .ok (.aload_n 0, 1) := by decide +kernel
theorem dX9_unlike_157 : decode cX9_unlike 157 = .ok (.getfield 98, 3) := by decide +kernel
theorem dX9_unlike_160 : decode cX9_unlike 160 = .ok (.bipush 6, 2) := by decide +kernel
theorem dX9_unlike_162 : decode cX9_unlike 162 = .ok (.iload_n 1, 1) := by decide +kernel
theorem dX9_unlike_163 : decode cX9_unlike 163 = .ok (.imul, 1) := by decide +kernel
theorem dX9_unlike_164 : decode cX9_unlike 164 = .ok (.iload 7, 2) := by decide +kernel
theorem dX9_unlike_166 : decode cX9_unlike 166 = .ok (.iadd, 1) := by decide +kernel
theorem dX9_unlike_167 : decode cX9_unlike 167 = .ok (.daload, 1) := by decide +kernel
theorem dX9_unlike_168 : decode cX9_unlike 168 = .ok (.invokestatic 377, 3) := by decide +kernel
theorem dX9_unlike_171 : decode cX9_unlike 171 = .ok (.aload_n 0, 1) := by decide +kernel
theorem dX9_unlike_172 : decode cX9_unlike 172 = .ok (.getfield 98, 3) := by decide +kernel
theorem dX9_unlike_175 : decode cX9_unlike 175 = .ok (.bipush 6, 2) := by decide +kernel
theorem dX9_unlike_177 : decode cX9_unlike 177 = .ok (.iload_n 3, 1) := by decide +kernel
theorem dX9_unlike_178 : decode cX9_unlike 178 = .ok (.imul, 1) := by decide +kernel
theorem dX9_unlike_179 : decode cX9_unlike 179 = .ok (.iload 7, 2) := by decide +kernel
theorem dX9_unlike_181 : decode cX9_unlike 181 = .ok (.iadd, 1) := by decide +kernel
theorem dX9_unlike_182 : decode cX9_unlike 182 = .ok (.daload, 1) := by decide +kernel
theorem dX9_unlike_183 : decode cX9_unlike 183 = .ok (.invokestatic 377, 3) := by decide +kernel
theorem dX9_unlike_186 : decode cX9_unlike 186 = .ok (.lcmp, 1) := by decide +kernel
theorem dX9_unlike_187 : decode cX9_unlike 187 = .ok (.ifCond .eq 6, 3) := by decide +kernel
theorem dX9_unlike_190 : decode cX9_unlike 190 = .ok (.iinc 6 1, 3) := by decide +kernel
theorem dX9_unlike_193 : decode cX9_unlike 193 = .ok (.iinc 7 1, 3) := by decide +kernel
theorem dX9_unlike_196 : decode cX9_unlike 196 = .ok (.goto (-54), 3) := by decide +kernel
theorem dX9_unlike_199 : decode cX9_unlike 199 = .ok (.iload 6, 2) := by decide +kernel
theorem dX9_unlike_201 : decode cX9_unlike 201 = .ok (.ireturn, 1) := by decide +kernel
theorem dL_law_0 : decode cL_law 0 = .ok (.new 7, 3) := by decide +kernel
theorem dL_law_3 : decode cL_law 3 = .ok (.dup, 1) := by decide +kernel
theorem dL_law_4 : decode cL_law 4 = .ok (.invokespecial 9, 3) := by decide +kernel
theorem dL_law_7 : decode cL_law 7 = .ok (.astore_n 1, 1) := by decide +kernel
theorem dL_law_8 : decode cL_law 8 = .ok (.new 10, 3) := by decide +kernel
theorem dL_law_11 : decode cL_law 11 = .ok (.dup, 1) := by decide +kernel
theorem dL_law_12 : decode cL_law 12 = .ok (.invokespecial 12, 3) := by decide +kernel
theorem dL_law_15 : decode cL_law 15 = .ok (.astore_n 2, 1) := by decide +kernel
theorem dL_law_16 : decode cL_law 16 = .ok (.iconst 0, 1) := by decide +kernel
theorem dL_law_17 : decode cL_law 17 = .ok (.istore_n 3, 1) := by decide +kernel
theorem dL_law_18 : decode cL_law 18 = .ok (.iload_n 3, 1) := by decide +kernel
theorem dL_law_19 : decode cL_law 19 = .ok (.aload_n 0, 1) := by decide +kernel
theorem dL_law_20 : decode cL_law 20 = .ok (.arraylength, 1) := by decide +kernel
theorem dL_law_21 : decode cL_law 21 = .ok (.bipush 7, 2) := by decide +kernel
theorem dL_law_23 : decode cL_law 23 = .ok (.isub, 1) := by decide +kernel
theorem dL_law_24 : decode cL_law 24 = .ok (.if_icmp .gt 1493, 3) := by decide +kernel
theorem dL_law_27 : decode cL_law 27 = .ok (.aload_n 0, 1) := by decide +kernel
theorem dL_law_28 : decode cL_law 28 = .ok (.iload_n 3, 1) := by decide +kernel
theorem dL_law_29 : decode cL_law 29 = .ok (.iaload, 1) := by decide +kernel
theorem dL_law_30 : decode cL_law 30 = .ok (.bipush 31, 2) := by decide +kernel
theorem dL_law_32 : decode cL_law 32 = .ok (.iand, 1) := by decide +kernel
theorem dL_law_33 : decode cL_law 33 = .ok (.tableswitch 1478 0 25 #[119, 152, 225, 288, 331, 354, 469, 492, 565, 648, 681, 754, 869, 932, 955, 1038, 1072, 1106, 1139, 1183, 1217, 1301, 1345, 1379, 1412, 1445], 119) := by decide +kernel
theorem dL_law_152 : decode cL_law 152 = .ok (.aload_n 1, 1) := by decide +kernel
theorem dL_law_153 : decode cL_law 153 = .ok (.aload_n 0, 1) := by decide +kernel
theorem dL_law_154 : decode cL_law 154 = .ok (.iload_n 3, 1) := by decide +kernel
theorem dL_law_155 : decode cL_law 155 = .ok (.iconst 1, 1) := by decide +kernel
theorem dL_law_156 : decode cL_law 156 = .ok (.iadd, 1) := by decide +kernel
theorem dL_law_157 : decode cL_law 157 = .ok (.iaload, 1) := by decide +kernel
theorem dL_law_158 : decode cL_law 158 = .ok (.aload_n 0, 1) := by decide +kernel
theorem dL_law_159 : decode cL_law 159 = .ok (.iload_n 3, 1) := by decide +kernel
theorem dL_law_160 : decode cL_law 160 = .ok (.iconst 2, 1) := by decide +kernel
theorem dL_law_161 : decode cL_law 161 = .ok (.iadd, 1) := by decide +kernel
theorem dL_law_162 : decode cL_law 162 = .ok (.iaload, 1) := by decide +kernel
theorem dL_law_163 : decode cL_law 163 = .ok (.invokevirtual 13, 3) := by decide +kernel
theorem dL_law_166 : decode cL_law 166 = .ok (.aload_n 2, 1) := by decide +kernel
theorem dL_law_167 : decode cL_law 167 = .ok (.aload_n 0, 1) := by decide +kernel
theorem dL_law_168 : decode cL_law 168 = .ok (.iload_n 3, 1) := by decide +kernel
theorem dL_law_169 : decode cL_law 169 = .ok (.iconst 1, 1) := by decide +kernel
theorem dL_law_170 : decode cL_law 170 = .ok (.iadd, 1) := by decide +kernel
theorem dL_law_171 : decode cL_law 171 = .ok (.iaload, 1) := by decide +kernel
theorem dL_law_172 : decode cL_law 172 = .ok (.aload_n 0, 1) := by decide +kernel
theorem dL_law_173 : decode cL_law 173 = .ok (.iload_n 3, 1) := by decide +kernel
theorem dL_law_174 : decode cL_law 174 = .ok (.iconst 2, 1) := by decide +kernel
theorem dL_law_175 : decode cL_law 175 = .ok (.iadd, 1) := by decide +kernel
theorem dL_law_176 : decode cL_law 176 = .ok (.iaload, 1) := by decide +kernel
theorem dL_law_177 : decode cL_law 177 = .ok (.invokevirtual 17, 3) := by decide +kernel
theorem dL_law_180 : decode cL_law 180 = .ok (.if_icmp .eq 1331, 3) := by decide +kernel
theorem dL_law_183 : decode cL_law 183 = .ok (.iconst 0, 1) := by decide +kernel
theorem dL_law_184 : decode cL_law 184 = .ok (.ireturn, 1) := by decide +kernel
theorem dL_law_185 : decode cL_law 185 = .ok (.aload_n 1, 1) := by decide +kernel
theorem dL_law_186 : decode cL_law 186 = .ok (.aload_n 0, 1) := by decide +kernel
theorem dL_law_187 : decode cL_law 187 = .ok (.iload_n 3, 1) := by decide +kernel
theorem dL_law_188 : decode cL_law 188 = .ok (.iconst 1, 1) := by decide +kernel
theorem dL_law_189 : decode cL_law 189 = .ok (.iadd, 1) := by decide +kernel
theorem dL_law_190 : decode cL_law 190 = .ok (.iaload, 1) := by decide +kernel
theorem dL_law_191 : decode cL_law 191 = .ok (.aload_n 0, 1) := by decide +kernel
theorem dL_law_192 : decode cL_law 192 = .ok (.iload_n 3, 1) := by decide +kernel
theorem dL_law_193 : decode cL_law 193 = .ok (.iconst 2, 1) := by decide +kernel
theorem dL_law_194 : decode cL_law 194 = .ok (.iadd, 1) := by decide +kernel
theorem dL_law_195 : decode cL_law 195 = .ok (.iaload, 1) := by decide +kernel
theorem dL_law_196 : decode cL_law 196 = .ok (.i2l, 1) := by decide +kernel
theorem dL_law_197 : decode cL_law 197 = .ok (.bipush 32, 2) := by decide +kernel
theorem dL_law_199 : decode cL_law 199 = .ok (.lshl, 1) := by decide +kernel
theorem dL_law_200 : decode cL_law 200 = .ok (.aload_n 0, 1) := by decide +kernel
theorem dL_law_201 : decode cL_law 201 = .ok (.iload_n 3, 1) := by decide +kernel
theorem dL_law_202 : decode cL_law 202 = .ok (.iconst 3, 1) := by decide +kernel
theorem dL_law_203 : decode cL_law 203 = .ok (.iadd, 1) := by decide +kernel
theorem dL_law_204 : decode cL_law 204 = .ok (.iaload, 1) := by decide +kernel
theorem dL_law_205 : decode cL_law 205 = .ok (.i2l, 1) := by decide +kernel
theorem dL_law_206 : decode cL_law 206 = .ok (.ldc2_w 18, 3) := by decide +kernel
theorem dL_law_209 : decode cL_law 209 = .ok (.land, 1) := by decide +kernel
theorem dL_law_210 : decode cL_law 210 = .ok (.lor, 1) := by decide +kernel
theorem dL_law_211 : decode cL_law 211 = .ok (.aload_n 0, 1) := by decide +kernel
theorem dL_law_212 : decode cL_law 212 = .ok (.iload_n 3, 1) := by decide +kernel
theorem dL_law_213 : decode cL_law 213 = .ok (.iconst 4, 1) := by decide +kernel
theorem dL_law_214 : decode cL_law 214 = .ok (.iadd, 1) := by decide +kernel
theorem dL_law_215 : decode cL_law 215 = .ok (.iaload, 1) := by decide +kernel
theorem dL_law_216 : decode cL_law 216 = .ok (.invokevirtual 20, 3) := by decide +kernel
theorem dL_law_219 : decode cL_law 219 = .ok (.aload_n 2, 1) := by decide +kernel
theorem dL_law_220 : decode cL_law 220 = .ok (.aload_n 0, 1) := by decide +kernel
theorem dL_law_221 : decode cL_law 221 = .ok (.iload_n 3, 1) := by decide +kernel
theorem dL_law_222 : decode cL_law 222 = .ok (.iconst 1, 1) := by decide +kernel
theorem dL_law_223 : decode cL_law 223 = .ok (.iadd, 1) := by decide +kernel
theorem dL_law_224 : decode cL_law 224 = .ok (.iaload, 1) := by decide +kernel
theorem dL_law_225 : decode cL_law 225 = .ok (.aload_n 0, 1) := by decide +kernel
theorem dL_law_226 : decode cL_law 226 = .ok (.iload_n 3, 1) := by decide +kernel
theorem dL_law_227 : decode cL_law 227 = .ok (.iconst 2, 1) := by decide +kernel
theorem dL_law_228 : decode cL_law 228 = .ok (.iadd, 1) := by decide +kernel
theorem dL_law_229 : decode cL_law 229 = .ok (.iaload, 1) := by decide +kernel
theorem dL_law_230 : decode cL_law 230 = .ok (.i2l, 1) := by decide +kernel
theorem dL_law_231 : decode cL_law 231 = .ok (.bipush 32, 2) := by decide +kernel
theorem dL_law_233 : decode cL_law 233 = .ok (.lshl, 1) := by decide +kernel
theorem dL_law_234 : decode cL_law 234 = .ok (.aload_n 0, 1) := by decide +kernel
theorem dL_law_235 : decode cL_law 235 = .ok (.iload_n 3, 1) := by decide +kernel
theorem dL_law_236 : decode cL_law 236 = .ok (.iconst 3, 1) := by decide +kernel
theorem dL_law_237 : decode cL_law 237 = .ok (.iadd, 1) := by decide +kernel
theorem dL_law_238 : decode cL_law 238 = .ok (.iaload, 1) := by decide +kernel
theorem dL_law_239 : decode cL_law 239 = .ok (.i2l, 1) := by decide +kernel
theorem dL_law_240 : decode cL_law 240 = .ok (.ldc2_w 18, 3) := by decide +kernel
theorem dL_law_243 : decode cL_law 243 = .ok (.land, 1) := by decide +kernel
theorem dL_law_244 : decode cL_law 244 = .ok (.lor, 1) := by decide +kernel
theorem dL_law_245 : decode cL_law 245 = .ok (.aload_n 0, 1) := by decide +kernel
theorem dL_law_246 : decode cL_law 246 = .ok (.iload_n 3, 1) := by decide +kernel
theorem dL_law_247 : decode cL_law 247 = .ok (.iconst 4, 1) := by decide +kernel
theorem dL_law_248 : decode cL_law 248 = .ok (.iadd, 1) := by decide +kernel
theorem dL_law_249 : decode cL_law 249 = .ok (.iaload, 1) := by decide +kernel
theorem dL_law_250 : decode cL_law 250 = .ok (.invokevirtual 24, 3) := by decide +kernel
theorem dL_law_253 : decode cL_law 253 = .ok (.if_icmp .eq 1258, 3) := by decide +kernel
theorem dL_law_256 : decode cL_law 256 = .ok (.iconst 0, 1) := by decide +kernel
theorem dL_law_257 : decode cL_law 257 = .ok (.ireturn, 1) := by decide +kernel
theorem dL_law_258 : decode cL_law 258 = .ok (.aload_n 1, 1) := by decide +kernel
theorem dL_law_259 : decode cL_law 259 = .ok (.aload_n 0, 1) := by decide +kernel
theorem dL_law_260 : decode cL_law 260 = .ok (.iload_n 3, 1) := by decide +kernel
theorem dL_law_261 : decode cL_law 261 = .ok (.iconst 1, 1) := by decide +kernel
theorem dL_law_262 : decode cL_law 262 = .ok (.iadd, 1) := by decide +kernel
theorem dL_law_263 : decode cL_law 263 = .ok (.iaload, 1) := by decide +kernel
theorem dL_law_264 : decode cL_law 264 = .ok (.aload_n 0, 1) := by decide +kernel
theorem dL_law_265 : decode cL_law 265 = .ok (.iload_n 3, 1) := by decide +kernel
theorem dL_law_266 : decode cL_law 266 = .ok (.iconst 2, 1) := by decide +kernel
theorem dL_law_267 : decode cL_law 267 = .ok (.iadd, 1) := by decide +kernel
theorem dL_law_268 : decode cL_law 268 = .ok (.iaload, 1) := by decide +kernel
theorem dL_law_269 : decode cL_law 269 = .ok (.aload_n 0, 1) := by decide +kernel
theorem dL_law_270 : decode cL_law 270 = .ok (.iload_n 3, 1) := by decide +kernel
theorem dL_law_271 : decode cL_law 271 = .ok (.iconst 3, 1) := by decide +kernel
theorem dL_law_272 : decode cL_law 272 = .ok (.iadd, 1) := by decide +kernel
theorem dL_law_273 : decode cL_law 273 = .ok (.iaload, 1) := by decide +kernel
theorem dL_law_274 : decode cL_law 274 = .ok (.aload_n 0, 1) := by decide +kernel
theorem dL_law_275 : decode cL_law 275 = .ok (.iload_n 3, 1) := by decide +kernel
theorem dL_law_276 : decode cL_law 276 = .ok (.iconst 4, 1) := by decide +kernel
theorem dL_law_277 : decode cL_law 277 = .ok (.iadd, 1) := by decide +kernel
theorem dL_law_278 : decode cL_law 278 = .ok (.iaload, 1) := by decide +kernel
theorem dL_law_279 : decode cL_law 279 = .ok (.aload_n 0, 1) := by decide +kernel
theorem dL_law_280 : decode cL_law 280 = .ok (.iload_n 3, 1) := by decide +kernel
theorem dL_law_281 : decode cL_law 281 = .ok (.iconst 5, 1) := by decide +kernel
theorem dL_law_282 : decode cL_law 282 = .ok (.iadd, 1) := by decide +kernel
theorem dL_law_283 : decode cL_law 283 = .ok (.iaload, 1) := by decide +kernel
theorem dL_law_284 : decode cL_law 284 = .ok (.invokevirtual 25, 3) := by decide +kernel
theorem dL_law_287 : decode cL_law 287 = .ok (.aload_n 2, 1) := by decide +kernel
theorem dL_law_288 : decode cL_law 288 = .ok (.aload_n 0, 1) := by decide +kernel
theorem dL_law_289 : decode cL_law 289 = .ok (.iload_n 3, 1) := by decide +kernel
theorem dL_law_290 : decode cL_law 290 = .ok (.iconst 1, 1) := by decide +kernel
theorem dL_law_291 : decode cL_law 291 = .ok (.iadd, 1) := by decide +kernel
theorem dL_law_292 : decode cL_law 292 = .ok (.iaload, 1) := by decide +kernel
theorem dL_law_293 : decode cL_law 293 = .ok (.aload_n 0, 1) := by decide +kernel
theorem dL_law_294 : decode cL_law 294 = .ok (.iload_n 3, 1) := by decide +kernel
theorem dL_law_295 : decode cL_law 295 = .ok (.iconst 2, 1) := by decide +kernel
theorem dL_law_296 : decode cL_law 296 = .ok (.iadd, 1) := by decide +kernel
theorem dL_law_297 : decode cL_law 297 = .ok (.iaload, 1) := by decide +kernel
theorem dL_law_298 : decode cL_law 298 = .ok (.aload_n 0, 1) := by decide +kernel
theorem dL_law_299 : decode cL_law 299 = .ok (.iload_n 3, 1) := by decide +kernel
theorem dL_law_300 : decode cL_law 300 = .ok (.iconst 3, 1) := by decide +kernel
theorem dL_law_301 : decode cL_law 301 = .ok (.iadd, 1) := by decide +kernel
theorem dL_law_302 : decode cL_law 302 = .ok (.iaload, 1) := by decide +kernel
theorem dL_law_303 : decode cL_law 303 = .ok (.aload_n 0, 1) := by decide +kernel
theorem dL_law_304 : decode cL_law 304 = .ok (.iload_n 3, 1) := by decide +kernel
theorem dL_law_305 : decode cL_law 305 = .ok (.iconst 4, 1) := by decide +kernel
theorem dL_law_306 : decode cL_law 306 = .ok (.iadd, 1) := by decide +kernel
theorem dL_law_307 : decode cL_law 307 = .ok (.iaload, 1) := by decide +kernel
theorem dL_law_308 : decode cL_law 308 = .ok (.aload_n 0, 1) := by decide +kernel
theorem dL_law_309 : decode cL_law 309 = .ok (.iload_n 3, 1) := by decide +kernel
theorem dL_law_310 : decode cL_law 310 = .ok (.iconst 5, 1) := by decide +kernel
theorem dL_law_311 : decode cL_law 311 = .ok (.iadd, 1) := by decide +kernel
theorem dL_law_312 : decode cL_law 312 = .ok (.iaload, 1) := by decide +kernel
theorem dL_law_313 : decode cL_law 313 = .ok (.invokevirtual 29, 3) := by decide +kernel
theorem dL_law_316 : decode cL_law 316 = .ok (.if_icmp .eq 1195, 3) := by decide +kernel
theorem dL_law_319 : decode cL_law 319 = .ok (.iconst 0, 1) := by decide +kernel
theorem dL_law_320 : decode cL_law 320 = .ok (.ireturn, 1) := by decide +kernel
theorem dL_law_321 : decode cL_law 321 = .ok (.aload_n 1, 1) := by decide +kernel
theorem dL_law_322 : decode cL_law 322 = .ok (.aload_n 0, 1) := by decide +kernel
theorem dL_law_323 : decode cL_law 323 = .ok (.iload_n 3, 1) := by decide +kernel
theorem dL_law_324 : decode cL_law 324 = .ok (.iconst 1, 1) := by decide +kernel
theorem dL_law_325 : decode cL_law 325 = .ok (.iadd, 1) := by decide +kernel
theorem dL_law_326 : decode cL_law 326 = .ok (.iaload, 1) := by decide +kernel
theorem dL_law_327 : decode cL_law 327 = .ok (.aload_n 0, 1) := by decide +kernel
theorem dL_law_328 : decode cL_law 328 = .ok (.iload_n 3, 1) := by decide +kernel
theorem dL_law_329 : decode cL_law 329 = .ok (.iconst 2, 1) := by decide +kernel
theorem dL_law_330 : decode cL_law 330 = .ok (.iadd, 1) := by decide +kernel
theorem dL_law_331 : decode cL_law 331 = .ok (.iaload, 1) := by decide +kernel
theorem dL_law_332 : decode cL_law 332 = .ok (.aload_n 0, 1) := by decide +kernel
theorem dL_law_333 : decode cL_law 333 = .ok (.iload_n 3, 1) := by decide +kernel
theorem dL_law_334 : decode cL_law 334 = .ok (.iconst 3, 1) := by decide +kernel
theorem dL_law_335 : decode cL_law 335 = .ok (.iadd, 1) := by decide +kernel
theorem dL_law_336 : decode cL_law 336 = .ok (.iaload, 1) := by decide +kernel
theorem dL_law_337 : decode cL_law 337 = .ok (.invokevirtual 30, 3) := by decide +kernel
theorem dL_law_340 : decode cL_law 340 = .ok (.aload_n 2, 1) := by decide +kernel
theorem dL_law_341 : decode cL_law 341 = .ok (.aload_n 0, 1) := by decide +kernel
theorem dL_law_342 : decode cL_law 342 = .ok (.iload_n 3, 1) := by decide +kernel
theorem dL_law_343 : decode cL_law 343 = .ok (.iconst 1, 1) := by decide +kernel
theorem dL_law_344 : decode cL_law 344 = .ok (.iadd, 1) := by decide +kernel
theorem dL_law_345 : decode cL_law 345 = .ok (.iaload, 1) := by decide +kernel
theorem dL_law_346 : decode cL_law 346 = .ok (.aload_n 0, 1) := by decide +kernel
theorem dL_law_347 : decode cL_law 347 = .ok (.iload_n 3, 1) := by decide +kernel
theorem dL_law_348 : decode cL_law 348 = .ok (.iconst 2, 1) := by decide +kernel
theorem dL_law_349 : decode cL_law 349 = .ok (.iadd, 1) := by decide +kernel
theorem dL_law_350 : decode cL_law 350 = .ok (.iaload, 1) := by decide +kernel
theorem dL_law_351 : decode cL_law 351 = .ok (.aload_n 0, 1) := by decide +kernel
theorem dL_law_352 : decode cL_law 352 = .ok (.iload_n 3, 1) := by decide +kernel
theorem dL_law_353 : decode cL_law 353 = .ok (.iconst 3, 1) := by decide +kernel
theorem dL_law_354 : decode cL_law 354 = .ok (.iadd, 1) := by decide +kernel
theorem dL_law_355 : decode cL_law 355 = .ok (.iaload, 1) := by decide +kernel
theorem dL_law_356 : decode cL_law 356 = .ok (.invokevirtual 34, 3) := by decide +kernel
theorem dL_law_359 : decode cL_law 359 = .ok (.if_icmp .eq 1152, 3) := by decide +kernel
theorem dL_law_362 : decode cL_law 362 = .ok (.iconst 0, 1) := by decide +kernel
theorem dL_law_363 : decode cL_law 363 = .ok (.ireturn, 1) := by decide +kernel
theorem dL_law_364 : decode cL_law 364 = .ok (.aload_n 1, 1) := by decide +kernel
theorem dL_law_365 : decode cL_law 365 = .ok (.aload_n 0, 1) := by decide +kernel
theorem dL_law_366 : decode cL_law 366 = .ok (.iload_n 3, 1) := by decide +kernel
theorem dL_law_367 : decode cL_law 367 = .ok (.iconst 1, 1) := by decide +kernel
theorem dL_law_368 : decode cL_law 368 = .ok (.iadd, 1) := by decide +kernel
theorem dL_law_369 : decode cL_law 369 = .ok (.iaload, 1) := by decide +kernel
theorem dL_law_370 : decode cL_law 370 = .ok (.invokevirtual 35, 3) := by decide +kernel
theorem dL_law_373 : decode cL_law 373 = .ok (.aload_n 2, 1) := by decide +kernel
theorem dL_law_374 : decode cL_law 374 = .ok (.aload_n 0, 1) := by decide +kernel
theorem dL_law_375 : decode cL_law 375 = .ok (.iload_n 3, 1) := by decide +kernel
theorem dL_law_376 : decode cL_law 376 = .ok (.iconst 1, 1) := by decide +kernel
theorem dL_law_377 : decode cL_law 377 = .ok (.iadd, 1) := by decide +kernel
theorem dL_law_378 : decode cL_law 378 = .ok (.iaload, 1) := by decide +kernel
theorem dL_law_379 : decode cL_law 379 = .ok (.invokevirtual 39, 3) := by decide +kernel
theorem dL_law_382 : decode cL_law 382 = .ok (.if_icmp .eq 1129, 3) := by decide +kernel
theorem dL_law_385 : decode cL_law 385 = .ok (.iconst 0, 1) := by decide +kernel
theorem dL_law_386 : decode cL_law 386 = .ok (.ireturn, 1) := by decide +kernel
theorem dL_law_387 : decode cL_law 387 = .ok (.aload_n 1, 1) := by decide +kernel
theorem dL_law_388 : decode cL_law 388 = .ok (.aload_n 0, 1) := by decide +kernel
theorem dL_law_389 : decode cL_law 389 = .ok (.iload_n 3, 1) := by decide +kernel
theorem dL_law_390 : decode cL_law 390 = .ok (.iconst 1, 1) := by decide +kernel
theorem dL_law_391 : decode cL_law 391 = .ok (.iadd, 1) := by decide +kernel
theorem dL_law_392 : decode cL_law 392 = .ok (.iaload, 1) := by decide +kernel
theorem dL_law_393 : decode cL_law 393 = .ok (.aload_n 0, 1) := by decide +kernel
theorem dL_law_394 : decode cL_law 394 = .ok (.iload_n 3, 1) := by decide +kernel
theorem dL_law_395 : decode cL_law 395 = .ok (.iconst 2, 1) := by decide +kernel
theorem dL_law_396 : decode cL_law 396 = .ok (.iadd, 1) := by decide +kernel
theorem dL_law_397 : decode cL_law 397 = .ok (.iaload, 1) := by decide +kernel
theorem dL_law_398 : decode cL_law 398 = .ok (.i2l, 1) := by decide +kernel
theorem dL_law_399 : decode cL_law 399 = .ok (.bipush 32, 2) := by decide +kernel
theorem dL_law_401 : decode cL_law 401 = .ok (.lshl, 1) := by decide +kernel
theorem dL_law_402 : decode cL_law 402 = .ok (.aload_n 0, 1) := by decide +kernel
theorem dL_law_403 : decode cL_law 403 = .ok (.iload_n 3, 1) := by decide +kernel
theorem dL_law_404 : decode cL_law 404 = .ok (.iconst 3, 1) := by decide +kernel
theorem dL_law_405 : decode cL_law 405 = .ok (.iadd, 1) := by decide +kernel
theorem dL_law_406 : decode cL_law 406 = .ok (.iaload, 1) := by decide +kernel
theorem dL_law_407 : decode cL_law 407 = .ok (.i2l, 1) := by decide +kernel
theorem dL_law_408 : decode cL_law 408 = .ok (.ldc2_w 18, 3) := by decide +kernel
theorem dL_law_411 : decode cL_law 411 = .ok (.land, 1) := by decide +kernel
theorem dL_law_412 : decode cL_law 412 = .ok (.lor, 1) := by decide +kernel
theorem dL_law_413 : decode cL_law 413 = .ok (.aload_n 0, 1) := by decide +kernel
theorem dL_law_414 : decode cL_law 414 = .ok (.iload_n 3, 1) := by decide +kernel
theorem dL_law_415 : decode cL_law 415 = .ok (.iconst 4, 1) := by decide +kernel
theorem dL_law_416 : decode cL_law 416 = .ok (.iadd, 1) := by decide +kernel
theorem dL_law_417 : decode cL_law 417 = .ok (.iaload, 1) := by decide +kernel
theorem dL_law_418 : decode cL_law 418 = .ok (.i2l, 1) := by decide +kernel
theorem dL_law_419 : decode cL_law 419 = .ok (.bipush 32, 2) := by decide +kernel
theorem dL_law_421 : decode cL_law 421 = .ok (.lshl, 1) := by decide +kernel
theorem dL_law_422 : decode cL_law 422 = .ok (.aload_n 0, 1) := by decide +kernel
theorem dL_law_423 : decode cL_law 423 = .ok (.iload_n 3, 1) := by decide +kernel
theorem dL_law_424 : decode cL_law 424 = .ok (.iconst 5, 1) := by decide +kernel
theorem dL_law_425 : decode cL_law 425 = .ok (.iadd, 1) := by decide +kernel
theorem dL_law_426 : decode cL_law 426 = .ok (.iaload, 1) := by decide +kernel
theorem dL_law_427 : decode cL_law 427 = .ok (.i2l, 1) := by decide +kernel
theorem dL_law_428 : decode cL_law 428 = .ok (.ldc2_w 18, 3) := by decide +kernel
theorem dL_law_431 : decode cL_law 431 = .ok (.land, 1) := by decide +kernel
theorem dL_law_432 : decode cL_law 432 = .ok (.lor, 1) := by decide +kernel
theorem dL_law_433 : decode cL_law 433 = .ok (.aload_n 0, 1) := by decide +kernel
theorem dL_law_434 : decode cL_law 434 = .ok (.iload_n 3, 1) := by decide +kernel
theorem dL_law_435 : decode cL_law 435 = .ok (.bipush 6, 2) := by decide +kernel
theorem dL_law_437 : decode cL_law 437 = .ok (.iadd, 1) := by decide +kernel
theorem dL_law_438 : decode cL_law 438 = .ok (.iaload, 1) := by decide +kernel
theorem dL_law_439 : decode cL_law 439 = .ok (.invokevirtual 40, 3) := by decide +kernel
theorem dL_law_442 : decode cL_law 442 = .ok (.aload_n 2, 1) := by decide +kernel
theorem dL_law_443 : decode cL_law 443 = .ok (.aload_n 0, 1) := by decide +kernel
theorem dL_law_444 : decode cL_law 444 = .ok (.iload_n 3, 1) := by decide +kernel
theorem dL_law_445 : decode cL_law 445 = .ok (.iconst 1, 1) := by decide +kernel
theorem dL_law_446 : decode cL_law 446 = .ok (.iadd, 1) := by decide +kernel
theorem dL_law_447 : decode cL_law 447 = .ok (.iaload, 1) := by decide +kernel
theorem dL_law_448 : decode cL_law 448 = .ok (.aload_n 0, 1) := by decide +kernel
theorem dL_law_449 : decode cL_law 449 = .ok (.iload_n 3, 1) := by decide +kernel
theorem dL_law_450 : decode cL_law 450 = .ok (.iconst 2, 1) := by decide +kernel
theorem dL_law_451 : decode cL_law 451 = .ok (.iadd, 1) := by decide +kernel
theorem dL_law_452 : decode cL_law 452 = .ok (.iaload, 1) := by decide +kernel
theorem dL_law_453 : decode cL_law 453 = .ok (.i2l, 1) := by decide +kernel
theorem dL_law_454 : decode cL_law 454 = .ok (.bipush 32, 2) := by decide +kernel
theorem dL_law_456 : decode cL_law 456 = .ok (.lshl, 1) := by decide +kernel
theorem dL_law_457 : decode cL_law 457 = .ok (.aload_n 0, 1) := by decide +kernel
theorem dL_law_458 : decode cL_law 458 = .ok (.iload_n 3, 1) := by decide +kernel
theorem dL_law_459 : decode cL_law 459 = .ok (.iconst 3, 1) := by decide +kernel
theorem dL_law_460 : decode cL_law 460 = .ok (.iadd, 1) := by decide +kernel
theorem dL_law_461 : decode cL_law 461 = .ok (.iaload, 1) := by decide +kernel
theorem dL_law_462 : decode cL_law 462 = .ok (.i2l, 1) := by decide +kernel
theorem dL_law_463 : decode cL_law 463 = .ok (.ldc2_w 18, 3) := by decide +kernel
theorem dL_law_466 : decode cL_law 466 = .ok (.land, 1) := by decide +kernel
theorem dL_law_467 : decode cL_law 467 = .ok (.lor, 1) := by decide +kernel
theorem dL_law_468 : decode cL_law 468 = .ok (.aload_n 0, 1) := by decide +kernel
theorem dL_law_469 : decode cL_law 469 = .ok (.iload_n 3, 1) := by decide +kernel
theorem dL_law_470 : decode cL_law 470 = .ok (.iconst 4, 1) := by decide +kernel
theorem dL_law_471 : decode cL_law 471 = .ok (.iadd, 1) := by decide +kernel
theorem dL_law_472 : decode cL_law 472 = .ok (.iaload, 1) := by decide +kernel
theorem dL_law_473 : decode cL_law 473 = .ok (.i2l, 1) := by decide +kernel
theorem dL_law_474 : decode cL_law 474 = .ok (.bipush 32, 2) := by decide +kernel
theorem dL_law_476 : decode cL_law 476 = .ok (.lshl, 1) := by decide +kernel
theorem dL_law_477 : decode cL_law 477 = .ok (.aload_n 0, 1) := by decide +kernel
theorem dL_law_478 : decode cL_law 478 = .ok (.iload_n 3, 1) := by decide +kernel
theorem dL_law_479 : decode cL_law 479 = .ok (.iconst 5, 1) := by decide +kernel
theorem dL_law_480 : decode cL_law 480 = .ok (.iadd, 1) := by decide +kernel
theorem dL_law_481 : decode cL_law 481 = .ok (.iaload, 1) := by decide +kernel
theorem dL_law_482 : decode cL_law 482 = .ok (.i2l, 1) := by decide +kernel
theorem dL_law_483 : decode cL_law 483 = .ok (.ldc2_w 18, 3) := by decide +kernel
theorem dL_law_486 : decode cL_law 486 = .ok (.land, 1) := by decide +kernel
theorem dL_law_487 : decode cL_law 487 = .ok (.lor, 1) := by decide +kernel
theorem dL_law_488 : decode cL_law 488 = .ok (.aload_n 0, 1) := by decide +kernel
theorem dL_law_489 : decode cL_law 489 = .ok (.iload_n 3, 1) := by decide +kernel
theorem dL_law_490 : decode cL_law 490 = .ok (.bipush 6, 2) := by decide +kernel
theorem dL_law_492 : decode cL_law 492 = .ok (.iadd, 1) := by decide +kernel
theorem dL_law_493 : decode cL_law 493 = .ok (.iaload, 1) := by decide +kernel
theorem dL_law_494 : decode cL_law 494 = .ok (.invokevirtual 44, 3) := by decide +kernel
theorem dL_law_497 : decode cL_law 497 = .ok (.if_icmp .eq 1014, 3) := by decide +kernel
theorem dL_law_500 : decode cL_law 500 = .ok (.iconst 0, 1) := by decide +kernel
theorem dL_law_501 : decode cL_law 501 = .ok (.ireturn, 1) := by decide +kernel
theorem dL_law_502 : decode cL_law 502 = .ok (.aload_n 1, 1) := by decide +kernel
theorem dL_law_503 : decode cL_law 503 = .ok (.aload_n 0, 1) := by decide +kernel
theorem dL_law_504 : decode cL_law 504 = .ok (.iload_n 3, 1) := by decide +kernel
theorem dL_law_505 : decode cL_law 505 = .ok (.iconst 1, 1) := by decide +kernel
theorem dL_law_506 : decode cL_law 506 = .ok (.iadd, 1) := by decide +kernel
theorem dL_law_507 : decode cL_law 507 = .ok (.iaload, 1) := by decide +kernel
theorem dL_law_508 : decode cL_law 508 = .ok (.invokevirtual 45, 3) := by decide +kernel
theorem dL_law_511 : decode cL_law 511 = .ok (.aload_n 2, 1) := by decide +kernel
theorem dL_law_512 : decode cL_law 512 = .ok (.aload_n 0, 1) := by decide +kernel
theorem dL_law_513 : decode cL_law 513 = .ok (.iload_n 3, 1) := by decide +kernel
theorem dL_law_514 : decode cL_law 514 = .ok (.iconst 1, 1) := by decide +kernel
theorem dL_law_515 : decode cL_law 515 = .ok (.iadd, 1) := by decide +kernel
theorem dL_law_516 : decode cL_law 516 = .ok (.iaload, 1) := by decide +kernel
theorem dL_law_517 : decode cL_law 517 = .ok (.invokevirtual 48, 3) := by decide +kernel
theorem dL_law_520 : decode cL_law 520 = .ok (.if_icmp .eq 991, 3) := by decide +kernel
theorem dL_law_523 : decode cL_law 523 = .ok (.iconst 0, 1) := by decide +kernel
theorem dL_law_524 : decode cL_law 524 = .ok (.ireturn, 1) := by decide +kernel
theorem dL_law_525 : decode cL_law 525 = .ok (.aload_n 1, 1) := by decide +kernel
theorem dL_law_526 : decode cL_law 526 = .ok (.aload_n 0, 1) := by decide +kernel
theorem dL_law_527 : decode cL_law 527 = .ok (.iload_n 3, 1) := by decide +kernel
theorem dL_law_528 : decode cL_law 528 = .ok (.iconst 1, 1) := by decide +kernel
theorem dL_law_529 : decode cL_law 529 = .ok (.iadd, 1) := by decide +kernel
theorem dL_law_530 : decode cL_law 530 = .ok (.iaload, 1) := by decide +kernel
theorem dL_law_531 : decode cL_law 531 = .ok (.aload_n 0, 1) := by decide +kernel
theorem dL_law_532 : decode cL_law 532 = .ok (.iload_n 3, 1) := by decide +kernel
theorem dL_law_533 : decode cL_law 533 = .ok (.iconst 2, 1) := by decide +kernel
theorem dL_law_534 : decode cL_law 534 = .ok (.iadd, 1) := by decide +kernel
theorem dL_law_535 : decode cL_law 535 = .ok (.iaload, 1) := by decide +kernel
theorem dL_law_536 : decode cL_law 536 = .ok (.i2l, 1) := by decide +kernel
theorem dL_law_537 : decode cL_law 537 = .ok (.bipush 32, 2) := by decide +kernel
theorem dL_law_539 : decode cL_law 539 = .ok (.lshl, 1) := by decide +kernel
theorem dL_law_540 : decode cL_law 540 = .ok (.aload_n 0, 1) := by decide +kernel
theorem dL_law_541 : decode cL_law 541 = .ok (.iload_n 3, 1) := by decide +kernel
theorem dL_law_542 : decode cL_law 542 = .ok (.iconst 3, 1) := by decide +kernel
theorem dL_law_543 : decode cL_law 543 = .ok (.iadd, 1) := by decide +kernel
theorem dL_law_544 : decode cL_law 544 = .ok (.iaload, 1) := by decide +kernel
theorem dL_law_545 : decode cL_law 545 = .ok (.i2l, 1) := by decide +kernel
theorem dL_law_546 : decode cL_law 546 = .ok (.ldc2_w 18, 3) := by decide +kernel
theorem dL_law_549 : decode cL_law 549 = .ok (.land, 1) := by decide +kernel
theorem dL_law_550 : decode cL_law 550 = .ok (.lor, 1) := by decide +kernel
theorem dL_law_551 : decode cL_law 551 = .ok (.aload_n 0, 1) := by decide +kernel
theorem dL_law_552 : decode cL_law 552 = .ok (.iload_n 3, 1) := by decide +kernel
theorem dL_law_553 : decode cL_law 553 = .ok (.iconst 4, 1) := by decide +kernel
theorem dL_law_554 : decode cL_law 554 = .ok (.iadd, 1) := by decide +kernel
theorem dL_law_555 : decode cL_law 555 = .ok (.iaload, 1) := by decide +kernel
theorem dL_law_556 : decode cL_law 556 = .ok (.invokevirtual 49, 3) := by decide +kernel
theorem dL_law_559 : decode cL_law 559 = .ok (.aload_n 2, 1) := by decide +kernel
theorem dL_law_560 : decode cL_law 560 = .ok (.aload_n 0, 1) := by decide +kernel
theorem dL_law_561 : decode cL_law 561 = .ok (.iload_n 3, 1) := by decide +kernel
theorem dL_law_562 : decode cL_law 562 = .ok (.iconst 1, 1) := by decide +kernel
theorem dL_law_563 : decode cL_law 563 = .ok (.iadd, 1) := by decide +kernel
theorem dL_law_564 : decode cL_law 564 = .ok (.iaload, 1) := by decide +kernel
theorem dL_law_565 : decode cL_law 565 = .ok (.aload_n 0, 1) := by decide +kernel
theorem dL_law_566 : decode cL_law 566 = .ok (.iload_n 3, 1) := by decide +kernel
theorem dL_law_567 : decode cL_law 567 = .ok (.iconst 2, 1) := by decide +kernel
theorem dL_law_568 : decode cL_law 568 = .ok (.iadd, 1) := by decide +kernel
theorem dL_law_569 : decode cL_law 569 = .ok (.iaload, 1) := by decide +kernel
theorem dL_law_570 : decode cL_law 570 = .ok (.i2l, 1) := by decide +kernel
theorem dL_law_571 : decode cL_law 571 = .ok (.bipush 32, 2) := by decide +kernel
theorem dL_law_573 : decode cL_law 573 = .ok (.lshl, 1) := by decide +kernel
theorem dL_law_574 : decode cL_law 574 = .ok (.aload_n 0, 1) := by decide +kernel
theorem dL_law_575 : decode cL_law 575 = .ok (.iload_n 3, 1) := by decide +kernel
theorem dL_law_576 : decode cL_law 576 = .ok (.iconst 3, 1) := by decide +kernel
theorem dL_law_577 : decode cL_law 577 = .ok (.iadd, 1) := by decide +kernel
theorem dL_law_578 : decode cL_law 578 = .ok (.iaload, 1) := by decide +kernel
theorem dL_law_579 : decode cL_law 579 = .ok (.i2l, 1) := by decide +kernel
theorem dL_law_580 : decode cL_law 580 = .ok (.ldc2_w 18, 3) := by decide +kernel
theorem dL_law_583 : decode cL_law 583 = .ok (.land, 1) := by decide +kernel
theorem dL_law_584 : decode cL_law 584 = .ok (.lor, 1) := by decide +kernel
theorem dL_law_585 : decode cL_law 585 = .ok (.aload_n 0, 1) := by decide +kernel
theorem dL_law_586 : decode cL_law 586 = .ok (.iload_n 3, 1) := by decide +kernel
theorem dL_law_587 : decode cL_law 587 = .ok (.iconst 4, 1) := by decide +kernel
theorem dL_law_588 : decode cL_law 588 = .ok (.iadd, 1) := by decide +kernel
theorem dL_law_589 : decode cL_law 589 = .ok (.iaload, 1) := by decide +kernel
theorem dL_law_590 : decode cL_law 590 = .ok (.invokevirtual 52, 3) := by decide +kernel
theorem dL_law_593 : decode cL_law 593 = .ok (.if_icmp .eq 918, 3) := by decide +kernel
theorem dL_law_596 : decode cL_law 596 = .ok (.iconst 0, 1) := by decide +kernel
theorem dL_law_597 : decode cL_law 597 = .ok (.ireturn, 1) := by decide +kernel
theorem dL_law_598 : decode cL_law 598 = .ok (.aload_n 1, 1) := by decide +kernel
theorem dL_law_599 : decode cL_law 599 = .ok (.aload_n 0, 1) := by decide +kernel
theorem dL_law_600 : decode cL_law 600 = .ok (.iload_n 3, 1) := by decide +kernel
theorem dL_law_601 : decode cL_law 601 = .ok (.iconst 1, 1) := by decide +kernel
theorem dL_law_602 : decode cL_law 602 = .ok (.iadd, 1) := by decide +kernel
theorem dL_law_603 : decode cL_law 603 = .ok (.iaload, 1) := by decide +kernel
theorem dL_law_604 : decode cL_law 604 = .ok (.aload_n 0, 1) := by decide +kernel
theorem dL_law_605 : decode cL_law 605 = .ok (.iload_n 3, 1) := by decide +kernel
theorem dL_law_606 : decode cL_law 606 = .ok (.iconst 2, 1) := by decide +kernel
theorem dL_law_607 : decode cL_law 607 = .ok (.iadd, 1) := by decide +kernel
theorem dL_law_608 : decode cL_law 608 = .ok (.iaload, 1) := by decide +kernel
theorem dL_law_609 : decode cL_law 609 = .ok (.aload_n 0, 1) := by decide +kernel
theorem dL_law_610 : decode cL_law 610 = .ok (.iload_n 3, 1) := by decide +kernel
theorem dL_law_611 : decode cL_law 611 = .ok (.iconst 3, 1) := by decide +kernel
theorem dL_law_612 : decode cL_law 612 = .ok (.iadd, 1) := by decide +kernel
theorem dL_law_613 : decode cL_law 613 = .ok (.iaload, 1) := by decide +kernel
theorem dL_law_614 : decode cL_law 614 = .ok (.i2l, 1) := by decide +kernel
theorem dL_law_615 : decode cL_law 615 = .ok (.bipush 32, 2) := by decide +kernel
theorem dL_law_617 : decode cL_law 617 = .ok (.lshl, 1) := by decide +kernel
theorem dL_law_618 : decode cL_law 618 = .ok (.aload_n 0, 1) := by decide +kernel
theorem dL_law_619 : decode cL_law 619 = .ok (.iload_n 3, 1) := by decide +kernel
theorem dL_law_620 : decode cL_law 620 = .ok (.iconst 4, 1) := by decide +kernel
theorem dL_law_621 : decode cL_law 621 = .ok (.iadd, 1) := by decide +kernel
theorem dL_law_622 : decode cL_law 622 = .ok (.iaload, 1) := by decide +kernel
theorem dL_law_623 : decode cL_law 623 = .ok (.i2l, 1) := by decide +kernel
theorem dL_law_624 : decode cL_law 624 = .ok (.ldc2_w 18, 3) := by decide +kernel
theorem dL_law_627 : decode cL_law 627 = .ok (.land, 1) := by decide +kernel
theorem dL_law_628 : decode cL_law 628 = .ok (.lor, 1) := by decide +kernel
theorem dL_law_629 : decode cL_law 629 = .ok (.aload_n 0, 1) := by decide +kernel
theorem dL_law_630 : decode cL_law 630 = .ok (.iload_n 3, 1) := by decide +kernel
theorem dL_law_631 : decode cL_law 631 = .ok (.iconst 5, 1) := by decide +kernel
theorem dL_law_632 : decode cL_law 632 = .ok (.iadd, 1) := by decide +kernel
theorem dL_law_633 : decode cL_law 633 = .ok (.iaload, 1) := by decide +kernel
theorem dL_law_634 : decode cL_law 634 = .ok (.invokevirtual 53, 3) := by decide +kernel
theorem dL_law_637 : decode cL_law 637 = .ok (.aload_n 2, 1) := by decide +kernel
theorem dL_law_638 : decode cL_law 638 = .ok (.aload_n 0, 1) := by decide +kernel
theorem dL_law_639 : decode cL_law 639 = .ok (.iload_n 3, 1) := by decide +kernel
theorem dL_law_640 : decode cL_law 640 = .ok (.iconst 1, 1) := by decide +kernel
theorem dL_law_641 : decode cL_law 641 = .ok (.iadd, 1) := by decide +kernel
theorem dL_law_642 : decode cL_law 642 = .ok (.iaload, 1) := by decide +kernel
theorem dL_law_643 : decode cL_law 643 = .ok (.aload_n 0, 1) := by decide +kernel
theorem dL_law_644 : decode cL_law 644 = .ok (.iload_n 3, 1) := by decide +kernel
theorem dL_law_645 : decode cL_law 645 = .ok (.iconst 2, 1) := by decide +kernel
theorem dL_law_646 : decode cL_law 646 = .ok (.iadd, 1) := by decide +kernel
theorem dL_law_647 : decode cL_law 647 = .ok (.iaload, 1) := by decide +kernel
theorem dL_law_648 : decode cL_law 648 = .ok (.aload_n 0, 1) := by decide +kernel
theorem dL_law_649 : decode cL_law 649 = .ok (.iload_n 3, 1) := by decide +kernel
theorem dL_law_650 : decode cL_law 650 = .ok (.iconst 3, 1) := by decide +kernel
theorem dL_law_651 : decode cL_law 651 = .ok (.iadd, 1) := by decide +kernel
theorem dL_law_652 : decode cL_law 652 = .ok (.iaload, 1) := by decide +kernel
theorem dL_law_653 : decode cL_law 653 = .ok (.i2l, 1) := by decide +kernel
theorem dL_law_654 : decode cL_law 654 = .ok (.bipush 32, 2) := by decide +kernel
theorem dL_law_656 : decode cL_law 656 = .ok (.lshl, 1) := by decide +kernel
theorem dL_law_657 : decode cL_law 657 = .ok (.aload_n 0, 1) := by decide +kernel
theorem dL_law_658 : decode cL_law 658 = .ok (.iload_n 3, 1) := by decide +kernel
theorem dL_law_659 : decode cL_law 659 = .ok (.iconst 4, 1) := by decide +kernel
theorem dL_law_660 : decode cL_law 660 = .ok (.iadd, 1) := by decide +kernel
theorem dL_law_661 : decode cL_law 661 = .ok (.iaload, 1) := by decide +kernel
theorem dL_law_662 : decode cL_law 662 = .ok (.i2l, 1) := by decide +kernel
theorem dL_law_663 : decode cL_law 663 = .ok (.ldc2_w 18, 3) := by decide +kernel
theorem dL_law_666 : decode cL_law 666 = .ok (.land, 1) := by decide +kernel
theorem dL_law_667 : decode cL_law 667 = .ok (.lor, 1) := by decide +kernel
theorem dL_law_668 : decode cL_law 668 = .ok (.aload_n 0, 1) := by decide +kernel
theorem dL_law_669 : decode cL_law 669 = .ok (.iload_n 3, 1) := by decide +kernel
theorem dL_law_670 : decode cL_law 670 = .ok (.iconst 5, 1) := by decide +kernel
theorem dL_law_671 : decode cL_law 671 = .ok (.iadd, 1) := by decide +kernel
theorem dL_law_672 : decode cL_law 672 = .ok (.iaload, 1) := by decide +kernel
theorem dL_law_673 : decode cL_law 673 = .ok (.invokevirtual 57, 3) := by decide +kernel
theorem dL_law_676 : decode cL_law 676 = .ok (.if_icmp .eq 835, 3) := by decide +kernel
theorem dL_law_679 : decode cL_law 679 = .ok (.iconst 0, 1) := by decide +kernel
theorem dL_law_680 : decode cL_law 680 = .ok (.ireturn, 1) := by decide +kernel
theorem dL_law_681 : decode cL_law 681 = .ok (.aload_n 1, 1) := by decide +kernel
theorem dL_law_682 : decode cL_law 682 = .ok (.aload_n 0, 1) := by decide +kernel
theorem dL_law_683 : decode cL_law 683 = .ok (.iload_n 3, 1) := by decide +kernel
theorem dL_law_684 : decode cL_law 684 = .ok (.iconst 1, 1) := by decide +kernel
theorem dL_law_685 : decode cL_law 685 = .ok (.iadd, 1) := by decide +kernel
theorem dL_law_686 : decode cL_law 686 = .ok (.iaload, 1) := by decide +kernel
theorem dL_law_687 : decode cL_law 687 = .ok (.aload_n 0, 1) := by decide +kernel
theorem dL_law_688 : decode cL_law 688 = .ok (.iload_n 3, 1) := by decide +kernel
theorem dL_law_689 : decode cL_law 689 = .ok (.iconst 2, 1) := by decide +kernel
theorem dL_law_690 : decode cL_law 690 = .ok (.iadd, 1) := by decide +kernel
theorem dL_law_691 : decode cL_law 691 = .ok (.iaload, 1) := by decide +kernel
theorem dL_law_692 : decode cL_law 692 = .ok (.invokevirtual 58, 3) := by decide +kernel
theorem dL_law_695 : decode cL_law 695 = .ok (.aload_n 2, 1) := by decide +kernel
theorem dL_law_696 : decode cL_law 696 = .ok (.aload_n 0, 1) := by decide +kernel
theorem dL_law_697 : decode cL_law 697 = .ok (.iload_n 3, 1) := by decide +kernel
theorem dL_law_698 : decode cL_law 698 = .ok (.iconst 1, 1) := by decide +kernel
theorem dL_law_699 : decode cL_law 699 = .ok (.iadd, 1) := by decide +kernel
theorem dL_law_700 : decode cL_law 700 = .ok (.iaload, 1) := by decide +kernel
theorem dL_law_701 : decode cL_law 701 = .ok (.aload_n 0, 1) := by decide +kernel
theorem dL_law_702 : decode cL_law 702 = .ok (.iload_n 3, 1) := by decide +kernel
theorem dL_law_703 : decode cL_law 703 = .ok (.iconst 2, 1) := by decide +kernel
theorem dL_law_704 : decode cL_law 704 = .ok (.iadd, 1) := by decide +kernel
theorem dL_law_705 : decode cL_law 705 = .ok (.iaload, 1) := by decide +kernel
theorem dL_law_706 : decode cL_law 706 = .ok (.invokevirtual 61, 3) := by decide +kernel
theorem dL_law_709 : decode cL_law 709 = .ok (.if_icmp .eq 802, 3) := by decide +kernel
theorem dL_law_712 : decode cL_law 712 = .ok (.iconst 0, 1) := by decide +kernel
theorem dL_law_713 : decode cL_law 713 = .ok (.ireturn, 1) := by decide +kernel
theorem dL_law_714 : decode cL_law 714 = .ok (.aload_n 1, 1) := by decide +kernel
theorem dL_law_715 : decode cL_law 715 = .ok (.aload_n 0, 1) := by decide +kernel
theorem dL_law_716 : decode cL_law 716 = .ok (.iload_n 3, 1) := by decide +kernel
theorem dL_law_717 : decode cL_law 717 = .ok (.iconst 1, 1) := by decide +kernel
theorem dL_law_718 : decode cL_law 718 = .ok (.iadd, 1) := by decide +kernel
theorem dL_law_719 : decode cL_law 719 = .ok (.iaload, 1) := by decide +kernel
theorem dL_law_720 : decode cL_law 720 = .ok (.aload_n 0, 1) := by decide +kernel
theorem dL_law_721 : decode cL_law 721 = .ok (.iload_n 3, 1) := by decide +kernel
theorem dL_law_722 : decode cL_law 722 = .ok (.iconst 2, 1) := by decide +kernel
theorem dL_law_723 : decode cL_law 723 = .ok (.iadd, 1) := by decide +kernel
theorem dL_law_724 : decode cL_law 724 = .ok (.iaload, 1) := by decide +kernel
theorem dL_law_725 : decode cL_law 725 = .ok (.i2l, 1) := by decide +kernel
theorem dL_law_726 : decode cL_law 726 = .ok (.bipush 32, 2) := by decide +kernel
theorem dL_law_728 : decode cL_law 728 = .ok (.lshl, 1) := by decide +kernel
theorem dL_law_729 : decode cL_law 729 = .ok (.aload_n 0, 1) := by decide +kernel
theorem dL_law_730 : decode cL_law 730 = .ok (.iload_n 3, 1) := by decide +kernel
theorem dL_law_731 : decode cL_law 731 = .ok (.iconst 3, 1) := by decide +kernel
theorem dL_law_732 : decode cL_law 732 = .ok (.iadd, 1) := by decide +kernel
theorem dL_law_733 : decode cL_law 733 = .ok (.iaload, 1) := by decide +kernel
theorem dL_law_734 : decode cL_law 734 = .ok (.i2l, 1) := by decide +kernel
theorem dL_law_735 : decode cL_law 735 = .ok (.ldc2_w 18, 3) := by decide +kernel
theorem dL_law_738 : decode cL_law 738 = .ok (.land, 1) := by decide +kernel
theorem dL_law_739 : decode cL_law 739 = .ok (.lor, 1) := by decide +kernel
theorem dL_law_740 : decode cL_law 740 = .ok (.aload_n 0, 1) := by decide +kernel
theorem dL_law_741 : decode cL_law 741 = .ok (.iload_n 3, 1) := by decide +kernel
theorem dL_law_742 : decode cL_law 742 = .ok (.iconst 4, 1) := by decide +kernel
theorem dL_law_743 : decode cL_law 743 = .ok (.iadd, 1) := by decide +kernel
theorem dL_law_744 : decode cL_law 744 = .ok (.iaload, 1) := by decide +kernel
theorem dL_law_745 : decode cL_law 745 = .ok (.invokevirtual 62, 3) := by decide +kernel
theorem dL_law_748 : decode cL_law 748 = .ok (.aload_n 2, 1) := by decide +kernel
theorem dL_law_749 : decode cL_law 749 = .ok (.aload_n 0, 1) := by decide +kernel
theorem dL_law_750 : decode cL_law 750 = .ok (.iload_n 3, 1) := by decide +kernel
theorem dL_law_751 : decode cL_law 751 = .ok (.iconst 1, 1) := by decide +kernel
theorem dL_law_752 : decode cL_law 752 = .ok (.iadd, 1) := by decide +kernel
theorem dL_law_753 : decode cL_law 753 = .ok (.iaload, 1) := by decide +kernel
theorem dL_law_754 : decode cL_law 754 = .ok (.aload_n 0, 1) := by decide +kernel
theorem dL_law_755 : decode cL_law 755 = .ok (.iload_n 3, 1) := by decide +kernel
theorem dL_law_756 : decode cL_law 756 = .ok (.iconst 2, 1) := by decide +kernel
theorem dL_law_757 : decode cL_law 757 = .ok (.iadd, 1) := by decide +kernel
theorem dL_law_758 : decode cL_law 758 = .ok (.iaload, 1) := by decide +kernel
theorem dL_law_759 : decode cL_law 759 = .ok (.i2l, 1) := by decide +kernel
theorem dL_law_760 : decode cL_law 760 = .ok (.bipush 32, 2) := by decide +kernel
theorem dL_law_762 : decode cL_law 762 = .ok (.lshl, 1) := by decide +kernel
theorem dL_law_763 : decode cL_law 763 = .ok (.aload_n 0, 1) := by decide +kernel
theorem dL_law_764 : decode cL_law 764 = .ok (.iload_n 3, 1) := by decide +kernel
theorem dL_law_765 : decode cL_law 765 = .ok (.iconst 3, 1) := by decide +kernel
theorem dL_law_766 : decode cL_law 766 = .ok (.iadd, 1) := by decide +kernel
theorem dL_law_767 : decode cL_law 767 = .ok (.iaload, 1) := by decide +kernel
theorem dL_law_768 : decode cL_law 768 = .ok (.i2l, 1) := by decide +kernel
theorem dL_law_769 : decode cL_law 769 = .ok (.ldc2_w 18, 3) := by decide +kernel
theorem dL_law_772 : decode cL_law 772 = .ok (.land, 1) := by decide +kernel
theorem dL_law_773 : decode cL_law 773 = .ok (.lor, 1) := by decide +kernel
theorem dL_law_774 : decode cL_law 774 = .ok (.aload_n 0, 1) := by decide +kernel
theorem dL_law_775 : decode cL_law 775 = .ok (.iload_n 3, 1) := by decide +kernel
theorem dL_law_776 : decode cL_law 776 = .ok (.iconst 4, 1) := by decide +kernel
theorem dL_law_777 : decode cL_law 777 = .ok (.iadd, 1) := by decide +kernel
theorem dL_law_778 : decode cL_law 778 = .ok (.iaload, 1) := by decide +kernel
theorem dL_law_779 : decode cL_law 779 = .ok (.invokevirtual 65, 3) := by decide +kernel
theorem dL_law_782 : decode cL_law 782 = .ok (.if_icmp .eq 729, 3) := by decide +kernel
theorem dL_law_785 : decode cL_law 785 = .ok (.iconst 0, 1) := by decide +kernel
theorem dL_law_786 : decode cL_law 786 = .ok (.ireturn, 1) := by decide +kernel
theorem dL_law_787 : decode cL_law 787 = .ok (.aload_n 1, 1) := by decide +kernel
theorem dL_law_788 : decode cL_law 788 = .ok (.aload_n 0, 1) := by decide +kernel
theorem dL_law_789 : decode cL_law 789 = .ok (.iload_n 3, 1) := by decide +kernel
theorem dL_law_790 : decode cL_law 790 = .ok (.iconst 1, 1) := by decide +kernel
theorem dL_law_791 : decode cL_law 791 = .ok (.iadd, 1) := by decide +kernel
theorem dL_law_792 : decode cL_law 792 = .ok (.iaload, 1) := by decide +kernel
theorem dL_law_793 : decode cL_law 793 = .ok (.aload_n 0, 1) := by decide +kernel
theorem dL_law_794 : decode cL_law 794 = .ok (.iload_n 3, 1) := by decide +kernel
theorem dL_law_795 : decode cL_law 795 = .ok (.iconst 2, 1) := by decide +kernel
theorem dL_law_796 : decode cL_law 796 = .ok (.iadd, 1) := by decide +kernel
theorem dL_law_797 : decode cL_law 797 = .ok (.iaload, 1) := by decide +kernel
theorem dL_law_798 : decode cL_law 798 = .ok (.i2l, 1) := by decide +kernel
theorem dL_law_799 : decode cL_law 799 = .ok (.bipush 32, 2) := by decide +kernel
theorem dL_law_801 : decode cL_law 801 = .ok (.lshl, 1) := by decide +kernel
theorem dL_law_802 : decode cL_law 802 = .ok (.aload_n 0, 1) := by decide +kernel
theorem dL_law_803 : decode cL_law 803 = .ok (.iload_n 3, 1) := by decide +kernel
theorem dL_law_804 : decode cL_law 804 = .ok (.iconst 3, 1) := by decide +kernel
theorem dL_law_805 : decode cL_law 805 = .ok (.iadd, 1) := by decide +kernel
theorem dL_law_806 : decode cL_law 806 = .ok (.iaload, 1) := by decide +kernel
theorem dL_law_807 : decode cL_law 807 = .ok (.i2l, 1) := by decide +kernel
theorem dL_law_808 : decode cL_law 808 = .ok (.ldc2_w 18, 3) := by decide +kernel
theorem dL_law_811 : decode cL_law 811 = .ok (.land, 1) := by decide +kernel
theorem dL_law_812 : decode cL_law 812 = .ok (.lor, 1) := by decide +kernel
theorem dL_law_813 : decode cL_law 813 = .ok (.aload_n 0, 1) := by decide +kernel
theorem dL_law_814 : decode cL_law 814 = .ok (.iload_n 3, 1) := by decide +kernel
theorem dL_law_815 : decode cL_law 815 = .ok (.iconst 4, 1) := by decide +kernel
theorem dL_law_816 : decode cL_law 816 = .ok (.iadd, 1) := by decide +kernel
theorem dL_law_817 : decode cL_law 817 = .ok (.iaload, 1) := by decide +kernel
theorem dL_law_818 : decode cL_law 818 = .ok (.i2l, 1) := by decide +kernel
theorem dL_law_819 : decode cL_law 819 = .ok (.bipush 32, 2) := by decide +kernel
theorem dL_law_821 : decode cL_law 821 = .ok (.lshl, 1) := by decide +kernel
theorem dL_law_822 : decode cL_law 822 = .ok (.aload_n 0, 1) := by decide +kernel
theorem dL_law_823 : decode cL_law 823 = .ok (.iload_n 3, 1) := by decide +kernel
theorem dL_law_824 : decode cL_law 824 = .ok (.iconst 5, 1) := by decide +kernel
theorem dL_law_825 : decode cL_law 825 = .ok (.iadd, 1) := by decide +kernel
theorem dL_law_826 : decode cL_law 826 = .ok (.iaload, 1) := by decide +kernel
theorem dL_law_827 : decode cL_law 827 = .ok (.i2l, 1) := by decide +kernel
theorem dL_law_828 : decode cL_law 828 = .ok (.ldc2_w 18, 3) := by decide +kernel
theorem dL_law_831 : decode cL_law 831 = .ok (.land, 1) := by decide +kernel
theorem dL_law_832 : decode cL_law 832 = .ok (.lor, 1) := by decide +kernel
theorem dL_law_833 : decode cL_law 833 = .ok (.aload_n 0, 1) := by decide +kernel
theorem dL_law_834 : decode cL_law 834 = .ok (.iload_n 3, 1) := by decide +kernel
theorem dL_law_835 : decode cL_law 835 = .ok (.bipush 6, 2) := by decide +kernel
theorem dL_law_837 : decode cL_law 837 = .ok (.iadd, 1) := by decide +kernel
theorem dL_law_838 : decode cL_law 838 = .ok (.iaload, 1) := by decide +kernel
theorem dL_law_839 : decode cL_law 839 = .ok (.invokevirtual 66, 3) := by decide +kernel
theorem dL_law_842 : decode cL_law 842 = .ok (.aload_n 2, 1) := by decide +kernel
theorem dL_law_843 : decode cL_law 843 = .ok (.aload_n 0, 1) := by decide +kernel
theorem dL_law_844 : decode cL_law 844 = .ok (.iload_n 3, 1) := by decide +kernel
theorem dL_law_845 : decode cL_law 845 = .ok (.iconst 1, 1) := by decide +kernel
theorem dL_law_846 : decode cL_law 846 = .ok (.iadd, 1) := by decide +kernel
theorem dL_law_847 : decode cL_law 847 = .ok (.iaload, 1) := by decide +kernel
theorem dL_law_848 : decode cL_law 848 = .ok (.aload_n 0, 1) := by decide +kernel
theorem dL_law_849 : decode cL_law 849 = .ok (.iload_n 3, 1) := by decide +kernel
theorem dL_law_850 : decode cL_law 850 = .ok (.iconst 2, 1) := by decide +kernel
theorem dL_law_851 : decode cL_law 851 = .ok (.iadd, 1) := by decide +kernel
theorem dL_law_852 : decode cL_law 852 = .ok (.iaload, 1) := by decide +kernel
theorem dL_law_853 : decode cL_law 853 = .ok (.i2l, 1) := by decide +kernel
theorem dL_law_854 : decode cL_law 854 = .ok (.bipush 32, 2) := by decide +kernel
theorem dL_law_856 : decode cL_law 856 = .ok (.lshl, 1) := by decide +kernel
theorem dL_law_857 : decode cL_law 857 = .ok (.aload_n 0, 1) := by decide +kernel
theorem dL_law_858 : decode cL_law 858 = .ok (.iload_n 3, 1) := by decide +kernel
theorem dL_law_859 : decode cL_law 859 = .ok (.iconst 3, 1) := by decide +kernel
theorem dL_law_860 : decode cL_law 860 = .ok (.iadd, 1) := by decide +kernel
theorem dL_law_861 : decode cL_law 861 = .ok (.iaload, 1) := by decide +kernel
theorem dL_law_862 : decode cL_law 862 = .ok (.i2l, 1) := by decide +kernel
theorem dL_law_863 : decode cL_law 863 = .ok (.ldc2_w 18, 3) := by decide +kernel
theorem dL_law_866 : decode cL_law 866 = .ok (.land, 1) := by decide +kernel
theorem dL_law_867 : decode cL_law 867 = .ok (.lor, 1) := by decide +kernel
theorem dL_law_868 : decode cL_law 868 = .ok (.aload_n 0, 1) := by decide +kernel
theorem dL_law_869 : decode cL_law 869 = .ok (.iload_n 3, 1) := by decide +kernel
theorem dL_law_870 : decode cL_law 870 = .ok (.iconst 4, 1) := by decide +kernel
theorem dL_law_871 : decode cL_law 871 = .ok (.iadd, 1) := by decide +kernel
theorem dL_law_872 : decode cL_law 872 = .ok (.iaload, 1) := by decide +kernel
theorem dL_law_873 : decode cL_law 873 = .ok (.i2l, 1) := by decide +kernel
theorem dL_law_874 : decode cL_law 874 = .ok (.bipush 32, 2) := by decide +kernel
theorem dL_law_876 : decode cL_law 876 = .ok (.lshl, 1) := by decide +kernel
theorem dL_law_877 : decode cL_law 877 = .ok (.aload_n 0, 1) := by decide +kernel
theorem dL_law_878 : decode cL_law 878 = .ok (.iload_n 3, 1) := by decide +kernel
theorem dL_law_879 : decode cL_law 879 = .ok (.iconst 5, 1) := by decide +kernel
theorem dL_law_880 : decode cL_law 880 = .ok (.iadd, 1) := by decide +kernel
theorem dL_law_881 : decode cL_law 881 = .ok (.iaload, 1) := by decide +kernel
theorem dL_law_882 : decode cL_law 882 = .ok (.i2l, 1) := by decide +kernel
theorem dL_law_883 : decode cL_law 883 = .ok (.ldc2_w 18, 3) := by decide +kernel
theorem dL_law_886 : decode cL_law 886 = .ok (.land, 1) := by decide +kernel
theorem dL_law_887 : decode cL_law 887 = .ok (.lor, 1) := by decide +kernel
theorem dL_law_888 : decode cL_law 888 = .ok (.aload_n 0, 1) := by decide +kernel
theorem dL_law_889 : decode cL_law 889 = .ok (.iload_n 3, 1) := by decide +kernel
theorem dL_law_890 : decode cL_law 890 = .ok (.bipush 6, 2) := by decide +kernel
theorem dL_law_892 : decode cL_law 892 = .ok (.iadd, 1) := by decide +kernel
theorem dL_law_893 : decode cL_law 893 = .ok (.iaload, 1) := by decide +kernel
theorem dL_law_894 : decode cL_law 894 = .ok (.invokevirtual 69, 3) := by decide +kernel
theorem dL_law_897 : decode cL_law 897 = .ok (.if_icmp .eq 614, 3) := by decide +kernel
theorem dL_law_900 : decode cL_law 900 = .ok (.iconst 0, 1) := by decide +kernel
theorem dL_law_901 : decode cL_law 901 = .ok (.ireturn, 1) := by decide +kernel
theorem dL_law_902 : decode cL_law 902 = .ok (.aload_n 1, 1) := by decide +kernel
theorem dL_law_903 : decode cL_law 903 = .ok (.aload_n 0, 1) := by decide +kernel
theorem dL_law_904 : decode cL_law 904 = .ok (.iload_n 3, 1) := by decide +kernel
theorem dL_law_905 : decode cL_law 905 = .ok (.iconst 1, 1) := by decide +kernel
theorem dL_law_906 : decode cL_law 906 = .ok (.iadd, 1) := by decide +kernel
theorem dL_law_907 : decode cL_law 907 = .ok (.iaload, 1) := by decide +kernel
theorem dL_law_908 : decode cL_law 908 = .ok (.aload_n 0, 1) := by decide +kernel
theorem dL_law_909 : decode cL_law 909 = .ok (.iload_n 3, 1) := by decide +kernel
theorem dL_law_910 : decode cL_law 910 = .ok (.iconst 2, 1) := by decide +kernel
theorem dL_law_911 : decode cL_law 911 = .ok (.iadd, 1) := by decide +kernel
theorem dL_law_912 : decode cL_law 912 = .ok (.iaload, 1) := by decide +kernel
theorem dL_law_913 : decode cL_law 913 = .ok (.aload_n 0, 1) := by decide +kernel
theorem dL_law_914 : decode cL_law 914 = .ok (.iload_n 3, 1) := by decide +kernel
theorem dL_law_915 : decode cL_law 915 = .ok (.iconst 3, 1) := by decide +kernel
theorem dL_law_916 : decode cL_law 916 = .ok (.iadd, 1) := by decide +kernel
theorem dL_law_917 : decode cL_law 917 = .ok (.iaload, 1) := by decide +kernel
theorem dL_law_918 : decode cL_law 918 = .ok (.aload_n 0, 1) := by decide +kernel
theorem dL_law_919 : decode cL_law 919 = .ok (.iload_n 3, 1) := by decide +kernel
theorem dL_law_920 : decode cL_law 920 = .ok (.iconst 4, 1) := by decide +kernel
theorem dL_law_921 : decode cL_law 921 = .ok (.iadd, 1) := by decide +kernel
theorem dL_law_922 : decode cL_law 922 = .ok (.iaload, 1) := by decide +kernel
theorem dL_law_923 : decode cL_law 923 = .ok (.aload_n 0, 1) := by decide +kernel
theorem dL_law_924 : decode cL_law 924 = .ok (.iload_n 3, 1) := by decide +kernel
theorem dL_law_925 : decode cL_law 925 = .ok (.iconst 5, 1) := by decide +kernel
theorem dL_law_926 : decode cL_law 926 = .ok (.iadd, 1) := by decide +kernel
theorem dL_law_927 : decode cL_law 927 = .ok (.iaload, 1) := by decide +kernel
theorem dL_law_928 : decode cL_law 928 = .ok (.invokevirtual 70, 3) := by decide +kernel
theorem dL_law_931 : decode cL_law 931 = .ok (.aload_n 2, 1) := by decide +kernel
theorem dL_law_932 : decode cL_law 932 = .ok (.aload_n 0, 1) := by decide +kernel
theorem dL_law_933 : decode cL_law 933 = .ok (.iload_n 3, 1) := by decide +kernel
theorem dL_law_934 : decode cL_law 934 = .ok (.iconst 1, 1) := by decide +kernel
theorem dL_law_935 : decode cL_law 935 = .ok (.iadd, 1) := by decide +kernel
theorem dL_law_936 : decode cL_law 936 = .ok (.iaload, 1) := by decide +kernel
theorem dL_law_937 : decode cL_law 937 = .ok (.aload_n 0, 1) := by decide +kernel
theorem dL_law_938 : decode cL_law 938 = .ok (.iload_n 3, 1) := by decide +kernel
theorem dL_law_939 : decode cL_law 939 = .ok (.iconst 2, 1) := by decide +kernel
theorem dL_law_940 : decode cL_law 940 = .ok (.iadd, 1) := by decide +kernel
theorem dL_law_941 : decode cL_law 941 = .ok (.iaload, 1) := by decide +kernel
theorem dL_law_942 : decode cL_law 942 = .ok (.aload_n 0, 1) := by decide +kernel
theorem dL_law_943 : decode cL_law 943 = .ok (.iload_n 3, 1) := by decide +kernel
theorem dL_law_944 : decode cL_law 944 = .ok (.iconst 3, 1) := by decide +kernel
theorem dL_law_945 : decode cL_law 945 = .ok (.iadd, 1) := by decide +kernel
theorem dL_law_946 : decode cL_law 946 = .ok (.iaload, 1) := by decide +kernel
theorem dL_law_947 : decode cL_law 947 = .ok (.aload_n 0, 1) := by decide +kernel
theorem dL_law_948 : decode cL_law 948 = .ok (.iload_n 3, 1) := by decide +kernel
theorem dL_law_949 : decode cL_law 949 = .ok (.iconst 4, 1) := by decide +kernel
theorem dL_law_950 : decode cL_law 950 = .ok (.iadd, 1) := by decide +kernel
theorem dL_law_951 : decode cL_law 951 = .ok (.iaload, 1) := by decide +kernel
theorem dL_law_952 : decode cL_law 952 = .ok (.aload_n 0, 1) := by decide +kernel
theorem dL_law_953 : decode cL_law 953 = .ok (.iload_n 3, 1) := by decide +kernel
theorem dL_law_954 : decode cL_law 954 = .ok (.iconst 5, 1) := by decide +kernel
theorem dL_law_955 : decode cL_law 955 = .ok (.iadd, 1) := by decide +kernel
theorem dL_law_956 : decode cL_law 956 = .ok (.iaload, 1) := by decide +kernel
theorem dL_law_957 : decode cL_law 957 = .ok (.invokevirtual 73, 3) := by decide +kernel
theorem dL_law_960 : decode cL_law 960 = .ok (.if_icmp .eq 551, 3) := by decide +kernel
theorem dL_law_963 : decode cL_law 963 = .ok (.iconst 0, 1) := by decide +kernel
theorem dL_law_964 : decode cL_law 964 = .ok (.ireturn, 1) := by decide +kernel
theorem dL_law_965 : decode cL_law 965 = .ok (.aload_n 1, 1) := by decide +kernel
theorem dL_law_966 : decode cL_law 966 = .ok (.aload_n 0, 1) := by decide +kernel
theorem dL_law_967 : decode cL_law 967 = .ok (.iload_n 3, 1) := by decide +kernel
theorem dL_law_968 : decode cL_law 968 = .ok (.iconst 1, 1) := by decide +kernel
theorem dL_law_969 : decode cL_law 969 = .ok (.iadd, 1) := by decide +kernel
theorem dL_law_970 : decode cL_law 970 = .ok (.iaload, 1) := by decide +kernel
theorem dL_law_971 : decode cL_law 971 = .ok (.invokevirtual 74, 3) := by decide +kernel
theorem dL_law_974 : decode cL_law 974 = .ok (.aload_n 2, 1) := by decide +kernel
theorem dL_law_975 : decode cL_law 975 = .ok (.aload_n 0, 1) := by decide +kernel
theorem dL_law_976 : decode cL_law 976 = .ok (.iload_n 3, 1) := by decide +kernel
theorem dL_law_977 : decode cL_law 977 = .ok (.iconst 1, 1) := by decide +kernel
theorem dL_law_978 : decode cL_law 978 = .ok (.iadd, 1) := by decide +kernel
theorem dL_law_979 : decode cL_law 979 = .ok (.iaload, 1) := by decide +kernel
theorem dL_law_980 : decode cL_law 980 = .ok (.invokevirtual 77, 3) := by decide +kernel
theorem dL_law_983 : decode cL_law 983 = .ok (.if_icmp .eq 528, 3) := by decide +kernel
theorem dL_law_986 : decode cL_law 986 = .ok (.iconst 0, 1) := by decide +kernel
theorem dL_law_987 : decode cL_law 987 = .ok (.ireturn, 1) := by decide +kernel
theorem dL_law_988 : decode cL_law 988 = .ok (.aload_n 1, 1) := by decide +kernel
theorem dL_law_989 : decode cL_law 989 = .ok (.aload_n 0, 1) := by decide +kernel
theorem dL_law_990 : decode cL_law 990 = .ok (.iload_n 3, 1) := by decide +kernel
theorem dL_law_991 : decode cL_law 991 = .ok (.iconst 1, 1) := by decide +kernel
theorem dL_law_992 : decode cL_law 992 = .ok (.iadd, 1) := by decide +kernel
theorem dL_law_993 : decode cL_law 993 = .ok (.iaload, 1) := by decide +kernel
theorem dL_law_994 : decode cL_law 994 = .ok (.aload_n 0, 1) := by decide +kernel
theorem dL_law_995 : decode cL_law 995 = .ok (.iload_n 3, 1) := by decide +kernel
theorem dL_law_996 : decode cL_law 996 = .ok (.iconst 2, 1) := by decide +kernel
theorem dL_law_997 : decode cL_law 997 = .ok (.iadd, 1) := by decide +kernel
theorem dL_law_998 : decode cL_law 998 = .ok (.iaload, 1) := by decide +kernel
theorem dL_law_999 : decode cL_law 999 = .ok (.i2l, 1) := by decide +kernel
theorem dL_law_1000 : decode cL_law 1000 = .ok (.bipush 32, 2) := by decide +kernel
theorem dL_law_1002 : decode cL_law 1002 = .ok (.lshl, 1) := by decide +kernel
theorem dL_law_1003 : decode cL_law 1003 = .ok (.aload_n 0, 1) := by decide +kernel
theorem dL_law_1004 : decode cL_law 1004 = .ok (.iload_n 3, 1) := by decide +kernel
theorem dL_law_1005 : decode cL_law 1005 = .ok (.iconst 3, 1) := by decide +kernel
theorem dL_law_1006 : decode cL_law 1006 = .ok (.iadd, 1) := by decide +kernel
theorem dL_law_1007 : decode cL_law 1007 = .ok (.iaload, 1) := by decide +kernel
theorem dL_law_1008 : decode cL_law 1008 = .ok (.i2l, 1) := by decide +kernel
theorem dL_law_1009 : decode cL_law 1009 = .ok (.ldc2_w 18, 3) := by decide +kernel
theorem dL_law_1012 : decode cL_law 1012 = .ok (.land, 1) := by decide +kernel
theorem dL_law_1013 : decode cL_law 1013 = .ok (.lor, 1) := by decide +kernel
theorem dL_law_1014 : decode cL_law 1014 = .ok (.aload_n 0, 1) := by decide +kernel
theorem dL_law_1015 : decode cL_law 1015 = .ok (.iload_n 3, 1) := by decide +kernel
theorem dL_law_1016 : decode cL_law 1016 = .ok (.iconst 4, 1) := by decide +kernel
theorem dL_law_1017 : decode cL_law 1017 = .ok (.iadd, 1) := by decide +kernel
theorem dL_law_1018 : decode cL_law 1018 = .ok (.iaload, 1) := by decide +kernel
theorem dL_law_1019 : decode cL_law 1019 = .ok (.aload_n 0, 1) := by decide +kernel
theorem dL_law_1020 : decode cL_law 1020 = .ok (.iload_n 3, 1) := by decide +kernel
theorem dL_law_1021 : decode cL_law 1021 = .ok (.iconst 5, 1) := by decide +kernel
theorem dL_law_1022 : decode cL_law 1022 = .ok (.iadd, 1) := by decide +kernel
theorem dL_law_1023 : decode cL_law 1023 = .ok (.iaload, 1) := by decide +kernel
theorem dL_law_1024 : decode cL_law 1024 = .ok (.invokevirtual 78, 3) := by decide +kernel
theorem dL_law_1027 : decode cL_law 1027 = .ok (.aload_n 2, 1) := by decide +kernel
theorem dL_law_1028 : decode cL_law 1028 = .ok (.aload_n 0, 1) := by decide +kernel
theorem dL_law_1029 : decode cL_law 1029 = .ok (.iload_n 3, 1) := by decide +kernel
theorem dL_law_1030 : decode cL_law 1030 = .ok (.iconst 1, 1) := by decide +kernel
theorem dL_law_1031 : decode cL_law 1031 = .ok (.iadd, 1) := by decide +kernel
theorem dL_law_1032 : decode cL_law 1032 = .ok (.iaload, 1) := by decide +kernel
theorem dL_law_1033 : decode cL_law 1033 = .ok (.aload_n 0, 1) := by decide +kernel
theorem dL_law_1034 : decode cL_law 1034 = .ok (.iload_n 3, 1) := by decide +kernel
theorem dL_law_1035 : decode cL_law 1035 = .ok (.iconst 2, 1) := by decide +kernel
theorem dL_law_1036 : decode cL_law 1036 = .ok (.iadd, 1) := by decide +kernel
theorem dL_law_1037 : decode cL_law 1037 = .ok (.iaload, 1) := by decide +kernel
theorem dL_law_1038 : decode cL_law 1038 = .ok (.i2l, 1) := by decide +kernel
theorem dL_law_1039 : decode cL_law 1039 = .ok (.bipush 32, 2) := by decide +kernel
theorem dL_law_1041 : decode cL_law 1041 = .ok (.lshl, 1) := by decide +kernel
theorem dL_law_1042 : decode cL_law 1042 = .ok (.aload_n 0, 1) := by decide +kernel
theorem dL_law_1043 : decode cL_law 1043 = .ok (.iload_n 3, 1) := by decide +kernel
theorem dL_law_1044 : decode cL_law 1044 = .ok (.iconst 3, 1) := by decide +kernel
theorem dL_law_1045 : decode cL_law 1045 = .ok (.iadd, 1) := by decide +kernel
theorem dL_law_1046 : decode cL_law 1046 = .ok (.iaload, 1) := by decide +kernel
theorem dL_law_1047 : decode cL_law 1047 = .ok (.i2l, 1) := by decide +kernel
theorem dL_law_1048 : decode cL_law 1048 = .ok (.ldc2_w 18, 3) := by decide +kernel
theorem dL_law_1051 : decode cL_law 1051 = .ok (.land, 1) := by decide +kernel
theorem dL_law_1052 : decode cL_law 1052 = .ok (.lor, 1) := by decide +kernel
theorem dL_law_1053 : decode cL_law 1053 = .ok (.aload_n 0, 1) := by decide +kernel
theorem dL_law_1054 : decode cL_law 1054 = .ok (.iload_n 3, 1) := by decide +kernel
theorem dL_law_1055 : decode cL_law 1055 = .ok (.iconst 4, 1) := by decide +kernel
theorem dL_law_1056 : decode cL_law 1056 = .ok (.iadd, 1) := by decide +kernel
theorem dL_law_1057 : decode cL_law 1057 = .ok (.iaload, 1) := by decide +kernel
theorem dL_law_1058 : decode cL_law 1058 = .ok (.aload_n 0, 1) := by decide +kernel
theorem dL_law_1059 : decode cL_law 1059 = .ok (.iload_n 3, 1) := by decide +kernel
theorem dL_law_1060 : decode cL_law 1060 = .ok (.iconst 5, 1) := by decide +kernel
theorem dL_law_1061 : decode cL_law 1061 = .ok (.iadd, 1) := by decide +kernel
theorem dL_law_1062 : decode cL_law 1062 = .ok (.iaload, 1) := by decide +kernel
theorem dL_law_1063 : decode cL_law 1063 = .ok (.invokevirtual 82, 3) := by decide +kernel
theorem dL_law_1066 : decode cL_law 1066 = .ok (.if_icmp .eq 445, 3) := by decide +kernel
theorem dL_law_1069 : decode cL_law 1069 = .ok (.iconst 0, 1) := by decide +kernel
theorem dL_law_1070 : decode cL_law 1070 = .ok (.ireturn, 1) := by decide +kernel
theorem dL_law_1071 : decode cL_law 1071 = .ok (.aload_n 1, 1) := by decide +kernel
theorem dL_law_1072 : decode cL_law 1072 = .ok (.aload_n 0, 1) := by decide +kernel
theorem dL_law_1073 : decode cL_law 1073 = .ok (.iload_n 3, 1) := by decide +kernel
theorem dL_law_1074 : decode cL_law 1074 = .ok (.iconst 1, 1) := by decide +kernel
theorem dL_law_1075 : decode cL_law 1075 = .ok (.iadd, 1) := by decide +kernel
theorem dL_law_1076 : decode cL_law 1076 = .ok (.iaload, 1) := by decide +kernel
theorem dL_law_1077 : decode cL_law 1077 = .ok (.aload_n 0, 1) := by decide +kernel
theorem dL_law_1078 : decode cL_law 1078 = .ok (.iload_n 3, 1) := by decide +kernel
theorem dL_law_1079 : decode cL_law 1079 = .ok (.iconst 2, 1) := by decide +kernel
theorem dL_law_1080 : decode cL_law 1080 = .ok (.iadd, 1) := by decide +kernel
theorem dL_law_1081 : decode cL_law 1081 = .ok (.iaload, 1) := by decide +kernel
theorem dL_law_1082 : decode cL_law 1082 = .ok (.invokevirtual 83, 3) := by decide +kernel
theorem dL_law_1085 : decode cL_law 1085 = .ok (.aload_n 2, 1) := by decide +kernel
theorem dL_law_1086 : decode cL_law 1086 = .ok (.aload_n 0, 1) := by decide +kernel
theorem dL_law_1087 : decode cL_law 1087 = .ok (.iload_n 3, 1) := by decide +kernel
theorem dL_law_1088 : decode cL_law 1088 = .ok (.iconst 1, 1) := by decide +kernel
theorem dL_law_1089 : decode cL_law 1089 = .ok (.iadd, 1) := by decide +kernel
theorem dL_law_1090 : decode cL_law 1090 = .ok (.iaload, 1) := by decide +kernel
theorem dL_law_1091 : decode cL_law 1091 = .ok (.aload_n 0, 1) := by decide +kernel
theorem dL_law_1092 : decode cL_law 1092 = .ok (.iload_n 3, 1) := by decide +kernel
theorem dL_law_1093 : decode cL_law 1093 = .ok (.iconst 2, 1) := by decide +kernel
theorem dL_law_1094 : decode cL_law 1094 = .ok (.iadd, 1) := by decide +kernel
theorem dL_law_1095 : decode cL_law 1095 = .ok (.iaload, 1) := by decide +kernel
theorem dL_law_1096 : decode cL_law 1096 = .ok (.invokevirtual 87, 3) := by decide +kernel
theorem dL_law_1099 : decode cL_law 1099 = .ok (.lcmp, 1) := by decide +kernel
theorem dL_law_1100 : decode cL_law 1100 = .ok (.ifCond .eq 411, 3) := by decide +kernel
theorem dL_law_1103 : decode cL_law 1103 = .ok (.iconst 0, 1) := by decide +kernel
theorem dL_law_1104 : decode cL_law 1104 = .ok (.ireturn, 1) := by decide +kernel
theorem dL_law_1105 : decode cL_law 1105 = .ok (.aload_n 1, 1) := by decide +kernel
theorem dL_law_1106 : decode cL_law 1106 = .ok (.aload_n 0, 1) := by decide +kernel
theorem dL_law_1107 : decode cL_law 1107 = .ok (.iload_n 3, 1) := by decide +kernel
theorem dL_law_1108 : decode cL_law 1108 = .ok (.iconst 1, 1) := by decide +kernel
theorem dL_law_1109 : decode cL_law 1109 = .ok (.iadd, 1) := by decide +kernel
theorem dL_law_1110 : decode cL_law 1110 = .ok (.iaload, 1) := by decide +kernel
theorem dL_law_1111 : decode cL_law 1111 = .ok (.aload_n 0, 1) := by decide +kernel
theorem dL_law_1112 : decode cL_law 1112 = .ok (.iload_n 3, 1) := by decide +kernel
theorem dL_law_1113 : decode cL_law 1113 = .ok (.iconst 2, 1) := by decide +kernel
theorem dL_law_1114 : decode cL_law 1114 = .ok (.iadd, 1) := by decide +kernel
theorem dL_law_1115 : decode cL_law 1115 = .ok (.iaload, 1) := by decide +kernel
theorem dL_law_1116 : decode cL_law 1116 = .ok (.invokevirtual 88, 3) := by decide +kernel
theorem dL_law_1119 : decode cL_law 1119 = .ok (.aload_n 2, 1) := by decide +kernel
theorem dL_law_1120 : decode cL_law 1120 = .ok (.aload_n 0, 1) := by decide +kernel
theorem dL_law_1121 : decode cL_law 1121 = .ok (.iload_n 3, 1) := by decide +kernel
theorem dL_law_1122 : decode cL_law 1122 = .ok (.iconst 1, 1) := by decide +kernel
theorem dL_law_1123 : decode cL_law 1123 = .ok (.iadd, 1) := by decide +kernel
theorem dL_law_1124 : decode cL_law 1124 = .ok (.iaload, 1) := by decide +kernel
theorem dL_law_1125 : decode cL_law 1125 = .ok (.aload_n 0, 1) := by decide +kernel
theorem dL_law_1126 : decode cL_law 1126 = .ok (.iload_n 3, 1) := by decide +kernel
theorem dL_law_1127 : decode cL_law 1127 = .ok (.iconst 2, 1) := by decide +kernel
theorem dL_law_1128 : decode cL_law 1128 = .ok (.iadd, 1) := by decide +kernel
theorem dL_law_1129 : decode cL_law 1129 = .ok (.iaload, 1) := by decide +kernel
theorem dL_law_1130 : decode cL_law 1130 = .ok (.invokevirtual 91, 3) := by decide +kernel
theorem dL_law_1133 : decode cL_law 1133 = .ok (.lcmp, 1) := by decide +kernel
theorem dL_law_1134 : decode cL_law 1134 = .ok (.ifCond .eq 377, 3) := by decide +kernel
theorem dL_law_1137 : decode cL_law 1137 = .ok (.iconst 0, 1) := by decide +kernel
theorem dL_law_1138 : decode cL_law 1138 = .ok (.ireturn, 1) := by decide +kernel
theorem dL_law_1139 : decode cL_law 1139 = .ok (.aload_n 1, 1) := by decide +kernel
theorem dL_law_1140 : decode cL_law 1140 = .ok (.aload_n 0, 1) := by decide +kernel
theorem dL_law_1141 : decode cL_law 1141 = .ok (.iload_n 3, 1) := by decide +kernel
theorem dL_law_1142 : decode cL_law 1142 = .ok (.iconst 1, 1) := by decide +kernel
theorem dL_law_1143 : decode cL_law 1143 = .ok (.iadd, 1) := by decide +kernel
theorem dL_law_1144 : decode cL_law 1144 = .ok (.iaload, 1) := by decide +kernel
theorem dL_law_1145 : decode cL_law 1145 = .ok (.aload_n 0, 1) := by decide +kernel
theorem dL_law_1146 : decode cL_law 1146 = .ok (.iload_n 3, 1) := by decide +kernel
theorem dL_law_1147 : decode cL_law 1147 = .ok (.iconst 2, 1) := by decide +kernel
theorem dL_law_1148 : decode cL_law 1148 = .ok (.iadd, 1) := by decide +kernel
theorem dL_law_1149 : decode cL_law 1149 = .ok (.iaload, 1) := by decide +kernel
theorem dL_law_1150 : decode cL_law 1150 = .ok (.invokevirtual 92, 3) := by decide +kernel
theorem dL_law_1153 : decode cL_law 1153 = .ok (.aload_n 2, 1) := by decide +kernel
theorem dL_law_1154 : decode cL_law 1154 = .ok (.aload_n 0, 1) := by decide +kernel
theorem dL_law_1155 : decode cL_law 1155 = .ok (.iload_n 3, 1) := by decide +kernel
theorem dL_law_1156 : decode cL_law 1156 = .ok (.iconst 1, 1) := by decide +kernel
theorem dL_law_1157 : decode cL_law 1157 = .ok (.iadd, 1) := by decide +kernel
theorem dL_law_1158 : decode cL_law 1158 = .ok (.iaload, 1) := by decide +kernel
theorem dL_law_1159 : decode cL_law 1159 = .ok (.aload_n 0, 1) := by decide +kernel
theorem dL_law_1160 : decode cL_law 1160 = .ok (.iload_n 3, 1) := by decide +kernel
theorem dL_law_1161 : decode cL_law 1161 = .ok (.iconst 2, 1) := by decide +kernel
theorem dL_law_1162 : decode cL_law 1162 = .ok (.iadd, 1) := by decide +kernel
theorem dL_law_1163 : decode cL_law 1163 = .ok (.iaload, 1) := by decide +kernel
theorem dL_law_1164 : decode cL_law 1164 = .ok (.invokevirtual 95, 3) := by decide +kernel
theorem dL_law_1167 : decode cL_law 1167 = .ok (.if_icmp .eq 344, 3) := by decide +kernel
theorem dL_law_1170 : decode cL_law 1170 = .ok (.iconst 0, 1) := by decide +kernel
theorem dL_law_1171 : decode cL_law 1171 = .ok (.ireturn, 1) := by decide +kernel
theorem dL_law_1172 : decode cL_law 1172 = .ok (.aload_n 1, 1) := by decide +kernel
theorem dL_law_1173 : decode cL_law 1173 = .ok (.aload_n 0, 1) := by decide +kernel
theorem dL_law_1174 : decode cL_law 1174 = .ok (.iload_n 3, 1) := by decide +kernel
theorem dL_law_1175 : decode cL_law 1175 = .ok (.iconst 1, 1) := by decide +kernel
theorem dL_law_1176 : decode cL_law 1176 = .ok (.iadd, 1) := by decide +kernel
theorem dL_law_1177 : decode cL_law 1177 = .ok (.iaload, 1) := by decide +kernel
theorem dL_law_1178 : decode cL_law 1178 = .ok (.aload_n 0, 1) := by decide +kernel
theorem dL_law_1179 : decode cL_law 1179 = .ok (.iload_n 3, 1) := by decide +kernel
theorem dL_law_1180 : decode cL_law 1180 = .ok (.iconst 2, 1) := by decide +kernel
theorem dL_law_1181 : decode cL_law 1181 = .ok (.iadd, 1) := by decide +kernel
theorem dL_law_1182 : decode cL_law 1182 = .ok (.iaload, 1) := by decide +kernel
theorem dL_law_1183 : decode cL_law 1183 = .ok (.aload_n 0, 1) := by decide +kernel
theorem dL_law_1184 : decode cL_law 1184 = .ok (.iload_n 3, 1) := by decide +kernel
theorem dL_law_1185 : decode cL_law 1185 = .ok (.iconst 3, 1) := by decide +kernel
theorem dL_law_1186 : decode cL_law 1186 = .ok (.iadd, 1) := by decide +kernel
theorem dL_law_1187 : decode cL_law 1187 = .ok (.iaload, 1) := by decide +kernel
theorem dL_law_1188 : decode cL_law 1188 = .ok (.invokevirtual 96, 3) := by decide +kernel
theorem dL_law_1191 : decode cL_law 1191 = .ok (.aload_n 2, 1) := by decide +kernel
theorem dL_law_1192 : decode cL_law 1192 = .ok (.aload_n 0, 1) := by decide +kernel
theorem dL_law_1193 : decode cL_law 1193 = .ok (.iload_n 3, 1) := by decide +kernel
theorem dL_law_1194 : decode cL_law 1194 = .ok (.iconst 1, 1) := by decide +kernel
theorem dL_law_1195 : decode cL_law 1195 = .ok (.iadd, 1) := by decide +kernel
theorem dL_law_1196 : decode cL_law 1196 = .ok (.iaload, 1) := by decide +kernel
theorem dL_law_1197 : decode cL_law 1197 = .ok (.aload_n 0, 1) := by decide +kernel
theorem dL_law_1198 : decode cL_law 1198 = .ok (.iload_n 3, 1) := by decide +kernel
theorem dL_law_1199 : decode cL_law 1199 = .ok (.iconst 2, 1) := by decide +kernel
theorem dL_law_1200 : decode cL_law 1200 = .ok (.iadd, 1) := by decide +kernel
theorem dL_law_1201 : decode cL_law 1201 = .ok (.iaload, 1) := by decide +kernel
theorem dL_law_1202 : decode cL_law 1202 = .ok (.aload_n 0, 1) := by decide +kernel
theorem dL_law_1203 : decode cL_law 1203 = .ok (.iload_n 3, 1) := by decide +kernel
theorem dL_law_1204 : decode cL_law 1204 = .ok (.iconst 3, 1) := by decide +kernel
theorem dL_law_1205 : decode cL_law 1205 = .ok (.iadd, 1) := by decide +kernel
theorem dL_law_1206 : decode cL_law 1206 = .ok (.iaload, 1) := by decide +kernel
theorem dL_law_1207 : decode cL_law 1207 = .ok (.invokevirtual 100, 3) := by decide +kernel
theorem dL_law_1210 : decode cL_law 1210 = .ok (.lcmp, 1) := by decide +kernel
theorem dL_law_1211 : decode cL_law 1211 = .ok (.ifCond .eq 300, 3) := by decide +kernel
theorem dL_law_1214 : decode cL_law 1214 = .ok (.iconst 0, 1) := by decide +kernel
theorem dL_law_1215 : decode cL_law 1215 = .ok (.ireturn, 1) := by decide +kernel
theorem dL_law_1216 : decode cL_law 1216 = .ok (.aload_n 1, 1) := by decide +kernel
theorem dL_law_1217 : decode cL_law 1217 = .ok (.aload_n 0, 1) := by decide +kernel
theorem dL_law_1218 : decode cL_law 1218 = .ok (.iload_n 3, 1) := by decide +kernel
theorem dL_law_1219 : decode cL_law 1219 = .ok (.iconst 1, 1) := by decide +kernel
theorem dL_law_1220 : decode cL_law 1220 = .ok (.iadd, 1) := by decide +kernel
theorem dL_law_1221 : decode cL_law 1221 = .ok (.iaload, 1) := by decide +kernel
theorem dL_law_1222 : decode cL_law 1222 = .ok (.aload_n 0, 1) := by decide +kernel
theorem dL_law_1223 : decode cL_law 1223 = .ok (.iload_n 3, 1) := by decide +kernel
theorem dL_law_1224 : decode cL_law 1224 = .ok (.iconst 2, 1) := by decide +kernel
theorem dL_law_1225 : decode cL_law 1225 = .ok (.iadd, 1) := by decide +kernel
theorem dL_law_1226 : decode cL_law 1226 = .ok (.iaload, 1) := by decide +kernel
theorem dL_law_1227 : decode cL_law 1227 = .ok (.invokevirtual 101, 3) := by decide +kernel
theorem dL_law_1230 : decode cL_law 1230 = .ok (.aload_n 2, 1) := by decide +kernel
theorem dL_law_1231 : decode cL_law 1231 = .ok (.aload_n 0, 1) := by decide +kernel
theorem dL_law_1232 : decode cL_law 1232 = .ok (.iload_n 3, 1) := by decide +kernel
theorem dL_law_1233 : decode cL_law 1233 = .ok (.iconst 1, 1) := by decide +kernel
theorem dL_law_1234 : decode cL_law 1234 = .ok (.iadd, 1) := by decide +kernel
theorem dL_law_1235 : decode cL_law 1235 = .ok (.iaload, 1) := by decide +kernel
theorem dL_law_1236 : decode cL_law 1236 = .ok (.aload_n 0, 1) := by decide +kernel
theorem dL_law_1237 : decode cL_law 1237 = .ok (.iload_n 3, 1) := by decide +kernel
theorem dL_law_1238 : decode cL_law 1238 = .ok (.iconst 2, 1) := by decide +kernel
theorem dL_law_1239 : decode cL_law 1239 = .ok (.iadd, 1) := by decide +kernel
theorem dL_law_1240 : decode cL_law 1240 = .ok (.iaload, 1) := by decide +kernel
theorem dL_law_1241 : decode cL_law 1241 = .ok (.invokevirtual 104, 3) := by decide +kernel
theorem dL_law_1244 : decode cL_law 1244 = .ok (.lcmp, 1) := by decide +kernel
theorem dL_law_1245 : decode cL_law 1245 = .ok (.ifCond .eq 266, 3) := by decide +kernel
theorem dL_law_1248 : decode cL_law 1248 = .ok (.iconst 0, 1) := by decide +kernel
theorem dL_law_1249 : decode cL_law 1249 = .ok (.ireturn, 1) := by decide +kernel
theorem dL_law_1250 : decode cL_law 1250 = .ok (.aload_n 1, 1) := by decide +kernel
theorem dL_law_1251 : decode cL_law 1251 = .ok (.aload_n 0, 1) := by decide +kernel
theorem dL_law_1252 : decode cL_law 1252 = .ok (.iload_n 3, 1) := by decide +kernel
theorem dL_law_1253 : decode cL_law 1253 = .ok (.iconst 1, 1) := by decide +kernel
theorem dL_law_1254 : decode cL_law 1254 = .ok (.iadd, 1) := by decide +kernel
theorem dL_law_1255 : decode cL_law 1255 = .ok (.iaload, 1) := by decide +kernel
theorem dL_law_1256 : decode cL_law 1256 = .ok (.aload_n 0, 1) := by decide +kernel
theorem dL_law_1257 : decode cL_law 1257 = .ok (.iload_n 3, 1) := by decide +kernel
theorem dL_law_1258 : decode cL_law 1258 = .ok (.iconst 2, 1) := by decide +kernel
theorem dL_law_1259 : decode cL_law 1259 = .ok (.iadd, 1) := by decide +kernel
theorem dL_law_1260 : decode cL_law 1260 = .ok (.iaload, 1) := by decide +kernel
theorem dL_law_1261 : decode cL_law 1261 = .ok (.aload_n 0, 1) := by decide +kernel
theorem dL_law_1262 : decode cL_law 1262 = .ok (.iload_n 3, 1) := by decide +kernel
theorem dL_law_1263 : decode cL_law 1263 = .ok (.iconst 3, 1) := by decide +kernel
theorem dL_law_1264 : decode cL_law 1264 = .ok (.iadd, 1) := by decide +kernel
theorem dL_law_1265 : decode cL_law 1265 = .ok (.iaload, 1) := by decide +kernel
theorem dL_law_1266 : decode cL_law 1266 = .ok (.i2l, 1) := by decide +kernel
theorem dL_law_1267 : decode cL_law 1267 = .ok (.bipush 32, 2) := by decide +kernel
theorem dL_law_1269 : decode cL_law 1269 = .ok (.lshl, 1) := by decide +kernel
theorem dL_law_1270 : decode cL_law 1270 = .ok (.aload_n 0, 1) := by decide +kernel
theorem dL_law_1271 : decode cL_law 1271 = .ok (.iload_n 3, 1) := by decide +kernel
theorem dL_law_1272 : decode cL_law 1272 = .ok (.iconst 4, 1) := by decide +kernel
theorem dL_law_1273 : decode cL_law 1273 = .ok (.iadd, 1) := by decide +kernel
theorem dL_law_1274 : decode cL_law 1274 = .ok (.iaload, 1) := by decide +kernel
theorem dL_law_1275 : decode cL_law 1275 = .ok (.i2l, 1) := by decide +kernel
theorem dL_law_1276 : decode cL_law 1276 = .ok (.ldc2_w 18, 3) := by decide +kernel
theorem dL_law_1279 : decode cL_law 1279 = .ok (.land, 1) := by decide +kernel
theorem dL_law_1280 : decode cL_law 1280 = .ok (.lor, 1) := by decide +kernel
theorem dL_law_1281 : decode cL_law 1281 = .ok (.aload_n 0, 1) := by decide +kernel
theorem dL_law_1282 : decode cL_law 1282 = .ok (.iload_n 3, 1) := by decide +kernel
theorem dL_law_1283 : decode cL_law 1283 = .ok (.iconst 5, 1) := by decide +kernel
theorem dL_law_1284 : decode cL_law 1284 = .ok (.iadd, 1) := by decide +kernel
theorem dL_law_1285 : decode cL_law 1285 = .ok (.iaload, 1) := by decide +kernel
theorem dL_law_1286 : decode cL_law 1286 = .ok (.invokevirtual 105, 3) := by decide +kernel
theorem dL_law_1289 : decode cL_law 1289 = .ok (.aload_n 2, 1) := by decide +kernel
theorem dL_law_1290 : decode cL_law 1290 = .ok (.aload_n 0, 1) := by decide +kernel
theorem dL_law_1291 : decode cL_law 1291 = .ok (.iload_n 3, 1) := by decide +kernel
theorem dL_law_1292 : decode cL_law 1292 = .ok (.iconst 1, 1) := by decide +kernel
theorem dL_law_1293 : decode cL_law 1293 = .ok (.iadd, 1) := by decide +kernel
theorem dL_law_1294 : decode cL_law 1294 = .ok (.iaload, 1) := by decide +kernel
theorem dL_law_1295 : decode cL_law 1295 = .ok (.aload_n 0, 1) := by decide +kernel
theorem dL_law_1296 : decode cL_law 1296 = .ok (.iload_n 3, 1) := by decide +kernel
theorem dL_law_1297 : decode cL_law 1297 = .ok (.iconst 2, 1) := by decide +kernel
theorem dL_law_1298 : decode cL_law 1298 = .ok (.iadd, 1) := by decide +kernel
theorem dL_law_1299 : decode cL_law 1299 = .ok (.iaload, 1) := by decide +kernel
theorem dL_law_1300 : decode cL_law 1300 = .ok (.aload_n 0, 1) := by decide +kernel
theorem dL_law_1301 : decode cL_law 1301 = .ok (.iload_n 3, 1) := by decide +kernel
theorem dL_law_1302 : decode cL_law 1302 = .ok (.iconst 3, 1) := by decide +kernel
theorem dL_law_1303 : decode cL_law 1303 = .ok (.iadd, 1) := by decide +kernel
theorem dL_law_1304 : decode cL_law 1304 = .ok (.iaload, 1) := by decide +kernel
theorem dL_law_1305 : decode cL_law 1305 = .ok (.i2l, 1) := by decide +kernel
theorem dL_law_1306 : decode cL_law 1306 = .ok (.bipush 32, 2) := by decide +kernel
theorem dL_law_1308 : decode cL_law 1308 = .ok (.lshl, 1) := by decide +kernel
theorem dL_law_1309 : decode cL_law 1309 = .ok (.aload_n 0, 1) := by decide +kernel
theorem dL_law_1310 : decode cL_law 1310 = .ok (.iload_n 3, 1) := by decide +kernel
theorem dL_law_1311 : decode cL_law 1311 = .ok (.iconst 4, 1) := by decide +kernel
theorem dL_law_1312 : decode cL_law 1312 = .ok (.iadd, 1) := by decide +kernel
theorem dL_law_1313 : decode cL_law 1313 = .ok (.iaload, 1) := by decide +kernel
theorem dL_law_1314 : decode cL_law 1314 = .ok (.i2l, 1) := by decide +kernel
theorem dL_law_1315 : decode cL_law 1315 = .ok (.ldc2_w 18, 3) := by decide +kernel
theorem dL_law_1318 : decode cL_law 1318 = .ok (.land, 1) := by decide +kernel
theorem dL_law_1319 : decode cL_law 1319 = .ok (.lor, 1) := by decide +kernel
theorem dL_law_1320 : decode cL_law 1320 = .ok (.aload_n 0, 1) := by decide +kernel
theorem dL_law_1321 : decode cL_law 1321 = .ok (.iload_n 3, 1) := by decide +kernel
theorem dL_law_1322 : decode cL_law 1322 = .ok (.iconst 5, 1) := by decide +kernel
theorem dL_law_1323 : decode cL_law 1323 = .ok (.iadd, 1) := by decide +kernel
theorem dL_law_1324 : decode cL_law 1324 = .ok (.iaload, 1) := by decide +kernel
theorem dL_law_1325 : decode cL_law 1325 = .ok (.invokevirtual 109, 3) := by decide +kernel
theorem dL_law_1328 : decode cL_law 1328 = .ok (.lcmp, 1) := by decide +kernel
theorem dL_law_1329 : decode cL_law 1329 = .ok (.ifCond .eq 182, 3) := by decide +kernel
theorem dL_law_1332 : decode cL_law 1332 = .ok (.iconst 0, 1) := by decide +kernel
theorem dL_law_1333 : decode cL_law 1333 = .ok (.ireturn, 1) := by decide +kernel
theorem dL_law_1334 : decode cL_law 1334 = .ok (.aload_n 1, 1) := by decide +kernel
theorem dL_law_1335 : decode cL_law 1335 = .ok (.aload_n 0, 1) := by decide +kernel
theorem dL_law_1336 : decode cL_law 1336 = .ok (.iload_n 3, 1) := by decide +kernel
theorem dL_law_1337 : decode cL_law 1337 = .ok (.iconst 1, 1) := by decide +kernel
theorem dL_law_1338 : decode cL_law 1338 = .ok (.iadd, 1) := by decide +kernel
theorem dL_law_1339 : decode cL_law 1339 = .ok (.iaload, 1) := by decide +kernel
theorem dL_law_1340 : decode cL_law 1340 = .ok (.aload_n 0, 1) := by decide +kernel
theorem dL_law_1341 : decode cL_law 1341 = .ok (.iload_n 3, 1) := by decide +kernel
theorem dL_law_1342 : decode cL_law 1342 = .ok (.iconst 2, 1) := by decide +kernel
theorem dL_law_1343 : decode cL_law 1343 = .ok (.iadd, 1) := by decide +kernel
theorem dL_law_1344 : decode cL_law 1344 = .ok (.iaload, 1) := by decide +kernel
theorem dL_law_1345 : decode cL_law 1345 = .ok (.aload_n 0, 1) := by decide +kernel
theorem dL_law_1346 : decode cL_law 1346 = .ok (.iload_n 3, 1) := by decide +kernel
theorem dL_law_1347 : decode cL_law 1347 = .ok (.iconst 3, 1) := by decide +kernel
theorem dL_law_1348 : decode cL_law 1348 = .ok (.iadd, 1) := by decide +kernel
theorem dL_law_1349 : decode cL_law 1349 = .ok (.iaload, 1) := by decide +kernel
theorem dL_law_1350 : decode cL_law 1350 = .ok (.invokevirtual 110, 3) := by decide +kernel
theorem dL_law_1353 : decode cL_law 1353 = .ok (.aload_n 2, 1) := by decide +kernel
theorem dL_law_1354 : decode cL_law 1354 = .ok (.aload_n 0, 1) := by decide +kernel
theorem dL_law_1355 : decode cL_law 1355 = .ok (.iload_n 3, 1) := by decide +kernel
theorem dL_law_1356 : decode cL_law 1356 = .ok (.iconst 1, 1) := by decide +kernel
theorem dL_law_1357 : decode cL_law 1357 = .ok (.iadd, 1) := by decide +kernel
theorem dL_law_1358 : decode cL_law 1358 = .ok (.iaload, 1) := by decide +kernel
theorem dL_law_1359 : decode cL_law 1359 = .ok (.aload_n 0, 1) := by decide +kernel
theorem dL_law_1360 : decode cL_law 1360 = .ok (.iload_n 3, 1) := by decide +kernel
theorem dL_law_1361 : decode cL_law 1361 = .ok (.iconst 2, 1) := by decide +kernel
theorem dL_law_1362 : decode cL_law 1362 = .ok (.iadd, 1) := by decide +kernel
theorem dL_law_1363 : decode cL_law 1363 = .ok (.iaload, 1) := by decide +kernel
theorem dL_law_1364 : decode cL_law 1364 = .ok (.aload_n 0, 1) := by decide +kernel
theorem dL_law_1365 : decode cL_law 1365 = .ok (.iload_n 3, 1) := by decide +kernel
theorem dL_law_1366 : decode cL_law 1366 = .ok (.iconst 3, 1) := by decide +kernel
theorem dL_law_1367 : decode cL_law 1367 = .ok (.iadd, 1) := by decide +kernel
theorem dL_law_1368 : decode cL_law 1368 = .ok (.iaload, 1) := by decide +kernel
theorem dL_law_1369 : decode cL_law 1369 = .ok (.invokevirtual 113, 3) := by decide +kernel
theorem dL_law_1372 : decode cL_law 1372 = .ok (.lcmp, 1) := by decide +kernel
theorem dL_law_1373 : decode cL_law 1373 = .ok (.ifCond .eq 138, 3) := by decide +kernel
theorem dL_law_1376 : decode cL_law 1376 = .ok (.iconst 0, 1) := by decide +kernel
theorem dL_law_1377 : decode cL_law 1377 = .ok (.ireturn, 1) := by decide +kernel
theorem dL_law_1378 : decode cL_law 1378 = .ok (.aload_n 1, 1) := by decide +kernel
theorem dL_law_1379 : decode cL_law 1379 = .ok (.aload_n 0, 1) := by decide +kernel
theorem dL_law_1380 : decode cL_law 1380 = .ok (.iload_n 3, 1) := by decide +kernel
theorem dL_law_1381 : decode cL_law 1381 = .ok (.iconst 1, 1) := by decide +kernel
theorem dL_law_1382 : decode cL_law 1382 = .ok (.iadd, 1) := by decide +kernel
theorem dL_law_1383 : decode cL_law 1383 = .ok (.iaload, 1) := by decide +kernel
theorem dL_law_1384 : decode cL_law 1384 = .ok (.aload_n 0, 1) := by decide +kernel
theorem dL_law_1385 : decode cL_law 1385 = .ok (.iload_n 3, 1) := by decide +kernel
theorem dL_law_1386 : decode cL_law 1386 = .ok (.iconst 2, 1) := by decide +kernel
theorem dL_law_1387 : decode cL_law 1387 = .ok (.iadd, 1) := by decide +kernel
theorem dL_law_1388 : decode cL_law 1388 = .ok (.iaload, 1) := by decide +kernel
theorem dL_law_1389 : decode cL_law 1389 = .ok (.invokevirtual 114, 3) := by decide +kernel
theorem dL_law_1392 : decode cL_law 1392 = .ok (.aload_n 2, 1) := by decide +kernel
theorem dL_law_1393 : decode cL_law 1393 = .ok (.aload_n 0, 1) := by decide +kernel
theorem dL_law_1394 : decode cL_law 1394 = .ok (.iload_n 3, 1) := by decide +kernel
theorem dL_law_1395 : decode cL_law 1395 = .ok (.iconst 1, 1) := by decide +kernel
theorem dL_law_1396 : decode cL_law 1396 = .ok (.iadd, 1) := by decide +kernel
theorem dL_law_1397 : decode cL_law 1397 = .ok (.iaload, 1) := by decide +kernel
theorem dL_law_1398 : decode cL_law 1398 = .ok (.aload_n 0, 1) := by decide +kernel
theorem dL_law_1399 : decode cL_law 1399 = .ok (.iload_n 3, 1) := by decide +kernel
theorem dL_law_1400 : decode cL_law 1400 = .ok (.iconst 2, 1) := by decide +kernel
theorem dL_law_1401 : decode cL_law 1401 = .ok (.iadd, 1) := by decide +kernel
theorem dL_law_1402 : decode cL_law 1402 = .ok (.iaload, 1) := by decide +kernel
theorem dL_law_1403 : decode cL_law 1403 = .ok (.invokevirtual 117, 3) := by decide +kernel
theorem dL_law_1406 : decode cL_law 1406 = .ok (.lcmp, 1) := by decide +kernel
theorem dL_law_1407 : decode cL_law 1407 = .ok (.ifCond .eq 104, 3) := by decide +kernel
theorem dL_law_1410 : decode cL_law 1410 = .ok (.iconst 0, 1) := by decide +kernel
theorem dL_law_1411 : decode cL_law 1411 = .ok (.ireturn, 1) := by decide +kernel
theorem dL_law_1412 : decode cL_law 1412 = .ok (.aload_n 1, 1) := by decide +kernel
theorem dL_law_1413 : decode cL_law 1413 = .ok (.aload_n 0, 1) := by decide +kernel
theorem dL_law_1414 : decode cL_law 1414 = .ok (.iload_n 3, 1) := by decide +kernel
theorem dL_law_1415 : decode cL_law 1415 = .ok (.iconst 1, 1) := by decide +kernel
theorem dL_law_1416 : decode cL_law 1416 = .ok (.iadd, 1) := by decide +kernel
theorem dL_law_1417 : decode cL_law 1417 = .ok (.iaload, 1) := by decide +kernel
theorem dL_law_1418 : decode cL_law 1418 = .ok (.aload_n 0, 1) := by decide +kernel
theorem dL_law_1419 : decode cL_law 1419 = .ok (.iload_n 3, 1) := by decide +kernel
theorem dL_law_1420 : decode cL_law 1420 = .ok (.iconst 2, 1) := by decide +kernel
theorem dL_law_1421 : decode cL_law 1421 = .ok (.iadd, 1) := by decide +kernel
theorem dL_law_1422 : decode cL_law 1422 = .ok (.iaload, 1) := by decide +kernel
theorem dL_law_1423 : decode cL_law 1423 = .ok (.invokevirtual 118, 3) := by decide +kernel
theorem dL_law_1426 : decode cL_law 1426 = .ok (.aload_n 2, 1) := by decide +kernel
theorem dL_law_1427 : decode cL_law 1427 = .ok (.aload_n 0, 1) := by decide +kernel
theorem dL_law_1428 : decode cL_law 1428 = .ok (.iload_n 3, 1) := by decide +kernel
theorem dL_law_1429 : decode cL_law 1429 = .ok (.iconst 1, 1) := by decide +kernel
theorem dL_law_1430 : decode cL_law 1430 = .ok (.iadd, 1) := by decide +kernel
theorem dL_law_1431 : decode cL_law 1431 = .ok (.iaload, 1) := by decide +kernel
theorem dL_law_1432 : decode cL_law 1432 = .ok (.aload_n 0, 1) := by decide +kernel
theorem dL_law_1433 : decode cL_law 1433 = .ok (.iload_n 3, 1) := by decide +kernel
theorem dL_law_1434 : decode cL_law 1434 = .ok (.iconst 2, 1) := by decide +kernel
theorem dL_law_1435 : decode cL_law 1435 = .ok (.iadd, 1) := by decide +kernel
theorem dL_law_1436 : decode cL_law 1436 = .ok (.iaload, 1) := by decide +kernel
theorem dL_law_1437 : decode cL_law 1437 = .ok (.invokevirtual 121, 3) := by decide +kernel
theorem dL_law_1440 : decode cL_law 1440 = .ok (.if_icmp .eq 71, 3) := by decide +kernel
theorem dL_law_1443 : decode cL_law 1443 = .ok (.iconst 0, 1) := by decide +kernel
theorem dL_law_1444 : decode cL_law 1444 = .ok (.ireturn, 1) := by decide +kernel
theorem dL_law_1445 : decode cL_law 1445 = .ok (.aload_n 1, 1) := by decide +kernel
theorem dL_law_1446 : decode cL_law 1446 = .ok (.aload_n 0, 1) := by decide +kernel
theorem dL_law_1447 : decode cL_law 1447 = .ok (.iload_n 3, 1) := by decide +kernel
theorem dL_law_1448 : decode cL_law 1448 = .ok (.iconst 1, 1) := by decide +kernel
theorem dL_law_1449 : decode cL_law 1449 = .ok (.iadd, 1) := by decide +kernel
theorem dL_law_1450 : decode cL_law 1450 = .ok (.iaload, 1) := by decide +kernel
theorem dL_law_1451 : decode cL_law 1451 = .ok (.aload_n 0, 1) := by decide +kernel
theorem dL_law_1452 : decode cL_law 1452 = .ok (.iload_n 3, 1) := by decide +kernel
theorem dL_law_1453 : decode cL_law 1453 = .ok (.iconst 2, 1) := by decide +kernel
theorem dL_law_1454 : decode cL_law 1454 = .ok (.iadd, 1) := by decide +kernel
theorem dL_law_1455 : decode cL_law 1455 = .ok (.iaload, 1) := by decide +kernel
theorem dL_law_1456 : decode cL_law 1456 = .ok (.invokevirtual 122, 3) := by decide +kernel
theorem dL_law_1459 : decode cL_law 1459 = .ok (.aload_n 2, 1) := by decide +kernel
theorem dL_law_1460 : decode cL_law 1460 = .ok (.aload_n 0, 1) := by decide +kernel
theorem dL_law_1461 : decode cL_law 1461 = .ok (.iload_n 3, 1) := by decide +kernel
theorem dL_law_1462 : decode cL_law 1462 = .ok (.iconst 1, 1) := by decide +kernel
theorem dL_law_1463 : decode cL_law 1463 = .ok (.iadd, 1) := by decide +kernel
theorem dL_law_1464 : decode cL_law 1464 = .ok (.iaload, 1) := by decide +kernel
theorem dL_law_1465 : decode cL_law 1465 = .ok (.aload_n 0, 1) := by decide +kernel
theorem dL_law_1466 : decode cL_law 1466 = .ok (.iload_n 3, 1) := by decide +kernel
theorem dL_law_1467 : decode cL_law 1467 = .ok (.iconst 2, 1) := by decide +kernel
theorem dL_law_1468 : decode cL_law 1468 = .ok (.iadd, 1) := by decide +kernel
theorem dL_law_1469 : decode cL_law 1469 = .ok (.iaload, 1) := by decide +kernel
theorem dL_law_1470 : decode cL_law 1470 = .ok (.invokevirtual 125, 3) := by decide +kernel
theorem dL_law_1473 : decode cL_law 1473 = .ok (.if_icmp .eq 38, 3) := by decide +kernel
theorem dL_law_1476 : decode cL_law 1476 = .ok (.iconst 0, 1) := by decide +kernel
theorem dL_law_1477 : decode cL_law 1477 = .ok (.ireturn, 1) := by decide +kernel
theorem dL_law_1478 : decode cL_law 1478 = .ok (.aload_n 1, 1) := by decide +kernel
theorem dL_law_1479 : decode cL_law 1479 = .ok (.aload_n 0, 1) := by decide +kernel
theorem dL_law_1480 : decode cL_law 1480 = .ok (.iload_n 3, 1) := by decide +kernel
theorem dL_law_1481 : decode cL_law 1481 = .ok (.iconst 1, 1) := by decide +kernel
theorem dL_law_1482 : decode cL_law 1482 = .ok (.iadd, 1) := by decide +kernel
theorem dL_law_1483 : decode cL_law 1483 = .ok (.iaload, 1) := by decide +kernel
theorem dL_law_1484 : decode cL_law 1484 = .ok (.aload_n 0, 1) := by decide +kernel
theorem dL_law_1485 : decode cL_law 1485 = .ok (.iload_n 3, 1) := by decide +kernel
theorem dL_law_1486 : decode cL_law 1486 = .ok (.iconst 2, 1) := by decide +kernel
theorem dL_law_1487 : decode cL_law 1487 = .ok (.iadd, 1) := by decide +kernel
theorem dL_law_1488 : decode cL_law 1488 = .ok (.iaload, 1) := by decide +kernel
theorem dL_law_1489 : decode cL_law 1489 = .ok (.invokevirtual 126, 3) := by decide +kernel
theorem dL_law_1492 : decode cL_law 1492 = .ok (.aload_n 2, 1) := by decide +kernel
theorem dL_law_1493 : decode cL_law 1493 = .ok (.aload_n 0, 1) := by decide +kernel
theorem dL_law_1494 : decode cL_law 1494 = .ok (.iload_n 3, 1) := by decide +kernel
theorem dL_law_1495 : decode cL_law 1495 = .ok (.iconst 1, 1) := by decide +kernel
theorem dL_law_1496 : decode cL_law 1496 = .ok (.iadd, 1) := by decide +kernel
theorem dL_law_1497 : decode cL_law 1497 = .ok (.iaload, 1) := by decide +kernel
theorem dL_law_1498 : decode cL_law 1498 = .ok (.aload_n 0, 1) := by decide +kernel
theorem dL_law_1499 : decode cL_law 1499 = .ok (.iload_n 3, 1) := by decide +kernel
theorem dL_law_1500 : decode cL_law 1500 = .ok (.iconst 2, 1) := by decide +kernel
theorem dL_law_1501 : decode cL_law 1501 = .ok (.iadd, 1) := by decide +kernel
theorem dL_law_1502 : decode cL_law 1502 = .ok (.iaload, 1) := by decide +kernel
theorem dL_law_1503 : decode cL_law 1503 = .ok (.invokevirtual 129, 3) := by decide +kernel
theorem dL_law_1506 : decode cL_law 1506 = .ok (.if_icmp .eq 5, 3) := by decide +kernel
theorem dL_law_1509 : decode cL_law 1509 = .ok (.iconst 0, 1) := by decide +kernel
theorem dL_law_1510 : decode cL_law 1510 = .ok (.ireturn, 1) := by decide +kernel
theorem dL_law_1511 : decode cL_law 1511 = .ok (.iinc 3 7, 3) := by decide +kernel
theorem dL_law_1514 : decode cL_law 1514 = .ok (.goto (-1496), 3) := by decide +kernel
theorem dL_law_1517 : decode cL_law 1517 = .ok (.iconst 1, 1) := by decide +kernel
theorem dL_law_1518 : decode cL_law 1518 = .ok (.ireturn, 1) := by decide +kernel
