theorem dX9_rates_5 : decode cX9_rates 5 = .ok (.invokevirtual 242, 3) := by decide +kernel
theorem dX9_rates_8 : decode cX9_rates 8 = .ok (.iconst 0, 1) := by decide +kernel
theorem dX9_rates_9 : decode cX9_rates 9 = .ok (.istore 6, 2) := by decide +kernel
theorem dX9_rates_11 : decode cX9_rates 11 = .ok (.iload 6, 2) := by decide +kernel
theorem dX9_rates_13 : decode cX9_rates 13 = .ok (.aload_n 0, 1) := by decide +kernel
theorem dX9_rates_14 : decode cX9_rates 14 = .ok (.getfield 9, 3) := by decide +kernel
theorem dX9_rates_17 : decode cX9_rates 17 = .ok (.iload_n 1, 1) := by decide +kernel
theorem dX9_rates_18 : decode cX9_rates 18 = .ok (.iaload, 1) := by decide +kernel
theorem dX9_rates_19 : decode cX9_rates 19 = .ok (.if_icmp .ge 58, 3) := by decide +kernel
theorem dX9_rates_22 : decode cX9_rates 22 = .ok (.aload 5, 2) := by decide +kernel
theorem dX9_rates_24 : decode cX9_rates 24 = .ok (.iload 6, 2) := by decide +kernel
theorem dX9_rates_26 : decode cX9_rates 26 = .ok (.aload_n 0, 1) := by decide +kernel
theorem dX9_rates_27 : decode cX9_rates 27 = .ok (.getfield 143, 3) := by decide +kernel
theorem dX9_rates_30 : decode cX9_rates 30 = .ok (.aload_n 0, 1) := by decide +kernel
theorem dX9_rates_31 : decode cX9_rates 31 = .ok (.getfield 21, 3) := by decide +kernel
theorem dX9_rates_34 : decode cX9_rates 34 = .ok (.bipush 6, 2) := by decide +kernel
theorem dX9_rates_36 : decode cX9_rates 36 = .ok (.iload_n 1, 1) := by decide +kernel
theorem dX9_rates_37 : decode cX9_rates 37 = .ok (.imul, 1) := by decide +kernel
theorem dX9_rates_38 : decode cX9_rates 38 = .ok (.iload 6, 2) := by decide +kernel
theorem dX9_rates_40 : decode cX9_rates 40 = .ok (.iadd, 1) := by decide +kernel
theorem dX9_rates_41 : decode cX9_rates 41 = .ok (.iaload, 1) := by decide +kernel
theorem dX9_rates_42 : decode cX9_rates 42 = .ok (.daload, 1) := by decide +kernel
theorem dX9_rates_43 : decode cX9_rates 43 = .ok (.dastore, 1) := by decide +kernel
theorem dX9_rates_44 : decode cX9_rates 44 = .ok (.aload_n 0, 1) := by decide +kernel
theorem dX9_rates_45 : decode cX9_rates 45 = .ok (.aload_n 0, 1) := by decide +kernel
theorem dX9_rates_46 : decode cX9_rates 46 = .ok (.getfield 246, 3) := by decide +kernel
theorem dX9_rates_49 : decode cX9_rates 49 = .ok (.ifCond .ne 14, 3) := by decide +kernel
theorem dX9_rates_52 : decode cX9_rates 52 = .ok (.aload 5, 2) := by decide +kernel
theorem dX9_rates_54 : decode cX9_rates 54 = .ok (.iload 6, 2) := by decide +kernel
theorem dX9_rates_56 : decode cX9_rates 56 = .ok (.daload, 1) := by decide +kernel
theorem dX9_rates_57 : decode cX9_rates 57 = .ok (.invokestatic 193, 3) := by decide +kernel
theorem dX9_rates_60 : decode cX9_rates 60 = .ok (.ifCond .ne 7, 3) := by decide +kernel
theorem dX9_rates_63 : decode cX9_rates 63 = .ok (.iconst 1, 1) := by decide +kernel
theorem dX9_rates_64 : decode cX9_rates 64 = .ok (.goto 4, 3) := by decide +kernel
theorem dX9_rates_67 : decode cX9_rates 67 = .ok (.iconst 0, 1) := by decide +kernel
theorem dX9_rates_68 : decode cX9_rates 68 = .ok (.putfield 246, 3) := by decide +kernel
theorem dX9_rates_71 : decode cX9_rates 71 = .ok (.iinc 6 1, 3) := by decide +kernel
theorem dX9_rates_74 : decode cX9_rates 74 = .ok (.goto (-63), 3) := by decide +kernel
theorem dX9_rates_77 : decode cX9_rates 77 = .ok (.return_, 1) := by decide +kernel
theorem dX9_made_0 : decode cX9_made 0 = .ok (.aload_n 0, 1) := by decide +kernel
theorem dX9_made_1 : decode cX9_made 1 = .ok (.getfield 9, 3) := by decide +kernel
theorem dX9_made_4 : decode cX9_made 4 = .ok (.iload_n 1, 1) := by decide +kernel
theorem dX9_made_5 : decode cX9_made 5 = .ok (.iaload, 1) := by decide +kernel
theorem dX9_made_6 : decode cX9_made 6 = .ok (.istore 7, 2) := by decide +kernel
theorem dX9_made_8 : decode cX9_made 8 = .ok (.aload_n 0, 1) := by decide +kernel
theorem dX9_made_9 : decode cX9_made 9 = .ok (.iconst 0, 1) := by decide +kernel
theorem dX9_made_10 : decode cX9_made 10 = .ok (.putfield 246, 3) := by decide +kernel
theorem dX9_made_13 : decode cX9_made 13 = .ok (.aload_n 0, 1) := by decide +kernel
theorem dX9_made_14 : decode cX9_made 14 = .ok (.iconst 0, 1) := by decide +kernel
theorem dX9_made_15 : decode cX9_made 15 = .ok (.putfield 250, 3) := by decide +kernel
theorem dX9_made_18 : decode cX9_made 18 = .ok (.aload_n 0, 1) := by decide +kernel
theorem dX9_made_19 : decode cX9_made 19 = .ok (.iload_n 1, 1) := by decide +kernel
theorem dX9_made_20 : decode cX9_made 20 = .ok (.dload_n 3, 1) := by decide +kernel
theorem dX9_made_21 : decode cX9_made 21 = .ok (.aload_n 0, 1) := by decide +kernel
theorem dX9_made_22 : decode cX9_made 22 = .ok (.getfield 146, 3) := by decide +kernel
theorem dX9_made_25 : decode cX9_made 25 = .ok (.aload_n 0, 1) := by decide +kernel
theorem dX9_made_26 : decode cX9_made 26 = .ok (.getfield 161, 3) := by decide +kernel
theorem dX9_made_29 : decode cX9_made 29 = .ok (.invokevirtual 254, 3) := by decide +kernel
theorem dX9_made_32 : decode cX9_made 32 = .ok (.iload_n 2, 1) := by decide +kernel
theorem dX9_made_33 : decode cX9_made 33 = .ok (.ifCond .ne 15, 3) := by decide +kernel
theorem dX9_made_36 : decode cX9_made 36 = .ok (.aload_n 0, 1) := by decide +kernel
theorem dX9_made_37 : decode cX9_made 37 = .ok (.iload_n 1, 1) := by decide +kernel
theorem dX9_made_38 : decode cX9_made 38 = .ok (.iload 7, 2) := by decide +kernel
theorem dX9_made_40 : decode cX9_made 40 = .ok (.dload 5, 2) := by decide +kernel
theorem dX9_made_42 : decode cX9_made 42 = .ok (.invokevirtual 258, 3) := by decide +kernel
theorem dX9_made_45 : decode cX9_made 45 = .ok (.goto 103, 3) := by decide +kernel
theorem dX9_made_48 : decode cX9_made 48 = .ok (.iload_n 2, 1) := by decide +kernel
theorem dX9_made_49 : decode cX9_made 49 = .ok (.iconst 1, 1) := by decide +kernel
theorem dX9_made_50 : decode cX9_made 50 = .ok (.if_icmp .ne 16, 3) := by decide +kernel
theorem dX9_made_53 : decode cX9_made 53 = .ok (.aload_n 0, 1) := by decide +kernel
theorem dX9_made_54 : decode cX9_made 54 = .ok (.iload_n 1, 1) := by decide +kernel
theorem dX9_made_55 : decode cX9_made 55 = .ok (.iload 7, 2) := by decide +kernel
theorem dX9_made_57 : decode cX9_made 57 = .ok (.dload_n 3, 1) := by decide +kernel
theorem dX9_made_58 : decode cX9_made 58 = .ok (.dload 5, 2) := by decide +kernel
theorem dX9_made_60 : decode cX9_made 60 = .ok (.invokevirtual 262, 3) := by decide +kernel
theorem dX9_made_63 : decode cX9_made 63 = .ok (.goto 85, 3) := by decide +kernel
theorem dX9_made_66 : decode cX9_made 66 = .ok (.iload_n 2, 1) := by decide +kernel
theorem dX9_made_67 : decode cX9_made 67 = .ok (.iconst 2, 1) := by decide +kernel
theorem dX9_made_68 : decode cX9_made 68 = .ok (.if_icmp .ne 16, 3) := by decide +kernel
theorem dX9_made_71 : decode cX9_made 71 = .ok (.aload_n 0, 1) := by decide +kernel
theorem dX9_made_72 : decode cX9_made 72 = .ok (.iload_n 1, 1) := by decide +kernel
theorem dX9_made_73 : decode cX9_made 73 = .ok (.iload 7, 2) := by decide +kernel
theorem dX9_made_75 : decode cX9_made 75 = .ok (.dload_n 3, 1) := by decide +kernel
theorem dX9_made_76 : decode cX9_made 76 = .ok (.dload 5, 2) := by decide +kernel
theorem dX9_made_78 : decode cX9_made 78 = .ok (.invokevirtual 266, 3) := by decide +kernel
theorem dX9_made_81 : decode cX9_made 81 = .ok (.goto 67, 3) := by decide +kernel
theorem dX9_made_84 : decode cX9_made 84 = .ok (.iload_n 2, 1) := by decide +kernel
theorem dX9_made_85 : decode cX9_made 85 = .ok (.iconst 3, 1) := by decide +kernel
theorem dX9_made_86 : decode cX9_made 86 = .ok (.if_icmp .ne 16, 3) := by decide +kernel
theorem dX9_made_89 : decode cX9_made 89 = .ok (.aload_n 0, 1) := by decide +kernel
theorem dX9_made_90 : decode cX9_made 90 = .ok (.iload_n 1, 1) := by decide +kernel
theorem dX9_made_91 : decode cX9_made 91 = .ok (.iload 7, 2) := by decide +kernel
theorem dX9_made_93 : decode cX9_made 93 = .ok (.dload_n 3, 1) := by decide +kernel
theorem dX9_made_94 : decode cX9_made 94 = .ok (.dload 5, 2) := by decide +kernel
theorem dX9_made_96 : decode cX9_made 96 = .ok (.invokevirtual 269, 3) := by decide +kernel
theorem dX9_made_99 : decode cX9_made 99 = .ok (.goto 49, 3) := by decide +kernel
theorem dX9_made_102 : decode cX9_made 102 = .ok (.iload_n 2, 1) := by decide +kernel
theorem dX9_made_103 : decode cX9_made 103 = .ok (.iconst 4, 1) := by decide +kernel
theorem dX9_made_104 : decode cX9_made 104 = .ok (.if_icmp .ne 16, 3) := by decide +kernel
theorem dX9_made_107 : decode cX9_made 107 = .ok (.aload_n 0, 1) := by decide +kernel
theorem dX9_made_108 : decode cX9_made 108 = .ok (.iload_n 1, 1) := by decide +kernel
theorem dX9_made_109 : decode cX9_made 109 = .ok (.iload 7, 2) := by decide +kernel
theorem dX9_made_111 : decode cX9_made 111 = .ok (.dload_n 3, 1) := by decide +kernel
theorem dX9_made_112 : decode cX9_made 112 = .ok (.dload 5, 2) := by decide +kernel
theorem dX9_made_114 : decode cX9_made 114 = .ok (.invokevirtual 272, 3) := by decide +kernel
theorem dX9_made_117 : decode cX9_made 117 = .ok (.goto 31, 3) := by decide +kernel
theorem dX9_made_120 : decode cX9_made 120 = .ok (.iload_n 2, 1) := by decide +kernel
theorem dX9_made_121 : decode cX9_made 121 = .ok (.iconst 5, 1) := by decide +kernel
theorem dX9_made_122 : decode cX9_made 122 = .ok (.if_icmp .ne 16, 3) := by decide +kernel
theorem dX9_made_125 : decode cX9_made 125 = .ok (.aload_n 0, 1) := by decide +kernel
theorem dX9_made_126 : decode cX9_made 126 = .ok (.iload_n 1, 1) := by decide +kernel
theorem dX9_made_127 : decode cX9_made 127 = .ok (.iload 7, 2) := by decide +kernel
theorem dX9_made_129 : decode cX9_made 129 = .ok (.dload_n 3, 1) := by decide +kernel
theorem dX9_made_130 : decode cX9_made 130 = .ok (.dload 5, 2) := by decide +kernel
theorem dX9_made_132 : decode cX9_made 132 = .ok (.invokevirtual 275, 3) := by decide +kernel
theorem dX9_made_135 : decode cX9_made 135 = .ok (.goto 13, 3) := by decide +kernel
theorem dX9_made_138 : decode cX9_made 138 = .ok (.aload_n 0, 1) := by decide +kernel
theorem dX9_made_139 : decode cX9_made 139 = .ok (.iload_n 1, 1) := by decide +kernel
theorem dX9_made_140 : decode cX9_made 140 = .ok (.iload 7, 2) := by decide +kernel
theorem dX9_made_142 : decode cX9_made 142 = .ok (.dload_n 3, 1) := by decide +kernel
theorem dX9_made_143 : decode cX9_made 143 = .ok (.dload 5, 2) := by decide +kernel
theorem dX9_made_145 : decode cX9_made 145 = .ok (.invokevirtual 278, 3) := by decide +kernel
theorem dX9_made_148 : decode cX9_made 148 = .ok (.iconst 0, 1) := by decide +kernel
theorem dX9_made_149 : decode cX9_made 149 = .ok (.istore 8, 2) := by decide +kernel
theorem dX9_made_151 : decode cX9_made 151 = .ok (.iload 8, 2) := by decide +kernel
theorem dX9_made_153 : decode cX9_made 153 = .ok (.iload 7, 2) := by decide +kernel
theorem dX9_made_155 : decode cX9_made 155 = .ok (.if_icmp .ge 38, 3) := by decide +kernel
theorem dX9_made_158 : decode cX9_made 158 = .ok (.aload_n 0, 1) := by decide +kernel
theorem dX9_made_159 : decode cX9_made 159 = .ok (.aload_n 0, 1) := by decide +kernel
theorem dX9_made_160 : decode cX9_made 160 = .ok (.getfield 246, 3) := by decide +kernel
theorem dX9_made_163 : decode cX9_made 163 = .ok (.ifCond .ne 16, 3) := by decide +kernel
theorem dX9_made_166 : decode cX9_made 166 = .ok (.aload_n 0, 1) := by decide +kernel
theorem dX9_made_167 : decode cX9_made 167 = .ok (.getfield 152, 3) := by decide +kernel
theorem dX9_made_170 : decode cX9_made 170 = .ok (.iload 8, 2) := by decide +kernel
theorem dX9_made_172 : decode cX9_made 172 = .ok (.daload, 1) := by decide +kernel
theorem dX9_made_173 : decode cX9_made 173 = .ok (.invokestatic 193, 3) := by decide +kernel
theorem dX9_made_176 : decode cX9_made 176 = .ok (.ifCond .ne 7, 3) := by decide +kernel
theorem dX9_made_179 : decode cX9_made 179 = .ok (.iconst 1, 1) := by decide +kernel
theorem dX9_made_180 : decode cX9_made 180 = .ok (.goto 4, 3) := by decide +kernel
theorem dX9_made_183 : decode cX9_made 183 = .ok (.iconst 0, 1) := by decide +kernel
theorem dX9_made_184 : decode cX9_made 184 = .ok (.putfield 246, 3) := by decide +kernel
theorem dX9_made_187 : decode cX9_made 187 = .ok (.iinc 8 1, 3) := by decide +kernel
theorem dX9_made_190 : decode cX9_made 190 = .ok (.goto (-39), 3) := by decide +kernel
theorem dX9_made_193 : decode cX9_made 193 = .ok (.aload_n 0, 1) := by decide +kernel
theorem dX9_made_194 : decode cX9_made 194 = .ok (.getfield 246, 3) := by decide +kernel
theorem dX9_made_197 : decode cX9_made 197 = .ok (.ifCond .ne 13, 3) := by decide +kernel
theorem dX9_made_200 : decode cX9_made 200 = .ok (.dload_n 3, 1) := by decide +kernel
theorem dX9_made_201 : decode cX9_made 201 = .ok (.dload 5, 2) := by decide +kernel
theorem dX9_made_203 : decode cX9_made 203 = .ok (.dadd, 1) := by decide +kernel
theorem dX9_made_204 : decode cX9_made 204 = .ok (.invokestatic 193, 3) := by decide +kernel
theorem dX9_made_207 : decode cX9_made 207 = .ok (.ifCond .ne 7, 3) := by decide +kernel
theorem dX9_made_210 : decode cX9_made 210 = .ok (.iconst 1, 1) := by decide +kernel
theorem dX9_made_211 : decode cX9_made 211 = .ok (.goto 4, 3) := by decide +kernel
theorem dX9_made_214 : decode cX9_made 214 = .ok (.iconst 0, 1) := by decide +kernel
theorem dX9_made_215 : decode cX9_made 215 = .ok (.ireturn, 1) := by decide +kernel
theorem dX9_plain_0 : decode cX9_plain 0 = .ok (.iconst 0, 1) := by decide +kernel
theorem dX9_plain_1 : decode cX9_plain 1 = .ok (.istore 5, 2) := by decide +kernel
theorem dX9_plain_3 : decode cX9_plain 3 = .ok (.iload 5, 2) := by decide +kernel
theorem dX9_plain_5 : decode cX9_plain 5 = .ok (.iload_n 2, 1) := by decide +kernel
theorem dX9_plain_6 : decode cX9_plain 6 = .ok (.if_icmp .ge 44, 3) := by decide +kernel
theorem dX9_plain_9 : decode cX9_plain 9 = .ok (.aload_n 0, 1) := by decide +kernel
theorem dX9_plain_10 : decode cX9_plain 10 = .ok (.getfield 152, 3) := by decide +kernel
theorem dX9_plain_13 : decode cX9_plain 13 = .ok (.iload 5, 2) := by decide +kernel
theorem dX9_plain_15 : decode cX9_plain 15 = .ok (.aload_n 0, 1) := by decide +kernel
theorem dX9_plain_16 : decode cX9_plain 16 = .ok (.iload_n 1, 1) := by decide +kernel
theorem dX9_plain_17 : decode cX9_plain 17 = .ok (.iload 5, 2) := by decide +kernel
theorem dX9_plain_19 : decode cX9_plain 19 = .ok (.aload_n 0, 1) := by decide +kernel
theorem dX9_plain_20 : decode cX9_plain 20 = .ok (.getfield 146, 3) := by decide +kernel
theorem dX9_plain_23 : decode cX9_plain 23 = .ok (.iload 5, 2) := by decide +kernel
theorem dX9_plain_25 : decode cX9_plain 25 = .ok (.daload, 1) := by decide +kernel
theorem dX9_plain_26 : decode cX9_plain 26 = .ok (.dload_n 3, 1) := by decide +kernel
theorem dX9_plain_27 : decode cX9_plain 27 = .ok (.aload_n 0, 1) := by decide +kernel
theorem dX9_plain_28 : decode cX9_plain 28 = .ok (.getfield 161, 3) := by decide +kernel
theorem dX9_plain_31 : decode cX9_plain 31 = .ok (.iload 5, 2) := by decide +kernel
theorem dX9_plain_33 : decode cX9_plain 33 = .ok (.daload, 1) := by decide +kernel
theorem dX9_plain_34 : decode cX9_plain 34 = .ok (.invokestatic 211, 3) := by decide +kernel
theorem dX9_plain_37 : decode cX9_plain 37 = .ok (.invokestatic 214, 3) := by decide +kernel
theorem dX9_plain_40 : decode cX9_plain 40 = .ok (.invokevirtual 281, 3) := by decide +kernel
theorem dX9_plain_43 : decode cX9_plain 43 = .ok (.dastore, 1) := by decide +kernel
theorem dX9_plain_44 : decode cX9_plain 44 = .ok (.iinc 5 1, 3) := by decide +kernel
theorem dX9_plain_47 : decode cX9_plain 47 = .ok (.goto (-44), 3) := by decide +kernel
theorem dX9_plain_50 : decode cX9_plain 50 = .ok (.return_, 1) := by decide +kernel
theorem dX9_byMiddle_0 : decode cX9_byMiddle 0 = .ok (.dload 5, 2) := by decide +kernel
theorem dX9_byMiddle_2 : decode cX9_byMiddle 2 = .ok (.ldc2_w 285, 3) := by decide +kernel
theorem dX9_byMiddle_5 : decode cX9_byMiddle 5 = .ok (.ddiv, 1) := by decide +kernel
theorem dX9_byMiddle_6 : decode cX9_byMiddle 6 = .ok (.dstore 7, 2) := by decide +kernel
theorem dX9_byMiddle_8 : decode cX9_byMiddle 8 = .ok (.iconst 0, 1) := by decide +kernel
theorem dX9_byMiddle_9 : decode cX9_byMiddle 9 = .ok (.istore 9, 2) := by decide +kernel
theorem dX9_byMiddle_11 : decode cX9_byMiddle 11 = .ok (.iload 9, 2) := by decide +kernel
theorem dX9_byMiddle_13 : decode cX9_byMiddle 13 = .ok (.iload_n 2, 1) := by decide +kernel
theorem dX9_byMiddle_14 : decode cX9_byMiddle 14 = .ok (.if_icmp .ge 45, 3) := by decide +kernel
theorem dX9_byMiddle_17 : decode cX9_byMiddle 17 = .ok (.aload_n 0, 1) := by decide +kernel
theorem dX9_byMiddle_18 : decode cX9_byMiddle 18 = .ok (.getfield 149, 3) := by decide +kernel
theorem dX9_byMiddle_21 : decode cX9_byMiddle 21 = .ok (.iload 9, 2) := by decide +kernel
theorem dX9_byMiddle_23 : decode cX9_byMiddle 23 = .ok (.aload_n 0, 1) := by decide +kernel
theorem dX9_byMiddle_24 : decode cX9_byMiddle 24 = .ok (.iload_n 1, 1) := by decide +kernel
theorem dX9_byMiddle_25 : decode cX9_byMiddle 25 = .ok (.iload 9, 2) := by decide +kernel
theorem dX9_byMiddle_27 : decode cX9_byMiddle 27 = .ok (.aload_n 0, 1) := by decide +kernel
theorem dX9_byMiddle_28 : decode cX9_byMiddle 28 = .ok (.getfield 146, 3) := by decide +kernel
theorem dX9_byMiddle_31 : decode cX9_byMiddle 31 = .ok (.iload 9, 2) := by decide +kernel
theorem dX9_byMiddle_33 : decode cX9_byMiddle 33 = .ok (.daload, 1) := by decide +kernel
theorem dX9_byMiddle_34 : decode cX9_byMiddle 34 = .ok (.dload 7, 2) := by decide +kernel
theorem dX9_byMiddle_36 : decode cX9_byMiddle 36 = .ok (.aload_n 0, 1) := by decide +kernel
theorem dX9_byMiddle_37 : decode cX9_byMiddle 37 = .ok (.getfield 161, 3) := by decide +kernel
theorem dX9_byMiddle_40 : decode cX9_byMiddle 40 = .ok (.iload 9, 2) := by decide +kernel
theorem dX9_byMiddle_42 : decode cX9_byMiddle 42 = .ok (.daload, 1) := by decide +kernel
theorem dX9_byMiddle_43 : decode cX9_byMiddle 43 = .ok (.invokestatic 211, 3) := by decide +kernel
theorem dX9_byMiddle_46 : decode cX9_byMiddle 46 = .ok (.invokestatic 214, 3) := by decide +kernel
theorem dX9_byMiddle_49 : decode cX9_byMiddle 49 = .ok (.invokevirtual 281, 3) := by decide +kernel
theorem dX9_byMiddle_52 : decode cX9_byMiddle 52 = .ok (.dastore, 1) := by decide +kernel
theorem dX9_byMiddle_53 : decode cX9_byMiddle 53 = .ok (.iinc 9 1, 3) := by decide +kernel
theorem dX9_byMiddle_56 : decode cX9_byMiddle 56 = .ok (.goto (-45), 3) := by decide +kernel
theorem dX9_byMiddle_59 : decode cX9_byMiddle 59 = .ok (.aload_n 0, 1) := by decide +kernel
theorem dX9_byMiddle_60 : decode cX9_byMiddle 60 = .ok (.iload_n 1, 1) := by decide +kernel
theorem dX9_byMiddle_61 : decode cX9_byMiddle 61 = .ok (.dload_n 3, 1) := by decide +kernel
theorem dX9_byMiddle_62 : decode cX9_byMiddle 62 = .ok (.dload 7, 2) := by decide +kernel
theorem dX9_byMiddle_64 : decode cX9_byMiddle 64 = .ok (.dadd, 1) := by decide +kernel
theorem dX9_byMiddle_65 : decode cX9_byMiddle 65 = .ok (.aload_n 0, 1) := by decide +kernel
theorem dX9_byMiddle_66 : decode cX9_byMiddle 66 = .ok (.getfield 149, 3) := by decide +kernel
theorem dX9_byMiddle_69 : decode cX9_byMiddle 69 = .ok (.aload_n 0, 1) := by decide +kernel
theorem dX9_byMiddle_70 : decode cX9_byMiddle 70 = .ok (.getfield 164, 3) := by decide +kernel
theorem dX9_byMiddle_73 : decode cX9_byMiddle 73 = .ok (.invokevirtual 254, 3) := by decide +kernel
theorem dX9_byMiddle_76 : decode cX9_byMiddle 76 = .ok (.iconst 0, 1) := by decide +kernel
theorem dX9_byMiddle_77 : decode cX9_byMiddle 77 = .ok (.istore 9, 2) := by decide +kernel
theorem dX9_byMiddle_79 : decode cX9_byMiddle 79 = .ok (.iload 9, 2) := by decide +kernel
theorem dX9_byMiddle_81 : decode cX9_byMiddle 81 = .ok (.iload_n 2, 1) := by decide +kernel
theorem dX9_byMiddle_82 : decode cX9_byMiddle 82 = .ok (.if_icmp .ge 45, 3) := by decide +kernel
theorem dX9_byMiddle_85 : decode cX9_byMiddle 85 = .ok (.aload_n 0, 1) := by decide +kernel
theorem dX9_byMiddle_86 : decode cX9_byMiddle 86 = .ok (.getfield 152, 3) := by decide +kernel
theorem dX9_byMiddle_89 : decode cX9_byMiddle 89 = .ok (.iload 9, 2) := by decide +kernel
theorem dX9_byMiddle_91 : decode cX9_byMiddle 91 = .ok (.aload_n 0, 1) := by decide +kernel
theorem dX9_byMiddle_92 : decode cX9_byMiddle 92 = .ok (.iload_n 1, 1) := by decide +kernel
theorem dX9_byMiddle_93 : decode cX9_byMiddle 93 = .ok (.iload 9, 2) := by decide +kernel
theorem dX9_byMiddle_95 : decode cX9_byMiddle 95 = .ok (.aload_n 0, 1) := by decide +kernel
theorem dX9_byMiddle_96 : decode cX9_byMiddle 96 = .ok (.getfield 146, 3) := by decide +kernel
theorem dX9_byMiddle_99 : decode cX9_byMiddle 99 = .ok (.iload 9, 2) := by decide +kernel
theorem dX9_byMiddle_101 : decode cX9_byMiddle 101 = .ok (.daload, 1) := by decide +kernel
theorem dX9_byMiddle_102 : decode cX9_byMiddle 102 = .ok (.dload 5, 2) := by decide +kernel
theorem dX9_byMiddle_104 : decode cX9_byMiddle 104 = .ok (.aload_n 0, 1) := by decide +kernel
theorem dX9_byMiddle_105 : decode cX9_byMiddle 105 = .ok (.getfield 164, 3) := by decide +kernel
theorem dX9_byMiddle_108 : decode cX9_byMiddle 108 = .ok (.iload 9, 2) := by decide +kernel
theorem dX9_byMiddle_110 : decode cX9_byMiddle 110 = .ok (.daload, 1) := by decide +kernel
theorem dX9_byMiddle_111 : decode cX9_byMiddle 111 = .ok (.invokestatic 211, 3) := by decide +kernel
theorem dX9_byMiddle_114 : decode cX9_byMiddle 114 = .ok (.invokestatic 214, 3) := by decide +kernel
theorem dX9_byMiddle_117 : decode cX9_byMiddle 117 = .ok (.invokevirtual 281, 3) := by decide +kernel
theorem dX9_byMiddle_120 : decode cX9_byMiddle 120 = .ok (.dastore, 1) := by decide +kernel
theorem dX9_byMiddle_121 : decode cX9_byMiddle 121 = .ok (.iinc 9 1, 3) := by decide +kernel
theorem dX9_byMiddle_124 : decode cX9_byMiddle 124 = .ok (.goto (-45), 3) := by decide +kernel
theorem dX9_byMiddle_127 : decode cX9_byMiddle 127 = .ok (.return_, 1) := by decide +kernel
theorem dX9_third_0 : decode cX9_third 0 = .ok (.dload 5, 2) := by decide +kernel
theorem dX9_third_2 : decode cX9_third 2 = .ok (.ldc2_w 285, 3) := by decide +kernel
theorem dX9_third_5 : decode cX9_third 5 = .ok (.ddiv, 1) := by decide +kernel
theorem dX9_third_6 : decode cX9_third 6 = .ok (.dstore 7, 2) := by decide +kernel
theorem dX9_third_8 : decode cX9_third 8 = .ok (.iconst 0, 1) := by decide +kernel
theorem dX9_third_9 : decode cX9_third 9 = .ok (.istore 9, 2) := by decide +kernel
theorem dX9_third_11 : decode cX9_third 11 = .ok (.iload 9, 2) := by decide +kernel
theorem dX9_third_13 : decode cX9_third 13 = .ok (.iload_n 2, 1) := by decide +kernel
theorem dX9_third_14 : decode cX9_third 14 = .ok (.if_icmp .ge 45, 3) := by decide +kernel
theorem dX9_third_17 : decode cX9_third 17 = .ok (.aload_n 0, 1) := by decide +kernel
theorem dX9_third_18 : decode cX9_third 18 = .ok (.getfield 149, 3) := by decide +kernel
theorem dX9_third_21 : decode cX9_third 21 = .ok (.iload 9, 2) := by decide +kernel
theorem dX9_third_23 : decode cX9_third 23 = .ok (.aload_n 0, 1) := by decide +kernel
theorem dX9_third_24 : decode cX9_third 24 = .ok (.iload_n 1, 1) := by decide +kernel
theorem dX9_third_25 : decode cX9_third 25 = .ok (.iload 9, 2) := by decide +kernel
theorem dX9_third_27 : decode cX9_third 27 = .ok (.aload_n 0, 1) := by decide +kernel
theorem dX9_third_28 : decode cX9_third 28 = .ok (.getfield 146, 3) := by decide +kernel
theorem dX9_third_31 : decode cX9_third 31 = .ok (.iload 9, 2) := by decide +kernel
theorem dX9_third_33 : decode cX9_third 33 = .ok (.daload, 1) := by decide +kernel
theorem dX9_third_34 : decode cX9_third 34 = .ok (.dload 7, 2) := by decide +kernel
theorem dX9_third_36 : decode cX9_third 36 = .ok (.aload_n 0, 1) := by decide +kernel
theorem dX9_third_37 : decode cX9_third 37 = .ok (.getfield 161, 3) := by decide +kernel
theorem dX9_third_40 : decode cX9_third 40 = .ok (.iload 9, 2) := by decide +kernel
theorem dX9_third_42 : decode cX9_third 42 = .ok (.daload, 1) := by decide +kernel
theorem dX9_third_43 : decode cX9_third 43 = .ok (.invokestatic 211, 3) := by decide +kernel
theorem dX9_third_46 : decode cX9_third 46 = .ok (.invokestatic 214, 3) := by decide +kernel
theorem dX9_third_49 : decode cX9_third 49 = .ok (.invokevirtual 281, 3) := by decide +kernel
theorem dX9_third_52 : decode cX9_third 52 = .ok (.dastore, 1) := by decide +kernel
theorem dX9_third_53 : decode cX9_third 53 = .ok (.iinc 9 1, 3) := by decide +kernel
theorem dX9_third_56 : decode cX9_third 56 = .ok (.goto (-45), 3) := by decide +kernel
theorem dX9_third_59 : decode cX9_third 59 = .ok (.aload_n 0, 1) := by decide +kernel
theorem dX9_third_60 : decode cX9_third 60 = .ok (.iload_n 1, 1) := by decide +kernel
theorem dX9_third_61 : decode cX9_third 61 = .ok (.dload_n 3, 1) := by decide +kernel
theorem dX9_third_62 : decode cX9_third 62 = .ok (.dload 7, 2) := by decide +kernel
theorem dX9_third_64 : decode cX9_third 64 = .ok (.dadd, 1) := by decide +kernel
theorem dX9_third_65 : decode cX9_third 65 = .ok (.aload_n 0, 1) := by decide +kernel
theorem dX9_third_66 : decode cX9_third 66 = .ok (.getfield 149, 3) := by decide +kernel
theorem dX9_third_69 : decode cX9_third 69 = .ok (.aload_n 0, 1) := by decide +kernel
theorem dX9_third_70 : decode cX9_third 70 = .ok (.getfield 164, 3) := by decide +kernel
theorem dX9_third_73 : decode cX9_third 73 = .ok (.invokevirtual 254, 3) := by decide +kernel
theorem dX9_third_76 : decode cX9_third 76 = .ok (.iconst 0, 1) := by decide +kernel
theorem dX9_third_77 : decode cX9_third 77 = .ok (.istore 9, 2) := by decide +kernel
theorem dX9_third_79 : decode cX9_third 79 = .ok (.iload 9, 2) := by decide +kernel
theorem dX9_third_81 : decode cX9_third 81 = .ok (.iload_n 2, 1) := by decide +kernel
theorem dX9_third_82 : decode cX9_third 82 = .ok (.if_icmp .ge 61, 3) := by decide +kernel
theorem dX9_third_85 : decode cX9_third 85 = .ok (.aload_n 0, 1) := by decide +kernel
theorem dX9_third_86 : decode cX9_third 86 = .ok (.getfield 149, 3) := by decide +kernel
theorem dX9_third_89 : decode cX9_third 89 = .ok (.iload 9, 2) := by decide +kernel
theorem dX9_third_91 : decode cX9_third 91 = .ok (.aload_n 0, 1) := by decide +kernel
theorem dX9_third_92 : decode cX9_third 92 = .ok (.iload_n 1, 1) := by decide +kernel
theorem dX9_third_93 : decode cX9_third 93 = .ok (.iload 9, 2) := by decide +kernel
theorem dX9_third_95 : decode cX9_third 95 = .ok (.aload_n 0, 1) := by decide +kernel
theorem dX9_third_96 : decode cX9_third 96 = .ok (.getfield 146, 3) := by decide +kernel
theorem dX9_third_99 : decode cX9_third 99 = .ok (.iload 9, 2) := by decide +kernel
theorem dX9_third_101 : decode cX9_third 101 = .ok (.daload, 1) := by decide +kernel
theorem dX9_third_102 : decode cX9_third 102 = .ok (.dload 5, 2) := by decide +kernel
theorem dX9_third_104 : decode cX9_third 104 = .ok (.ldc2_w 285, 3) := by decide +kernel
theorem dX9_third_107 : decode cX9_third 107 = .ok (.aload_n 0, 1) := by decide +kernel
theorem dX9_third_108 : decode cX9_third 108 = .ok (.getfield 164, 3) := by decide +kernel
theorem dX9_third_111 : decode cX9_third 111 = .ok (.iload 9, 2) := by decide +kernel
theorem dX9_third_113 : decode cX9_third 113 = .ok (.daload, 1) := by decide +kernel
theorem dX9_third_114 : decode cX9_third 114 = .ok (.invokestatic 211, 3) := by decide +kernel
theorem dX9_third_117 : decode cX9_third 117 = .ok (.aload_n 0, 1) := by decide +kernel
theorem dX9_third_118 : decode cX9_third 118 = .ok (.getfield 161, 3) := by decide +kernel
theorem dX9_third_121 : decode cX9_third 121 = .ok (.iload 9, 2) := by decide +kernel
theorem dX9_third_123 : decode cX9_third 123 = .ok (.daload, 1) := by decide +kernel
theorem dX9_third_124 : decode cX9_third 124 = .ok (.invokestatic 204, 3) := by decide +kernel
theorem dX9_third_127 : decode cX9_third 127 = .ok (.invokestatic 211, 3) := by decide +kernel
theorem dX9_third_130 : decode cX9_third 130 = .ok (.invokestatic 214, 3) := by decide +kernel
theorem dX9_third_133 : decode cX9_third 133 = .ok (.invokevirtual 281, 3) := by decide +kernel
theorem dX9_third_136 : decode cX9_third 136 = .ok (.dastore, 1) := by decide +kernel
theorem dX9_third_137 : decode cX9_third 137 = .ok (.iinc 9 1, 3) := by decide +kernel
theorem dX9_third_140 : decode cX9_third 140 = .ok (.goto (-61), 3) := by decide +kernel
theorem dX9_third_143 : decode cX9_third 143 = .ok (.aload_n 0, 1) := by decide +kernel
theorem dX9_third_144 : decode cX9_third 144 = .ok (.iload_n 1, 1) := by decide +kernel
theorem dX9_third_145 : decode cX9_third 145 = .ok (.dload_n 3, 1) := by decide +kernel
theorem dX9_third_146 : decode cX9_third 146 = .ok (.dload 5, 2) := by decide +kernel
theorem dX9_third_148 : decode cX9_third 148 = .ok (.dadd, 1) := by decide +kernel
theorem dX9_third_149 : decode cX9_third 149 = .ok (.aload_n 0, 1) := by decide +kernel
theorem dX9_third_150 : decode cX9_third 150 = .ok (.getfield 149, 3) := by decide +kernel
theorem dX9_third_153 : decode cX9_third 153 = .ok (.aload_n 0, 1) := by decide +kernel
theorem dX9_third_154 : decode cX9_third 154 = .ok (.getfield 167, 3) := by decide +kernel
theorem dX9_third_157 : decode cX9_third 157 = .ok (.invokevirtual 254, 3) := by decide +kernel
theorem dX9_third_160 : decode cX9_third 160 = .ok (.iconst 0, 1) := by decide +kernel
theorem dX9_third_161 : decode cX9_third 161 = .ok (.istore 9, 2) := by decide +kernel
theorem dX9_third_163 : decode cX9_third 163 = .ok (.iload 9, 2) := by decide +kernel
theorem dX9_third_165 : decode cX9_third 165 = .ok (.iload_n 2, 1) := by decide +kernel
theorem dX9_third_166 : decode cX9_third 166 = .ok (.if_icmp .ge 75, 3) := by decide +kernel
theorem dX9_third_169 : decode cX9_third 169 = .ok (.aload_n 0, 1) := by decide +kernel
theorem dX9_third_170 : decode cX9_third 170 = .ok (.getfield 152, 3) := by decide +kernel
theorem dX9_third_173 : decode cX9_third 173 = .ok (.iload 9, 2) := by decide +kernel
theorem dX9_third_175 : decode cX9_third 175 = .ok (.aload_n 0, 1) := by decide +kernel
theorem dX9_third_176 : decode cX9_third 176 = .ok (.iload_n 1, 1) := by decide +kernel
theorem dX9_third_177 : decode cX9_third 177 = .ok (.iload 9, 2) := by decide +kernel
theorem dX9_third_179 : decode cX9_third 179 = .ok (.aload_n 0, 1) := by decide +kernel
theorem dX9_third_180 : decode cX9_third 180 = .ok (.getfield 146, 3) := by decide +kernel
theorem dX9_third_183 : decode cX9_third 183 = .ok (.iload 9, 2) := by decide +kernel
theorem dX9_third_185 : decode cX9_third 185 = .ok (.daload, 1) := by decide +kernel
theorem dX9_third_186 : decode cX9_third 186 = .ok (.dload 5, 2) := by decide +kernel
theorem dX9_third_188 : decode cX9_third 188 = .ok (.ldc2_w 287, 3) := by decide +kernel
theorem dX9_third_191 : decode cX9_third 191 = .ok (.ddiv, 1) := by decide +kernel
theorem dX9_third_192 : decode cX9_third 192 = .ok (.aload_n 0, 1) := by decide +kernel
theorem dX9_third_193 : decode cX9_third 193 = .ok (.getfield 161, 3) := by decide +kernel
theorem dX9_third_196 : decode cX9_third 196 = .ok (.iload 9, 2) := by decide +kernel
theorem dX9_third_198 : decode cX9_third 198 = .ok (.daload, 1) := by decide +kernel
theorem dX9_third_199 : decode cX9_third 199 = .ok (.ldc2_w 289, 3) := by decide +kernel
theorem dX9_third_202 : decode cX9_third 202 = .ok (.aload_n 0, 1) := by decide +kernel
theorem dX9_third_203 : decode cX9_third 203 = .ok (.getfield 164, 3) := by decide +kernel
theorem dX9_third_206 : decode cX9_third 206 = .ok (.iload 9, 2) := by decide +kernel
theorem dX9_third_208 : decode cX9_third 208 = .ok (.daload, 1) := by decide +kernel
theorem dX9_third_209 : decode cX9_third 209 = .ok (.invokestatic 211, 3) := by decide +kernel
theorem dX9_third_212 : decode cX9_third 212 = .ok (.invokestatic 214, 3) := by decide +kernel
theorem dX9_third_215 : decode cX9_third 215 = .ok (.aload_n 0, 1) := by decide +kernel
theorem dX9_third_216 : decode cX9_third 216 = .ok (.getfield 167, 3) := by decide +kernel
theorem dX9_third_219 : decode cX9_third 219 = .ok (.iload 9, 2) := by decide +kernel
theorem dX9_third_221 : decode cX9_third 221 = .ok (.daload, 1) := by decide +kernel
theorem dX9_third_222 : decode cX9_third 222 = .ok (.invokestatic 214, 3) := by decide +kernel
theorem dX9_third_225 : decode cX9_third 225 = .ok (.invokestatic 211, 3) := by decide +kernel
theorem dX9_third_228 : decode cX9_third 228 = .ok (.invokestatic 214, 3) := by decide +kernel
theorem dX9_third_231 : decode cX9_third 231 = .ok (.invokevirtual 281, 3) := by decide +kernel
theorem dX9_third_234 : decode cX9_third 234 = .ok (.dastore, 1) := by decide +kernel
theorem dX9_third_235 : decode cX9_third 235 = .ok (.iinc 9 1, 3) := by decide +kernel
theorem dX9_third_238 : decode cX9_third 238 = .ok (.goto (-75), 3) := by decide +kernel
theorem dX9_third_241 : decode cX9_third 241 = .ok (.return_, 1) := by decide +kernel
theorem dX9_fourth_0 : decode cX9_fourth 0 = .ok (.dload 5, 2) := by decide +kernel
theorem dX9_fourth_2 : decode cX9_fourth 2 = .ok (.ldc2_w 285, 3) := by decide +kernel
theorem dX9_fourth_5 : decode cX9_fourth 5 = .ok (.ddiv, 1) := by decide +kernel
theorem dX9_fourth_6 : decode cX9_fourth 6 = .ok (.dstore 7, 2) := by decide +kernel
theorem dX9_fourth_8 : decode cX9_fourth 8 = .ok (.iconst 0, 1) := by decide +kernel
theorem dX9_fourth_9 : decode cX9_fourth 9 = .ok (.istore 9, 2) := by decide +kernel
theorem dX9_fourth_11 : decode cX9_fourth 11 = .ok (.iload 9, 2) := by decide +kernel
theorem dX9_fourth_13 : decode cX9_fourth 13 = .ok (.iload_n 2, 1) := by decide +kernel
theorem dX9_fourth_14 : decode cX9_fourth 14 = .ok (.if_icmp .ge 45, 3) := by decide +kernel
theorem dX9_fourth_17 : decode cX9_fourth 17 = .ok (.aload_n 0, 1) := by decide +kernel
theorem dX9_fourth_18 : decode cX9_fourth 18 = .ok (.getfield 149, 3) := by decide +kernel
theorem dX9_fourth_21 : decode cX9_fourth 21 = .ok (.iload 9, 2) := by decide +kernel
theorem dX9_fourth_23 : decode cX9_fourth 23 = .ok (.aload_n 0, 1) := by decide +kernel
theorem dX9_fourth_24 : decode cX9_fourth 24 = .ok (.iload_n 1, 1) := by decide +kernel
theorem dX9_fourth_25 : decode cX9_fourth 25 = .ok (.iload 9, 2) := by decide +kernel
theorem dX9_fourth_27 : decode cX9_fourth 27 = .ok (.aload_n 0, 1) := by decide +kernel
theorem dX9_fourth_28 : decode cX9_fourth 28 = .ok (.getfield 146, 3) := by decide +kernel
theorem dX9_fourth_31 : decode cX9_fourth 31 = .ok (.iload 9, 2) := by decide +kernel
theorem dX9_fourth_33 : decode cX9_fourth 33 = .ok (.daload, 1) := by decide +kernel
theorem dX9_fourth_34 : decode cX9_fourth 34 = .ok (.dload 7, 2) := by decide +kernel
theorem dX9_fourth_36 : decode cX9_fourth 36 = .ok (.aload_n 0, 1) := by decide +kernel
theorem dX9_fourth_37 : decode cX9_fourth 37 = .ok (.getfield 161, 3) := by decide +kernel
theorem dX9_fourth_40 : decode cX9_fourth 40 = .ok (.iload 9, 2) := by decide +kernel
theorem dX9_fourth_42 : decode cX9_fourth 42 = .ok (.daload, 1) := by decide +kernel
theorem dX9_fourth_43 : decode cX9_fourth 43 = .ok (.invokestatic 211, 3) := by decide +kernel
theorem dX9_fourth_46 : decode cX9_fourth 46 = .ok (.invokestatic 214, 3) := by decide +kernel
theorem dX9_fourth_49 : decode cX9_fourth 49 = .ok (.invokevirtual 281, 3) := by decide +kernel
theorem dX9_fourth_52 : decode cX9_fourth 52 = .ok (.dastore, 1) := by decide +kernel
theorem dX9_fourth_53 : decode cX9_fourth 53 = .ok (.iinc 9 1, 3) := by decide +kernel
theorem dX9_fourth_56 : decode cX9_fourth 56 = .ok (.goto (-45), 3) := by decide +kernel
theorem dX9_fourth_59 : decode cX9_fourth 59 = .ok (.aload_n 0, 1) := by decide +kernel
theorem dX9_fourth_60 : decode cX9_fourth 60 = .ok (.iload_n 1, 1) := by decide +kernel
theorem dX9_fourth_61 : decode cX9_fourth 61 = .ok (.dload_n 3, 1) := by decide +kernel
theorem dX9_fourth_62 : decode cX9_fourth 62 = .ok (.dload 7, 2) := by decide +kernel
theorem dX9_fourth_64 : decode cX9_fourth 64 = .ok (.dadd, 1) := by decide +kernel
theorem dX9_fourth_65 : decode cX9_fourth 65 = .ok (.aload_n 0, 1) := by decide +kernel
theorem dX9_fourth_66 : decode cX9_fourth 66 = .ok (.getfield 149, 3) := by decide +kernel
theorem dX9_fourth_69 : decode cX9_fourth 69 = .ok (.aload_n 0, 1) := by decide +kernel
theorem dX9_fourth_70 : decode cX9_fourth 70 = .ok (.getfield 164, 3) := by decide +kernel
theorem dX9_fourth_73 : decode cX9_fourth 73 = .ok (.invokevirtual 254, 3) := by decide +kernel
theorem dX9_fourth_76 : decode cX9_fourth 76 = .ok (.iconst 0, 1) := by decide +kernel
theorem dX9_fourth_77 : decode cX9_fourth 77 = .ok (.istore 9, 2) := by decide +kernel
theorem dX9_fourth_79 : decode cX9_fourth 79 = .ok (.iload 9, 2) := by decide +kernel
theorem dX9_fourth_81 : decode cX9_fourth 81 = .ok (.iload_n 2, 1) := by decide +kernel
theorem dX9_fourth_82 : decode cX9_fourth 82 = .ok (.if_icmp .ge 45, 3) := by decide +kernel
theorem dX9_fourth_85 : decode cX9_fourth 85 = .ok (.aload_n 0, 1) := by decide +kernel
theorem dX9_fourth_86 : decode cX9_fourth 86 = .ok (.getfield 149, 3) := by decide +kernel
theorem dX9_fourth_89 : decode cX9_fourth 89 = .ok (.iload 9, 2) := by decide +kernel
theorem dX9_fourth_91 : decode cX9_fourth 91 = .ok (.aload_n 0, 1) := by decide +kernel
theorem dX9_fourth_92 : decode cX9_fourth 92 = .ok (.iload_n 1, 1) := by decide +kernel
theorem dX9_fourth_93 : decode cX9_fourth 93 = .ok (.iload 9, 2) := by decide +kernel
theorem dX9_fourth_95 : decode cX9_fourth 95 = .ok (.aload_n 0, 1) := by decide +kernel
theorem dX9_fourth_96 : decode cX9_fourth 96 = .ok (.getfield 146, 3) := by decide +kernel
theorem dX9_fourth_99 : decode cX9_fourth 99 = .ok (.iload 9, 2) := by decide +kernel
theorem dX9_fourth_101 : decode cX9_fourth 101 = .ok (.daload, 1) := by decide +kernel
theorem dX9_fourth_102 : decode cX9_fourth 102 = .ok (.dload 7, 2) := by decide +kernel
theorem dX9_fourth_104 : decode cX9_fourth 104 = .ok (.aload_n 0, 1) := by decide +kernel
theorem dX9_fourth_105 : decode cX9_fourth 105 = .ok (.getfield 164, 3) := by decide +kernel
theorem dX9_fourth_108 : decode cX9_fourth 108 = .ok (.iload 9, 2) := by decide +kernel
theorem dX9_fourth_110 : decode cX9_fourth 110 = .ok (.daload, 1) := by decide +kernel
theorem dX9_fourth_111 : decode cX9_fourth 111 = .ok (.invokestatic 211, 3) := by decide +kernel
theorem dX9_fourth_114 : decode cX9_fourth 114 = .ok (.invokestatic 214, 3) := by decide +kernel
theorem dX9_fourth_117 : decode cX9_fourth 117 = .ok (.invokevirtual 281, 3) := by decide +kernel
theorem dX9_fourth_120 : decode cX9_fourth 120 = .ok (.dastore, 1) := by decide +kernel
theorem dX9_fourth_121 : decode cX9_fourth 121 = .ok (.iinc 9 1, 3) := by decide +kernel
theorem dX9_fourth_124 : decode cX9_fourth 124 = .ok (.goto (-45), 3) := by decide +kernel
theorem dX9_fourth_127 : decode cX9_fourth 127 = .ok (.aload_n 0, 1) := by decide +kernel
theorem dX9_fourth_128 : decode cX9_fourth 128 = .ok (.iload_n 1, 1) := by decide +kernel
theorem dX9_fourth_129 : decode cX9_fourth 129 = .ok (.dload_n 3, 1) := by decide +kernel
theorem dX9_fourth_130 : decode cX9_fourth 130 = .ok (.dload 7, 2) := by decide +kernel
theorem dX9_fourth_132 : decode cX9_fourth 132 = .ok (.dadd, 1) := by decide +kernel
theorem dX9_fourth_133 : decode cX9_fourth 133 = .ok (.aload_n 0, 1) := by decide +kernel
theorem dX9_fourth_134 : decode cX9_fourth 134 = .ok (.getfield 149, 3) := by decide +kernel
theorem dX9_fourth_137 : decode cX9_fourth 137 = .ok (.aload_n 0, 1) := by decide +kernel
theorem dX9_fourth_138 : decode cX9_fourth 138 = .ok (.getfield 167, 3) := by decide +kernel
theorem dX9_fourth_141 : decode cX9_fourth 141 = .ok (.invokevirtual 254, 3) := by decide +kernel
theorem dX9_fourth_144 : decode cX9_fourth 144 = .ok (.iconst 0, 1) := by decide +kernel
theorem dX9_fourth_145 : decode cX9_fourth 145 = .ok (.istore 9, 2) := by decide +kernel
theorem dX9_fourth_147 : decode cX9_fourth 147 = .ok (.iload 9, 2) := by decide +kernel
theorem dX9_fourth_149 : decode cX9_fourth 149 = .ok (.iload_n 2, 1) := by decide +kernel
theorem dX9_fourth_150 : decode cX9_fourth 150 = .ok (.if_icmp .ge 45, 3) := by decide +kernel
theorem dX9_fourth_153 : decode cX9_fourth 153 = .ok (.aload_n 0, 1) := by decide +kernel
theorem dX9_fourth_154 : decode cX9_fourth 154 = .ok (.getfield 149, 3) := by decide +kernel
theorem dX9_fourth_157 : decode cX9_fourth 157 = .ok (.iload 9, 2) := by decide +kernel
theorem dX9_fourth_159 : decode cX9_fourth 159 = .ok (.aload_n 0, 1) := by decide +kernel
theorem dX9_fourth_160 : decode cX9_fourth 160 = .ok (.iload_n 1, 1) := by decide +kernel
theorem dX9_fourth_161 : decode cX9_fourth 161 = .ok (.iload 9, 2) := by decide +kernel
theorem dX9_fourth_163 : decode cX9_fourth 163 = .ok (.aload_n 0, 1) := by decide +kernel
theorem dX9_fourth_164 : decode cX9_fourth 164 = .ok (.getfield 146, 3) := by decide +kernel
theorem dX9_fourth_167 : decode cX9_fourth 167 = .ok (.iload 9, 2) := by decide +kernel
theorem dX9_fourth_169 : decode cX9_fourth 169 = .ok (.daload, 1) := by decide +kernel
theorem dX9_fourth_170 : decode cX9_fourth 170 = .ok (.dload 5, 2) := by decide +kernel
theorem dX9_fourth_172 : decode cX9_fourth 172 = .ok (.aload_n 0, 1) := by decide +kernel
theorem dX9_fourth_173 : decode cX9_fourth 173 = .ok (.getfield 167, 3) := by decide +kernel
theorem dX9_fourth_176 : decode cX9_fourth 176 = .ok (.iload 9, 2) := by decide +kernel
theorem dX9_fourth_178 : decode cX9_fourth 178 = .ok (.daload, 1) := by decide +kernel
theorem dX9_fourth_179 : decode cX9_fourth 179 = .ok (.invokestatic 211, 3) := by decide +kernel
theorem dX9_fourth_182 : decode cX9_fourth 182 = .ok (.invokestatic 214, 3) := by decide +kernel
theorem dX9_fourth_185 : decode cX9_fourth 185 = .ok (.invokevirtual 281, 3) := by decide +kernel
theorem dX9_fourth_188 : decode cX9_fourth 188 = .ok (.dastore, 1) := by decide +kernel
theorem dX9_fourth_189 : decode cX9_fourth 189 = .ok (.iinc 9 1, 3) := by decide +kernel
theorem dX9_fourth_192 : decode cX9_fourth 192 = .ok (.goto (-45), 3) := by decide +kernel
theorem dX9_fourth_195 : decode cX9_fourth 195 = .ok (.aload_n 0, 1) := by decide +kernel
theorem dX9_fourth_196 : decode cX9_fourth 196 = .ok (.iload_n 1, 1) := by decide +kernel
theorem dX9_fourth_197 : decode cX9_fourth 197 = .ok (.dload_n 3, 1) := by decide +kernel
theorem dX9_fourth_198 : decode cX9_fourth 198 = .ok (.dload 5, 2) := by decide +kernel
theorem dX9_fourth_200 : decode cX9_fourth 200 = .ok (.dadd, 1) := by decide +kernel
theorem dX9_fourth_201 : decode cX9_fourth 201 = .ok (.aload_n 0, 1) := by decide +kernel
theorem dX9_fourth_202 : decode cX9_fourth 202 = .ok (.getfield 149, 3) := by decide +kernel
theorem dX9_fourth_205 : decode cX9_fourth 205 = .ok (.aload_n 0, 1) := by decide +kernel
theorem dX9_fourth_206 : decode cX9_fourth 206 = .ok (.getfield 170, 3) := by decide +kernel
theorem dX9_fourth_209 : decode cX9_fourth 209 = .ok (.invokevirtual 254, 3) := by decide +kernel
theorem dX9_fourth_212 : decode cX9_fourth 212 = .ok (.iconst 0, 1) := by decide +kernel
theorem dX9_fourth_213 : decode cX9_fourth 213 = .ok (.istore 9, 2) := by decide +kernel
theorem dX9_fourth_215 : decode cX9_fourth 215 = .ok (.iload 9, 2) := by decide +kernel
theorem dX9_fourth_217 : decode cX9_fourth 217 = .ok (.iload_n 2, 1) := by decide +kernel
theorem dX9_fourth_218 : decode cX9_fourth 218 = .ok (.if_icmp .ge 91, 3) := by decide +kernel
theorem dX9_fourth_221 : decode cX9_fourth 221 = .ok (.aload_n 0, 1) := by decide +kernel
theorem dX9_fourth_222 : decode cX9_fourth 222 = .ok (.getfield 152, 3) := by decide +kernel
theorem dX9_fourth_225 : decode cX9_fourth 225 = .ok (.iload 9, 2) := by decide +kernel
theorem dX9_fourth_227 : decode cX9_fourth 227 = .ok (.aload_n 0, 1) := by decide +kernel
theorem dX9_fourth_228 : decode cX9_fourth 228 = .ok (.iload_n 1, 1) := by decide +kernel
theorem dX9_fourth_229 : decode cX9_fourth 229 = .ok (.iload 9, 2) := by decide +kernel
theorem dX9_fourth_231 : decode cX9_fourth 231 = .ok (.aload_n 0, 1) := by decide +kernel
theorem dX9_fourth_232 : decode cX9_fourth 232 = .ok (.getfield 146, 3) := by decide +kernel
theorem dX9_fourth_235 : decode cX9_fourth 235 = .ok (.iload 9, 2) := by decide +kernel
theorem dX9_fourth_237 : decode cX9_fourth 237 = .ok (.daload, 1) := by decide +kernel
theorem dX9_fourth_238 : decode cX9_fourth 238 = .ok (.dload 5, 2) := by decide +kernel
theorem dX9_fourth_240 : decode cX9_fourth 240 = .ok (.ldc2_w 287, 3) := by decide +kernel
theorem dX9_fourth_243 : decode cX9_fourth 243 = .ok (.ddiv, 1) := by decide +kernel
theorem dX9_fourth_244 : decode cX9_fourth 244 = .ok (.aload_n 0, 1) := by decide +kernel
theorem dX9_fourth_245 : decode cX9_fourth 245 = .ok (.getfield 161, 3) := by decide +kernel
theorem dX9_fourth_248 : decode cX9_fourth 248 = .ok (.iload 9, 2) := by decide +kernel
theorem dX9_fourth_250 : decode cX9_fourth 250 = .ok (.daload, 1) := by decide +kernel
theorem dX9_fourth_251 : decode cX9_fourth 251 = .ok (.ldc2_w 285, 3) := by decide +kernel
theorem dX9_fourth_254 : decode cX9_fourth 254 = .ok (.aload_n 0, 1) := by decide +kernel
theorem dX9_fourth_255 : decode cX9_fourth 255 = .ok (.getfield 164, 3) := by decide +kernel
theorem dX9_fourth_258 : decode cX9_fourth 258 = .ok (.iload 9, 2) := by decide +kernel
theorem dX9_fourth_260 : decode cX9_fourth 260 = .ok (.daload, 1) := by decide +kernel
theorem dX9_fourth_261 : decode cX9_fourth 261 = .ok (.invokestatic 211, 3) := by decide +kernel
theorem dX9_fourth_264 : decode cX9_fourth 264 = .ok (.invokestatic 214, 3) := by decide +kernel
theorem dX9_fourth_267 : decode cX9_fourth 267 = .ok (.ldc2_w 285, 3) := by decide +kernel
theorem dX9_fourth_270 : decode cX9_fourth 270 = .ok (.aload_n 0, 1) := by decide +kernel
theorem dX9_fourth_271 : decode cX9_fourth 271 = .ok (.getfield 167, 3) := by decide +kernel
theorem dX9_fourth_274 : decode cX9_fourth 274 = .ok (.iload 9, 2) := by decide +kernel
theorem dX9_fourth_276 : decode cX9_fourth 276 = .ok (.daload, 1) := by decide +kernel
theorem dX9_fourth_277 : decode cX9_fourth 277 = .ok (.invokestatic 211, 3) := by decide +kernel
theorem dX9_fourth_280 : decode cX9_fourth 280 = .ok (.invokestatic 214, 3) := by decide +kernel
theorem dX9_fourth_283 : decode cX9_fourth 283 = .ok (.aload_n 0, 1) := by decide +kernel
theorem dX9_fourth_284 : decode cX9_fourth 284 = .ok (.getfield 170, 3) := by decide +kernel
theorem dX9_fourth_287 : decode cX9_fourth 287 = .ok (.iload 9, 2) := by decide +kernel
theorem dX9_fourth_289 : decode cX9_fourth 289 = .ok (.daload, 1) := by decide +kernel
theorem dX9_fourth_290 : decode cX9_fourth 290 = .ok (.invokestatic 214, 3) := by decide +kernel
theorem dX9_fourth_293 : decode cX9_fourth 293 = .ok (.invokestatic 211, 3) := by decide +kernel
theorem dX9_fourth_296 : decode cX9_fourth 296 = .ok (.invokestatic 214, 3) := by decide +kernel
theorem dX9_fourth_299 : decode cX9_fourth 299 = .ok (.invokevirtual 281, 3) := by decide +kernel
theorem dX9_fourth_302 : decode cX9_fourth 302 = .ok (.dastore, 1) := by decide +kernel
theorem dX9_fourth_303 : decode cX9_fourth 303 = .ok (.iinc 9 1, 3) := by decide +kernel
theorem dX9_fourth_306 : decode cX9_fourth 306 = .ok (.goto (-91), 3) := by decide +kernel
theorem dX9_fourth_309 : decode cX9_fourth 309 = .ok (.return_, 1) := by decide +kernel
theorem dX9_pair_0 : decode cX9_pair 0 = .ok (.dload 5, 2) := by decide +kernel
theorem dX9_pair_2 : decode cX9_pair 2 = .ok (.ldc2_w 285, 3) := by decide +kernel
theorem dX9_pair_5 : decode cX9_pair 5 = .ok (.ddiv, 1) := by decide +kernel
theorem dX9_pair_6 : decode cX9_pair 6 = .ok (.dstore 7, 2) := by decide +kernel
theorem dX9_pair_8 : decode cX9_pair 8 = .ok (.ldc2_w 291, 3) := by decide +kernel
theorem dX9_pair_11 : decode cX9_pair 11 = .ok (.dload 5, 2) := by decide +kernel
theorem dX9_pair_13 : decode cX9_pair 13 = .ok (.dmul, 1) := by decide +kernel
theorem dX9_pair_14 : decode cX9_pair 14 = .ok (.ldc2_w 289, 3) := by decide +kernel
theorem dX9_pair_17 : decode cX9_pair 17 = .ok (.ddiv, 1) := by decide +kernel
theorem dX9_pair_18 : decode cX9_pair 18 = .ok (.dstore 9, 2) := by decide +kernel
theorem dX9_pair_20 : decode cX9_pair 20 = .ok (.iconst 0, 1) := by decide +kernel
theorem dX9_pair_21 : decode cX9_pair 21 = .ok (.istore 11, 2) := by decide +kernel
theorem dX9_pair_23 : decode cX9_pair 23 = .ok (.iload 11, 2) := by decide +kernel
theorem dX9_pair_25 : decode cX9_pair 25 = .ok (.iload_n 2, 1) := by decide +kernel
theorem dX9_pair_26 : decode cX9_pair 26 = .ok (.if_icmp .ge 45, 3) := by decide +kernel
theorem dX9_pair_29 : decode cX9_pair 29 = .ok (.aload_n 0, 1) := by decide +kernel
theorem dX9_pair_30 : decode cX9_pair 30 = .ok (.getfield 149, 3) := by decide +kernel
theorem dX9_pair_33 : decode cX9_pair 33 = .ok (.iload 11, 2) := by decide +kernel
theorem dX9_pair_35 : decode cX9_pair 35 = .ok (.aload_n 0, 1) := by decide +kernel
theorem dX9_pair_36 : decode cX9_pair 36 = .ok (.iload_n 1, 1) := by decide +kernel
theorem dX9_pair_37 : decode cX9_pair 37 = .ok (.iload 11, 2) := by decide +kernel
theorem dX9_pair_39 : decode cX9_pair 39 = .ok (.aload_n 0, 1) := by decide +kernel
theorem dX9_pair_40 : decode cX9_pair 40 = .ok (.getfield 146, 3) := by decide +kernel
theorem dX9_pair_43 : decode cX9_pair 43 = .ok (.iload 11, 2) := by decide +kernel
theorem dX9_pair_45 : decode cX9_pair 45 = .ok (.daload, 1) := by decide +kernel
theorem dX9_pair_46 : decode cX9_pair 46 = .ok (.dload 7, 2) := by decide +kernel
theorem dX9_pair_48 : decode cX9_pair 48 = .ok (.aload_n 0, 1) := by decide +kernel
theorem dX9_pair_49 : decode cX9_pair 49 = .ok (.getfield 161, 3) := by decide +kernel
theorem dX9_pair_52 : decode cX9_pair 52 = .ok (.iload 11, 2) := by decide +kernel
theorem dX9_pair_54 : decode cX9_pair 54 = .ok (.daload, 1) := by decide +kernel
theorem dX9_pair_55 : decode cX9_pair 55 = .ok (.invokestatic 211, 3) := by decide +kernel
theorem dX9_pair_58 : decode cX9_pair 58 = .ok (.invokestatic 214, 3) := by decide +kernel
theorem dX9_pair_61 : decode cX9_pair 61 = .ok (.invokevirtual 281, 3) := by decide +kernel
theorem dX9_pair_64 : decode cX9_pair 64 = .ok (.dastore, 1) := by decide +kernel
theorem dX9_pair_65 : decode cX9_pair 65 = .ok (.iinc 11 1, 3) := by decide +kernel
theorem dX9_pair_68 : decode cX9_pair 68 = .ok (.goto (-45), 3) := by decide +kernel
theorem dX9_pair_71 : decode cX9_pair 71 = .ok (.aload_n 0, 1) := by decide +kernel
theorem dX9_pair_72 : decode cX9_pair 72 = .ok (.iload_n 1, 1) := by decide +kernel
theorem dX9_pair_73 : decode cX9_pair 73 = .ok (.dload_n 3, 1) := by decide +kernel
theorem dX9_pair_74 : decode cX9_pair 74 = .ok (.dload 7, 2) := by decide +kernel
theorem dX9_pair_76 : decode cX9_pair 76 = .ok (.dadd, 1) := by decide +kernel
theorem dX9_pair_77 : decode cX9_pair 77 = .ok (.aload_n 0, 1) := by decide +kernel
theorem dX9_pair_78 : decode cX9_pair 78 = .ok (.getfield 149, 3) := by decide +kernel
theorem dX9_pair_81 : decode cX9_pair 81 = .ok (.aload_n 0, 1) := by decide +kernel
theorem dX9_pair_82 : decode cX9_pair 82 = .ok (.getfield 164, 3) := by decide +kernel
theorem dX9_pair_85 : decode cX9_pair 85 = .ok (.invokevirtual 254, 3) := by decide +kernel
theorem dX9_pair_88 : decode cX9_pair 88 = .ok (.iconst 0, 1) := by decide +kernel
theorem dX9_pair_89 : decode cX9_pair 89 = .ok (.istore 11, 2) := by decide +kernel
theorem dX9_pair_91 : decode cX9_pair 91 = .ok (.iload 11, 2) := by decide +kernel
theorem dX9_pair_93 : decode cX9_pair 93 = .ok (.iload_n 2, 1) := by decide +kernel
theorem dX9_pair_94 : decode cX9_pair 94 = .ok (.if_icmp .ge 45, 3) := by decide +kernel
theorem dX9_pair_97 : decode cX9_pair 97 = .ok (.aload_n 0, 1) := by decide +kernel
theorem dX9_pair_98 : decode cX9_pair 98 = .ok (.getfield 149, 3) := by decide +kernel
theorem dX9_pair_101 : decode cX9_pair 101 = .ok (.iload 11, 2) := by decide +kernel
theorem dX9_pair_103 : decode cX9_pair 103 = .ok (.aload_n 0, 1) := by decide +kernel
theorem dX9_pair_104 : decode cX9_pair 104 = .ok (.iload_n 1, 1) := by decide +kernel
theorem dX9_pair_105 : decode cX9_pair 105 = .ok (.iload 11, 2) := by decide +kernel
theorem dX9_pair_107 : decode cX9_pair 107 = .ok (.aload_n 0, 1) := by decide +kernel
theorem dX9_pair_108 : decode cX9_pair 108 = .ok (.getfield 146, 3) := by decide +kernel
theorem dX9_pair_111 : decode cX9_pair 111 = .ok (.iload 11, 2) := by decide +kernel
theorem dX9_pair_113 : decode cX9_pair 113 = .ok (.daload, 1) := by decide +kernel
theorem dX9_pair_114 : decode cX9_pair 114 = .ok (.dload 9, 2) := by decide +kernel
theorem dX9_pair_116 : decode cX9_pair 116 = .ok (.aload_n 0, 1) := by decide +kernel
theorem dX9_pair_117 : decode cX9_pair 117 = .ok (.getfield 164, 3) := by decide +kernel
theorem dX9_pair_120 : decode cX9_pair 120 = .ok (.iload 11, 2) := by decide +kernel
theorem dX9_pair_122 : decode cX9_pair 122 = .ok (.daload, 1) := by decide +kernel
theorem dX9_pair_123 : decode cX9_pair 123 = .ok (.invokestatic 211, 3) := by decide +kernel
theorem dX9_pair_126 : decode cX9_pair 126 = .ok (.invokestatic 214, 3) := by decide +kernel
theorem dX9_pair_129 : decode cX9_pair 129 = .ok (.invokevirtual 281, 3) := by decide +kernel
theorem dX9_pair_132 : decode cX9_pair 132 = .ok (.dastore, 1) := by decide +kernel
theorem dX9_pair_133 : decode cX9_pair 133 = .ok (.iinc 11 1, 3) := by decide +kernel
theorem dX9_pair_136 : decode cX9_pair 136 = .ok (.goto (-45), 3) := by decide +kernel
theorem dX9_pair_139 : decode cX9_pair 139 = .ok (.aload_n 0, 1) := by decide +kernel
theorem dX9_pair_140 : decode cX9_pair 140 = .ok (.iload_n 1, 1) := by decide +kernel
theorem dX9_pair_141 : decode cX9_pair 141 = .ok (.dload_n 3, 1) := by decide +kernel
theorem dX9_pair_142 : decode cX9_pair 142 = .ok (.dload 9, 2) := by decide +kernel
theorem dX9_pair_144 : decode cX9_pair 144 = .ok (.dadd, 1) := by decide +kernel
theorem dX9_pair_145 : decode cX9_pair 145 = .ok (.aload_n 0, 1) := by decide +kernel
theorem dX9_pair_146 : decode cX9_pair 146 = .ok (.getfield 149, 3) := by decide +kernel
theorem dX9_pair_149 : decode cX9_pair 149 = .ok (.aload_n 0, 1) := by decide +kernel
theorem dX9_pair_150 : decode cX9_pair 150 = .ok (.getfield 167, 3) := by decide +kernel
theorem dX9_pair_153 : decode cX9_pair 153 = .ok (.invokevirtual 254, 3) := by decide +kernel
theorem dX9_pair_156 : decode cX9_pair 156 = .ok (.iconst 0, 1) := by decide +kernel
theorem dX9_pair_157 : decode cX9_pair 157 = .ok (.istore 11, 2) := by decide +kernel
theorem dX9_pair_159 : decode cX9_pair 159 = .ok (.iload 11, 2) := by decide +kernel
theorem dX9_pair_161 : decode cX9_pair 161 = .ok (.iload_n 2, 1) := by decide +kernel
theorem dX9_pair_162 : decode cX9_pair 162 = .ok (.if_icmp .ge 87, 3) := by decide +kernel
theorem dX9_pair_165 : decode cX9_pair 165 = .ok (.aload_n 0, 1) := by decide +kernel
theorem dX9_pair_166 : decode cX9_pair 166 = .ok (.getfield 152, 3) := by decide +kernel
theorem dX9_pair_169 : decode cX9_pair 169 = .ok (.iload 11, 2) := by decide +kernel
theorem dX9_pair_171 : decode cX9_pair 171 = .ok (.aload_n 0, 1) := by decide +kernel
theorem dX9_pair_172 : decode cX9_pair 172 = .ok (.iload_n 1, 1) := by decide +kernel
theorem dX9_pair_173 : decode cX9_pair 173 = .ok (.iload 11, 2) := by decide +kernel
theorem dX9_pair_175 : decode cX9_pair 175 = .ok (.aload_n 0, 1) := by decide +kernel
theorem dX9_pair_176 : decode cX9_pair 176 = .ok (.getfield 146, 3) := by decide +kernel
theorem dX9_pair_179 : decode cX9_pair 179 = .ok (.iload 11, 2) := by decide +kernel
theorem dX9_pair_181 : decode cX9_pair 181 = .ok (.daload, 1) := by decide +kernel
theorem dX9_pair_182 : decode cX9_pair 182 = .ok (.dload 5, 2) := by decide +kernel
theorem dX9_pair_184 : decode cX9_pair 184 = .ok (.ldc2_w 293, 3) := by decide +kernel
theorem dX9_pair_187 : decode cX9_pair 187 = .ok (.ddiv, 1) := by decide +kernel
theorem dX9_pair_188 : decode cX9_pair 188 = .ok (.ldc2_w 285, 3) := by decide +kernel
theorem dX9_pair_191 : decode cX9_pair 191 = .ok (.aload_n 0, 1) := by decide +kernel
theorem dX9_pair_192 : decode cX9_pair 192 = .ok (.getfield 161, 3) := by decide +kernel
theorem dX9_pair_195 : decode cX9_pair 195 = .ok (.iload 11, 2) := by decide +kernel
theorem dX9_pair_197 : decode cX9_pair 197 = .ok (.daload, 1) := by decide +kernel
theorem dX9_pair_198 : decode cX9_pair 198 = .ok (.invokestatic 211, 3) := by decide +kernel
theorem dX9_pair_201 : decode cX9_pair 201 = .ok (.ldc2_w 291, 3) := by decide +kernel
theorem dX9_pair_204 : decode cX9_pair 204 = .ok (.aload_n 0, 1) := by decide +kernel
theorem dX9_pair_205 : decode cX9_pair 205 = .ok (.getfield 164, 3) := by decide +kernel
theorem dX9_pair_208 : decode cX9_pair 208 = .ok (.iload 11, 2) := by decide +kernel
theorem dX9_pair_210 : decode cX9_pair 210 = .ok (.daload, 1) := by decide +kernel
theorem dX9_pair_211 : decode cX9_pair 211 = .ok (.invokestatic 211, 3) := by decide +kernel
theorem dX9_pair_214 : decode cX9_pair 214 = .ok (.invokestatic 214, 3) := by decide +kernel
theorem dX9_pair_217 : decode cX9_pair 217 = .ok (.ldc2_w 289, 3) := by decide +kernel
theorem dX9_pair_220 : decode cX9_pair 220 = .ok (.aload_n 0, 1) := by decide +kernel
theorem dX9_pair_221 : decode cX9_pair 221 = .ok (.getfield 167, 3) := by decide +kernel
theorem dX9_pair_224 : decode cX9_pair 224 = .ok (.iload 11, 2) := by decide +kernel
theorem dX9_pair_226 : decode cX9_pair 226 = .ok (.daload, 1) := by decide +kernel
theorem dX9_pair_227 : decode cX9_pair 227 = .ok (.invokestatic 211, 3) := by decide +kernel
theorem dX9_pair_230 : decode cX9_pair 230 = .ok (.invokestatic 214, 3) := by decide +kernel
theorem dX9_pair_233 : decode cX9_pair 233 = .ok (.invokestatic 211, 3) := by decide +kernel
theorem dX9_pair_236 : decode cX9_pair 236 = .ok (.invokestatic 214, 3) := by decide +kernel
theorem dX9_pair_239 : decode cX9_pair 239 = .ok (.invokevirtual 281, 3) := by decide +kernel
theorem dX9_pair_242 : decode cX9_pair 242 = .ok (.dastore, 1) := by decide +kernel
theorem dX9_pair_243 : decode cX9_pair 243 = .ok (.iinc 11 1, 3) := by decide +kernel
theorem dX9_pair_246 : decode cX9_pair 246 = .ok (.goto (-87), 3) := by decide +kernel
theorem dX9_pair_249 : decode cX9_pair 249 = .ok (.aload_n 0, 1) := by decide +kernel
theorem dX9_pair_250 : decode cX9_pair 250 = .ok (.iload_n 1, 1) := by decide +kernel
theorem dX9_pair_251 : decode cX9_pair 251 = .ok (.dload_n 3, 1) := by decide +kernel
theorem dX9_pair_252 : decode cX9_pair 252 = .ok (.dload 5, 2) := by decide +kernel
theorem dX9_pair_254 : decode cX9_pair 254 = .ok (.dadd, 1) := by decide +kernel
theorem dX9_pair_255 : decode cX9_pair 255 = .ok (.aload_n 0, 1) := by decide +kernel
theorem dX9_pair_256 : decode cX9_pair 256 = .ok (.getfield 152, 3) := by decide +kernel
theorem dX9_pair_259 : decode cX9_pair 259 = .ok (.aload_n 0, 1) := by decide +kernel
theorem dX9_pair_260 : decode cX9_pair 260 = .ok (.getfield 170, 3) := by decide +kernel
theorem dX9_pair_263 : decode cX9_pair 263 = .ok (.invokevirtual 254, 3) := by decide +kernel
theorem dX9_pair_266 : decode cX9_pair 266 = .ok (.iconst 0, 1) := by decide +kernel
theorem dX9_pair_267 : decode cX9_pair 267 = .ok (.istore 11, 2) := by decide +kernel
theorem dX9_pair_269 : decode cX9_pair 269 = .ok (.iload 11, 2) := by decide +kernel
theorem dX9_pair_271 : decode cX9_pair 271 = .ok (.iload_n 2, 1) := by decide +kernel
theorem dX9_pair_272 : decode cX9_pair 272 = .ok (.if_icmp .ge 115, 3) := by decide +kernel
theorem dX9_pair_275 : decode cX9_pair 275 = .ok (.aload_n 0, 1) := by decide +kernel
theorem dX9_pair_276 : decode cX9_pair 276 = .ok (.getfield 158, 3) := by decide +kernel
theorem dX9_pair_279 : decode cX9_pair 279 = .ok (.iload 11, 2) := by decide +kernel
theorem dX9_pair_281 : decode cX9_pair 281 = .ok (.dload 5, 2) := by decide +kernel
theorem dX9_pair_283 : decode cX9_pair 283 = .ok (.ldc2_w 295, 3) := by decide +kernel
theorem dX9_pair_286 : decode cX9_pair 286 = .ok (.ddiv, 1) := by decide +kernel
theorem dX9_pair_287 : decode cX9_pair 287 = .ok (.ldc2_w 287, 3) := by decide +kernel
theorem dX9_pair_290 : decode cX9_pair 290 = .ok (.aload_n 0, 1) := by decide +kernel
theorem dX9_pair_291 : decode cX9_pair 291 = .ok (.getfield 164, 3) := by decide +kernel
theorem dX9_pair_294 : decode cX9_pair 294 = .ok (.iload 11, 2) := by decide +kernel
theorem dX9_pair_296 : decode cX9_pair 296 = .ok (.daload, 1) := by decide +kernel
theorem dX9_pair_297 : decode cX9_pair 297 = .ok (.invokestatic 211, 3) := by decide +kernel
theorem dX9_pair_300 : decode cX9_pair 300 = .ok (.ldc2_w 297, 3) := by decide +kernel
theorem dX9_pair_303 : decode cX9_pair 303 = .ok (.aload_n 0, 1) := by decide +kernel
theorem dX9_pair_304 : decode cX9_pair 304 = .ok (.getfield 167, 3) := by decide +kernel
theorem dX9_pair_307 : decode cX9_pair 307 = .ok (.iload 11, 2) := by decide +kernel
theorem dX9_pair_309 : decode cX9_pair 309 = .ok (.daload, 1) := by decide +kernel
theorem dX9_pair_310 : decode cX9_pair 310 = .ok (.invokestatic 211, 3) := by decide +kernel
theorem dX9_pair_313 : decode cX9_pair 313 = .ok (.invokestatic 214, 3) := by decide +kernel
theorem dX9_pair_316 : decode cX9_pair 316 = .ok (.ldc2_w 299, 3) := by decide +kernel
theorem dX9_pair_319 : decode cX9_pair 319 = .ok (.aload_n 0, 1) := by decide +kernel
theorem dX9_pair_320 : decode cX9_pair 320 = .ok (.getfield 161, 3) := by decide +kernel
theorem dX9_pair_323 : decode cX9_pair 323 = .ok (.iload 11, 2) := by decide +kernel
theorem dX9_pair_325 : decode cX9_pair 325 = .ok (.daload, 1) := by decide +kernel
theorem dX9_pair_326 : decode cX9_pair 326 = .ok (.invokestatic 211, 3) := by decide +kernel
theorem dX9_pair_329 : decode cX9_pair 329 = .ok (.invokestatic 204, 3) := by decide +kernel
theorem dX9_pair_332 : decode cX9_pair 332 = .ok (.ldc2_w 293, 3) := by decide +kernel
theorem dX9_pair_335 : decode cX9_pair 335 = .ok (.aload_n 0, 1) := by decide +kernel
theorem dX9_pair_336 : decode cX9_pair 336 = .ok (.getfield 170, 3) := by decide +kernel
theorem dX9_pair_339 : decode cX9_pair 339 = .ok (.iload 11, 2) := by decide +kernel
theorem dX9_pair_341 : decode cX9_pair 341 = .ok (.daload, 1) := by decide +kernel
theorem dX9_pair_342 : decode cX9_pair 342 = .ok (.invokestatic 211, 3) := by decide +kernel
theorem dX9_pair_345 : decode cX9_pair 345 = .ok (.invokestatic 204, 3) := by decide +kernel
theorem dX9_pair_348 : decode cX9_pair 348 = .ok (.invokestatic 211, 3) := by decide +kernel
theorem dX9_pair_351 : decode cX9_pair 351 = .ok (.dastore, 1) := by decide +kernel
theorem dX9_pair_352 : decode cX9_pair 352 = .ok (.aload_n 0, 1) := by decide +kernel
theorem dX9_pair_353 : decode cX9_pair 353 = .ok (.aload_n 0, 1) := by decide +kernel
theorem dX9_pair_354 : decode cX9_pair 354 = .ok (.getfield 246, 3) := by decide +kernel
theorem dX9_pair_357 : decode cX9_pair 357 = .ok (.ifCond .ne 16, 3) := by decide +kernel
theorem dX9_pair_360 : decode cX9_pair 360 = .ok (.aload_n 0, 1) := by decide +kernel
theorem dX9_pair_361 : decode cX9_pair 361 = .ok (.getfield 158, 3) := by decide +kernel
theorem dX9_pair_364 : decode cX9_pair 364 = .ok (.iload 11, 2) := by decide +kernel
theorem dX9_pair_366 : decode cX9_pair 366 = .ok (.daload, 1) := by decide +kernel
theorem dX9_pair_367 : decode cX9_pair 367 = .ok (.invokestatic 193, 3) := by decide +kernel
theorem dX9_pair_370 : decode cX9_pair 370 = .ok (.ifCond .ne 7, 3) := by decide +kernel
theorem dX9_pair_373 : decode cX9_pair 373 = .ok (.iconst 1, 1) := by decide +kernel
theorem dX9_pair_374 : decode cX9_pair 374 = .ok (.goto 4, 3) := by decide +kernel
theorem dX9_pair_377 : decode cX9_pair 377 = .ok (.iconst 0, 1) := by decide +kernel
theorem dX9_pair_378 : decode cX9_pair 378 = .ok (.putfield 246, 3) := by decide +kernel
theorem dX9_pair_381 : decode cX9_pair 381 = .ok (.iinc 11 1, 3) := by decide +kernel
theorem dX9_pair_384 : decode cX9_pair 384 = .ok (.goto (-115), 3) := by decide +kernel
theorem dX9_pair_387 : decode cX9_pair 387 = .ok (.return_, 1) := by decide +kernel
theorem dX9_backward_0 : decode cX9_backward 0 = .ok (.iconst 0, 1) := by decide +kernel
theorem dX9_backward_1 : decode cX9_backward 1 = .ok (.istore 7, 2) := by decide +kernel
theorem dX9_backward_3 : decode cX9_backward 3 = .ok (.iload 7, 2) := by decide +kernel
theorem dX9_backward_5 : decode cX9_backward 5 = .ok (.iload_n 2, 1) := by decide +kernel
theorem dX9_backward_6 : decode cX9_backward 6 = .ok (.if_icmp .ge 45, 3) := by decide +kernel
theorem dX9_backward_9 : decode cX9_backward 9 = .ok (.aload_n 0, 1) := by decide +kernel
theorem dX9_backward_10 : decode cX9_backward 10 = .ok (.getfield 152, 3) := by decide +kernel
theorem dX9_backward_13 : decode cX9_backward 13 = .ok (.iload 7, 2) := by decide +kernel
theorem dX9_backward_15 : decode cX9_backward 15 = .ok (.aload_n 0, 1) := by decide +kernel
theorem dX9_backward_16 : decode cX9_backward 16 = .ok (.iload_n 1, 1) := by decide +kernel
theorem dX9_backward_17 : decode cX9_backward 17 = .ok (.iload 7, 2) := by decide +kernel
theorem dX9_backward_19 : decode cX9_backward 19 = .ok (.aload_n 0, 1) := by decide +kernel
theorem dX9_backward_20 : decode cX9_backward 20 = .ok (.getfield 146, 3) := by decide +kernel
theorem dX9_backward_23 : decode cX9_backward 23 = .ok (.iload 7, 2) := by decide +kernel
theorem dX9_backward_25 : decode cX9_backward 25 = .ok (.daload, 1) := by decide +kernel
theorem dX9_backward_26 : decode cX9_backward 26 = .ok (.dload 5, 2) := by decide +kernel
theorem dX9_backward_28 : decode cX9_backward 28 = .ok (.aload_n 0, 1) := by decide +kernel
theorem dX9_backward_29 : decode cX9_backward 29 = .ok (.getfield 161, 3) := by decide +kernel
theorem dX9_backward_32 : decode cX9_backward 32 = .ok (.iload 7, 2) := by decide +kernel
theorem dX9_backward_34 : decode cX9_backward 34 = .ok (.daload, 1) := by decide +kernel
theorem dX9_backward_35 : decode cX9_backward 35 = .ok (.invokestatic 211, 3) := by decide +kernel
theorem dX9_backward_38 : decode cX9_backward 38 = .ok (.invokestatic 214, 3) := by decide +kernel
theorem dX9_backward_41 : decode cX9_backward 41 = .ok (.invokevirtual 281, 3) := by decide +kernel
theorem dX9_backward_44 : decode cX9_backward 44 = .ok (.dastore, 1) := by decide +kernel
theorem dX9_backward_45 : decode cX9_backward 45 = .ok (.iinc 7 1, 3) := by decide +kernel
theorem dX9_backward_48 : decode cX9_backward 48 = .ok (.goto (-45), 3) := by decide +kernel
theorem dX9_backward_51 : decode cX9_backward 51 = .ok (.iconst 0, 1) := by decide +kernel
theorem dX9_backward_52 : decode cX9_backward 52 = .ok (.istore 7, 2) := by decide +kernel
theorem dX9_backward_54 : decode cX9_backward 54 = .ok (.iload 7, 2) := by decide +kernel
theorem dX9_backward_56 : decode cX9_backward 56 = .ok (.bipush 6, 2) := by decide +kernel
theorem dX9_backward_58 : decode cX9_backward 58 = .ok (.if_icmp .ge 139, 3) := by decide +kernel
theorem dX9_backward_61 : decode cX9_backward 61 = .ok (.aload_n 0, 1) := by decide +kernel
theorem dX9_backward_62 : decode cX9_backward 62 = .ok (.iload_n 1, 1) := by decide +kernel
theorem dX9_backward_63 : decode cX9_backward 63 = .ok (.dload_n 3, 1) := by decide +kernel
theorem dX9_backward_64 : decode cX9_backward 64 = .ok (.dload 5, 2) := by decide +kernel
theorem dX9_backward_66 : decode cX9_backward 66 = .ok (.dadd, 1) := by decide +kernel
theorem dX9_backward_67 : decode cX9_backward 67 = .ok (.aload_n 0, 1) := by decide +kernel
theorem dX9_backward_68 : decode cX9_backward 68 = .ok (.getfield 152, 3) := by decide +kernel
theorem dX9_backward_71 : decode cX9_backward 71 = .ok (.aload_n 0, 1) := by decide +kernel
theorem dX9_backward_72 : decode cX9_backward 72 = .ok (.getfield 164, 3) := by decide +kernel
theorem dX9_backward_75 : decode cX9_backward 75 = .ok (.invokevirtual 254, 3) := by decide +kernel
theorem dX9_backward_78 : decode cX9_backward 78 = .ok (.aload_n 0, 1) := by decide +kernel
theorem dX9_backward_79 : decode cX9_backward 79 = .ok (.iconst 0, 1) := by decide +kernel
theorem dX9_backward_80 : decode cX9_backward 80 = .ok (.putfield 250, 3) := by decide +kernel
theorem dX9_backward_83 : decode cX9_backward 83 = .ok (.iconst 0, 1) := by decide +kernel
theorem dX9_backward_84 : decode cX9_backward 84 = .ok (.istore 8, 2) := by decide +kernel
theorem dX9_backward_86 : decode cX9_backward 86 = .ok (.iload 8, 2) := by decide +kernel
theorem dX9_backward_88 : decode cX9_backward 88 = .ok (.iload_n 2, 1) := by decide +kernel
theorem dX9_backward_89 : decode cX9_backward 89 = .ok (.if_icmp .ge 73, 3) := by decide +kernel
theorem dX9_backward_92 : decode cX9_backward 92 = .ok (.aload_n 0, 1) := by decide +kernel
theorem dX9_backward_93 : decode cX9_backward 93 = .ok (.getfield 155, 3) := by decide +kernel
theorem dX9_backward_96 : decode cX9_backward 96 = .ok (.iload 8, 2) := by decide +kernel
theorem dX9_backward_98 : decode cX9_backward 98 = .ok (.aload_n 0, 1) := by decide +kernel
theorem dX9_backward_99 : decode cX9_backward 99 = .ok (.iload_n 1, 1) := by decide +kernel
theorem dX9_backward_100 : decode cX9_backward 100 = .ok (.iload 8, 2) := by decide +kernel
theorem dX9_backward_102 : decode cX9_backward 102 = .ok (.aload_n 0, 1) := by decide +kernel
theorem dX9_backward_103 : decode cX9_backward 103 = .ok (.getfield 146, 3) := by decide +kernel
theorem dX9_backward_106 : decode cX9_backward 106 = .ok (.iload 8, 2) := by decide +kernel
theorem dX9_backward_108 : decode cX9_backward 108 = .ok (.daload, 1) := by decide +kernel
theorem dX9_backward_109 : decode cX9_backward 109 = .ok (.dload 5, 2) := by decide +kernel
theorem dX9_backward_111 : decode cX9_backward 111 = .ok (.aload_n 0, 1) := by decide +kernel
theorem dX9_backward_112 : decode cX9_backward 112 = .ok (.getfield 164, 3) := by decide +kernel
theorem dX9_backward_115 : decode cX9_backward 115 = .ok (.iload 8, 2) := by decide +kernel
theorem dX9_backward_117 : decode cX9_backward 117 = .ok (.daload, 1) := by decide +kernel
theorem dX9_backward_118 : decode cX9_backward 118 = .ok (.invokestatic 211, 3) := by decide +kernel
theorem dX9_backward_121 : decode cX9_backward 121 = .ok (.invokestatic 214, 3) := by decide +kernel
theorem dX9_backward_124 : decode cX9_backward 124 = .ok (.invokevirtual 281, 3) := by decide +kernel
theorem dX9_backward_127 : decode cX9_backward 127 = .ok (.dastore, 1) := by decide +kernel
theorem dX9_backward_128 : decode cX9_backward 128 = .ok (.aload_n 0, 1) := by decide +kernel
theorem dX9_backward_129 : decode cX9_backward 129 = .ok (.getfield 155, 3) := by decide +kernel
theorem dX9_backward_132 : decode cX9_backward 132 = .ok (.iload 8, 2) := by decide +kernel
theorem dX9_backward_134 : decode cX9_backward 134 = .ok (.daload, 1) := by decide +kernel
theorem dX9_backward_135 : decode cX9_backward 135 = .ok (.aload_n 0, 1) := by decide +kernel
theorem dX9_backward_136 : decode cX9_backward 136 = .ok (.getfield 152, 3) := by decide +kernel
theorem dX9_backward_139 : decode cX9_backward 139 = .ok (.iload 8, 2) := by decide +kernel
theorem dX9_backward_141 : decode cX9_backward 141 = .ok (.daload, 1) := by decide +kernel
theorem dX9_backward_142 : decode cX9_backward 142 = .ok (.dcmp .l, 1) := by decide +kernel
theorem dX9_backward_143 : decode cX9_backward 143 = .ok (.ifCond .eq 13, 3) := by decide +kernel
theorem dX9_backward_146 : decode cX9_backward 146 = .ok (.aload_n 0, 1) := by decide +kernel
theorem dX9_backward_147 : decode cX9_backward 147 = .ok (.dup, 1) := by decide +kernel
theorem dX9_backward_148 : decode cX9_backward 148 = .ok (.getfield 250, 3) := by decide +kernel
theorem dX9_backward_151 : decode cX9_backward 151 = .ok (.iconst 1, 1) := by decide +kernel
theorem dX9_backward_152 : decode cX9_backward 152 = .ok (.iadd, 1) := by decide +kernel
theorem dX9_backward_153 : decode cX9_backward 153 = .ok (.putfield 250, 3) := by decide +kernel
theorem dX9_backward_156 : decode cX9_backward 156 = .ok (.iinc 8 1, 3) := by decide +kernel
theorem dX9_backward_159 : decode cX9_backward 159 = .ok (.goto (-73), 3) := by decide +kernel
theorem dX9_backward_162 : decode cX9_backward 162 = .ok (.iconst 0, 1) := by decide +kernel
theorem dX9_backward_163 : decode cX9_backward 163 = .ok (.istore 8, 2) := by decide +kernel
theorem dX9_backward_165 : decode cX9_backward 165 = .ok (.iload 8, 2) := by decide +kernel
theorem dX9_backward_167 : decode cX9_backward 167 = .ok (.iload_n 2, 1) := by decide +kernel
theorem dX9_backward_168 : decode cX9_backward 168 = .ok (.if_icmp .ge 23, 3) := by decide +kernel
theorem dX9_backward_171 : decode cX9_backward 171 = .ok (.aload_n 0, 1) := by decide +kernel
theorem dX9_backward_172 : decode cX9_backward 172 = .ok (.getfield 152, 3) := by decide +kernel
theorem dX9_backward_175 : decode cX9_backward 175 = .ok (.iload 8, 2) := by decide +kernel
theorem dX9_backward_177 : decode cX9_backward 177 = .ok (.aload_n 0, 1) := by decide +kernel
theorem dX9_backward_178 : decode cX9_backward 178 = .ok (.getfield 155, 3) := by decide +kernel
theorem dX9_backward_181 : decode cX9_backward 181 = .ok (.iload 8, 2) := by decide +kernel
theorem dX9_backward_183 : decode cX9_backward 183 = .ok (.daload, 1) := by decide +kernel
theorem dX9_backward_184 : decode cX9_backward 184 = .ok (.dastore, 1) := by decide +kernel
theorem dX9_backward_185 : decode cX9_backward 185 = .ok (.iinc 8 1, 3) := by decide +kernel
theorem dX9_backward_188 : decode cX9_backward 188 = .ok (.goto (-23), 3) := by decide +kernel
theorem dX9_backward_191 : decode cX9_backward 191 = .ok (.iinc 7 1, 3) := by decide +kernel
theorem dX9_backward_194 : decode cX9_backward 194 = .ok (.goto (-140), 3) := by decide +kernel
theorem dX9_backward_197 : decode cX9_backward 197 = .ok (.return_, 1) := by decide +kernel
theorem dX9_leap_0 : decode cX9_leap 0 = .ok (.dload 5, 2) := by decide +kernel
theorem dX9_leap_2 : decode cX9_leap 2 = .ok (.ldc2_w 285, 3) := by decide +kernel
theorem dX9_leap_5 : decode cX9_leap 5 = .ok (.ddiv, 1) := by decide +kernel
theorem dX9_leap_6 : decode cX9_leap 6 = .ok (.dstore 7, 2) := by decide +kernel
theorem dX9_leap_8 : decode cX9_leap 8 = .ok (.iload_n 2, 1) := by decide +kernel
theorem dX9_leap_9 : decode cX9_leap 9 = .ok (.iconst 2, 1) := by decide +kernel
theorem dX9_leap_10 : decode cX9_leap 10 = .ok (.idiv, 1) := by decide +kernel
theorem dX9_leap_11 : decode cX9_leap 11 = .ok (.istore 9, 2) := by decide +kernel
theorem dX9_leap_13 : decode cX9_leap 13 = .ok (.iconst 0, 1) := by decide +kernel
theorem dX9_leap_14 : decode cX9_leap 14 = .ok (.istore 10, 2) := by decide +kernel
theorem dX9_leap_16 : decode cX9_leap 16 = .ok (.iload 10, 2) := by decide +kernel
theorem dX9_leap_18 : decode cX9_leap 18 = .ok (.iload_n 2, 1) := by decide +kernel
theorem dX9_leap_19 : decode cX9_leap 19 = .ok (.if_icmp .ge 62, 3) := by decide +kernel
theorem dX9_leap_22 : decode cX9_leap 22 = .ok (.aload_n 0, 1) := by decide +kernel
theorem dX9_leap_23 : decode cX9_leap 23 = .ok (.getfield 149, 3) := by decide +kernel
theorem dX9_leap_26 : decode cX9_leap 26 = .ok (.iload 10, 2) := by decide +kernel
theorem dX9_leap_28 : decode cX9_leap 28 = .ok (.iload 10, 2) := by decide +kernel
theorem dX9_leap_30 : decode cX9_leap 30 = .ok (.iload 9, 2) := by decide +kernel
theorem dX9_leap_32 : decode cX9_leap 32 = .ok (.if_icmp .ge 13, 3) := by decide +kernel
theorem dX9_leap_35 : decode cX9_leap 35 = .ok (.aload_n 0, 1) := by decide +kernel
theorem dX9_leap_36 : decode cX9_leap 36 = .ok (.getfield 146, 3) := by decide +kernel
theorem dX9_leap_39 : decode cX9_leap 39 = .ok (.iload 10, 2) := by decide +kernel
theorem dX9_leap_41 : decode cX9_leap 41 = .ok (.daload, 1) := by decide +kernel
theorem dX9_leap_42 : decode cX9_leap 42 = .ok (.goto 32, 3) := by decide +kernel
theorem dX9_leap_45 : decode cX9_leap 45 = .ok (.aload_n 0, 1) := by decide +kernel
theorem dX9_leap_46 : decode cX9_leap 46 = .ok (.iload_n 1, 1) := by decide +kernel
theorem dX9_leap_47 : decode cX9_leap 47 = .ok (.iload 10, 2) := by decide +kernel
theorem dX9_leap_49 : decode cX9_leap 49 = .ok (.aload_n 0, 1) := by decide +kernel
theorem dX9_leap_50 : decode cX9_leap 50 = .ok (.getfield 146, 3) := by decide +kernel
theorem dX9_leap_53 : decode cX9_leap 53 = .ok (.iload 10, 2) := by decide +kernel
theorem dX9_leap_55 : decode cX9_leap 55 = .ok (.daload, 1) := by decide +kernel
theorem dX9_leap_56 : decode cX9_leap 56 = .ok (.dload 7, 2) := by decide +kernel
theorem dX9_leap_58 : decode cX9_leap 58 = .ok (.aload_n 0, 1) := by decide +kernel
theorem dX9_leap_59 : decode cX9_leap 59 = .ok (.getfield 161, 3) := by decide +kernel
theorem dX9_leap_62 : decode cX9_leap 62 = .ok (.iload 10, 2) := by decide +kernel
theorem dX9_leap_64 : decode cX9_leap 64 = .ok (.daload, 1) := by decide +kernel
theorem dX9_leap_65 : decode cX9_leap 65 = .ok (.invokestatic 211, 3) := by decide +kernel
theorem dX9_leap_68 : decode cX9_leap 68 = .ok (.invokestatic 214, 3) := by decide +kernel
theorem dX9_leap_71 : decode cX9_leap 71 = .ok (.invokevirtual 281, 3) := by decide +kernel
theorem dX9_leap_74 : decode cX9_leap 74 = .ok (.dastore, 1) := by decide +kernel
theorem dX9_leap_75 : decode cX9_leap 75 = .ok (.iinc 10 1, 3) := by decide +kernel
theorem dX9_leap_78 : decode cX9_leap 78 = .ok (.goto (-62), 3) := by decide +kernel
theorem dX9_leap_81 : decode cX9_leap 81 = .ok (.aload_n 0, 1) := by decide +kernel
theorem dX9_leap_82 : decode cX9_leap 82 = .ok (.iload_n 1, 1) := by decide +kernel
theorem dX9_leap_83 : decode cX9_leap 83 = .ok (.dload_n 3, 1) := by decide +kernel
theorem dX9_leap_84 : decode cX9_leap 84 = .ok (.dload 7, 2) := by decide +kernel
theorem dX9_leap_86 : decode cX9_leap 86 = .ok (.dadd, 1) := by decide +kernel
theorem dX9_leap_87 : decode cX9_leap 87 = .ok (.aload_n 0, 1) := by decide +kernel
theorem dX9_leap_88 : decode cX9_leap 88 = .ok (.getfield 149, 3) := by decide +kernel
theorem dX9_leap_91 : decode cX9_leap 91 = .ok (.aload_n 0, 1) := by decide +kernel
theorem dX9_leap_92 : decode cX9_leap 92 = .ok (.getfield 164, 3) := by decide +kernel
theorem dX9_leap_95 : decode cX9_leap 95 = .ok (.invokevirtual 254, 3) := by decide +kernel
theorem dX9_leap_98 : decode cX9_leap 98 = .ok (.iconst 0, 1) := by decide +kernel
theorem dX9_leap_99 : decode cX9_leap 99 = .ok (.istore 10, 2) := by decide +kernel
theorem dX9_leap_101 : decode cX9_leap 101 = .ok (.iload 10, 2) := by decide +kernel
theorem dX9_leap_103 : decode cX9_leap 103 = .ok (.iload_n 2, 1) := by decide +kernel
theorem dX9_leap_104 : decode cX9_leap 104 = .ok (.if_icmp .ge 62, 3) := by decide +kernel
theorem dX9_leap_107 : decode cX9_leap 107 = .ok (.aload_n 0, 1) := by decide +kernel
theorem dX9_leap_108 : decode cX9_leap 108 = .ok (.getfield 152, 3) := by decide +kernel
theorem dX9_leap_111 : decode cX9_leap 111 = .ok (.iload 10, 2) := by decide +kernel
theorem dX9_leap_113 : decode cX9_leap 113 = .ok (.iload 10, 2) := by decide +kernel
theorem dX9_leap_115 : decode cX9_leap 115 = .ok (.iload 9, 2) := by decide +kernel
theorem dX9_leap_117 : decode cX9_leap 117 = .ok (.if_icmp .ge 35, 3) := by decide +kernel
theorem dX9_leap_120 : decode cX9_leap 120 = .ok (.aload_n 0, 1) := by decide +kernel
theorem dX9_leap_121 : decode cX9_leap 121 = .ok (.iload_n 1, 1) := by decide +kernel
theorem dX9_leap_122 : decode cX9_leap 122 = .ok (.iload 10, 2) := by decide +kernel
theorem dX9_leap_124 : decode cX9_leap 124 = .ok (.aload_n 0, 1) := by decide +kernel
theorem dX9_leap_125 : decode cX9_leap 125 = .ok (.getfield 146, 3) := by decide +kernel
theorem dX9_leap_128 : decode cX9_leap 128 = .ok (.iload 10, 2) := by decide +kernel
theorem dX9_leap_130 : decode cX9_leap 130 = .ok (.daload, 1) := by decide +kernel
theorem dX9_leap_131 : decode cX9_leap 131 = .ok (.dload 5, 2) := by decide +kernel
theorem dX9_leap_133 : decode cX9_leap 133 = .ok (.aload_n 0, 1) := by decide +kernel
theorem dX9_leap_134 : decode cX9_leap 134 = .ok (.getfield 164, 3) := by decide +kernel
theorem dX9_leap_137 : decode cX9_leap 137 = .ok (.iload 10, 2) := by decide +kernel
theorem dX9_leap_139 : decode cX9_leap 139 = .ok (.daload, 1) := by decide +kernel
theorem dX9_leap_140 : decode cX9_leap 140 = .ok (.invokestatic 211, 3) := by decide +kernel
theorem dX9_leap_143 : decode cX9_leap 143 = .ok (.invokestatic 214, 3) := by decide +kernel
theorem dX9_leap_146 : decode cX9_leap 146 = .ok (.invokevirtual 281, 3) := by decide +kernel
theorem dX9_leap_149 : decode cX9_leap 149 = .ok (.goto 10, 3) := by decide +kernel
theorem dX9_leap_152 : decode cX9_leap 152 = .ok (.aload_n 0, 1) := by decide +kernel
theorem dX9_leap_153 : decode cX9_leap 153 = .ok (.getfield 149, 3) := by decide +kernel
theorem dX9_leap_156 : decode cX9_leap 156 = .ok (.iload 10, 2) := by decide +kernel
theorem dX9_leap_158 : decode cX9_leap 158 = .ok (.daload, 1) := by decide +kernel
theorem dX9_leap_159 : decode cX9_leap 159 = .ok (.dastore, 1) := by decide +kernel
theorem dX9_leap_160 : decode cX9_leap 160 = .ok (.iinc 10 1, 3) := by decide +kernel
theorem dX9_leap_163 : decode cX9_leap 163 = .ok (.goto (-62), 3) := by decide +kernel
theorem dX9_leap_166 : decode cX9_leap 166 = .ok (.aload_n 0, 1) := by decide +kernel
theorem dX9_leap_167 : decode cX9_leap 167 = .ok (.iload_n 1, 1) := by decide +kernel
theorem dX9_leap_168 : decode cX9_leap 168 = .ok (.dload_n 3, 1) := by decide +kernel
theorem dX9_leap_169 : decode cX9_leap 169 = .ok (.dload 5, 2) := by decide +kernel
theorem dX9_leap_171 : decode cX9_leap 171 = .ok (.dadd, 1) := by decide +kernel
theorem dX9_leap_172 : decode cX9_leap 172 = .ok (.aload_n 0, 1) := by decide +kernel
theorem dX9_leap_173 : decode cX9_leap 173 = .ok (.getfield 152, 3) := by decide +kernel
theorem dX9_leap_176 : decode cX9_leap 176 = .ok (.aload_n 0, 1) := by decide +kernel
theorem dX9_leap_177 : decode cX9_leap 177 = .ok (.getfield 167, 3) := by decide +kernel
theorem dX9_leap_180 : decode cX9_leap 180 = .ok (.invokevirtual 254, 3) := by decide +kernel
theorem dX9_leap_183 : decode cX9_leap 183 = .ok (.iload 9, 2) := by decide +kernel
theorem dX9_leap_185 : decode cX9_leap 185 = .ok (.istore 10, 2) := by decide +kernel
theorem dX9_leap_187 : decode cX9_leap 187 = .ok (.iload 10, 2) := by decide +kernel
theorem dX9_leap_189 : decode cX9_leap 189 = .ok (.iload_n 2, 1) := by decide +kernel
theorem dX9_leap_190 : decode cX9_leap 190 = .ok (.if_icmp .ge 45, 3) := by decide +kernel
theorem dX9_leap_193 : decode cX9_leap 193 = .ok (.aload_n 0, 1) := by decide +kernel
theorem dX9_leap_194 : decode cX9_leap 194 = .ok (.getfield 152, 3) := by decide +kernel
theorem dX9_leap_197 : decode cX9_leap 197 = .ok (.iload 10, 2) := by decide +kernel
theorem dX9_leap_199 : decode cX9_leap 199 = .ok (.aload_n 0, 1) := by decide +kernel
theorem dX9_leap_200 : decode cX9_leap 200 = .ok (.iload_n 1, 1) := by decide +kernel
theorem dX9_leap_201 : decode cX9_leap 201 = .ok (.iload 10, 2) := by decide +kernel
theorem dX9_leap_203 : decode cX9_leap 203 = .ok (.aload_n 0, 1) := by decide +kernel
theorem dX9_leap_204 : decode cX9_leap 204 = .ok (.getfield 149, 3) := by decide +kernel
theorem dX9_leap_207 : decode cX9_leap 207 = .ok (.iload 10, 2) := by decide +kernel
theorem dX9_leap_209 : decode cX9_leap 209 = .ok (.daload, 1) := by decide +kernel
theorem dX9_leap_210 : decode cX9_leap 210 = .ok (.dload 7, 2) := by decide +kernel
theorem dX9_leap_212 : decode cX9_leap 212 = .ok (.aload_n 0, 1) := by decide +kernel
theorem dX9_leap_213 : decode cX9_leap 213 = .ok (.getfield 167, 3) := by decide +kernel
theorem dX9_leap_216 : decode cX9_leap 216 = .ok (.iload 10, 2) := by decide +kernel
theorem dX9_leap_218 : decode cX9_leap 218 = .ok (.daload, 1) := by decide +kernel
theorem dX9_leap_219 : decode cX9_leap 219 = .ok (.invokestatic 211, 3) := by decide +kernel
theorem dX9_leap_222 : decode cX9_leap 222 = .ok (.invokestatic 214, 3) := by decide +kernel
theorem dX9_leap_225 : decode cX9_leap 225 = .ok (.invokevirtual 281, 3) := by decide +kernel
theorem dX9_leap_228 : decode cX9_leap 228 = .ok (.dastore, 1) := by decide +kernel
theorem dX9_leap_229 : decode cX9_leap 229 = .ok (.iinc 10 1, 3) := by decide +kernel
theorem dX9_leap_232 : decode cX9_leap 232 = .ok (.goto (-45), 3) := by decide +kernel
theorem dX9_leap_235 : decode cX9_leap 235 = .ok (.return_, 1) := by decide +kernel
theorem dX9_greatestRatio_0 : decode cX9_greatestRatio 0 = .ok (.dconst 0, 1) := by decide +kernel
theorem dX9_greatestRatio_1 : decode cX9_greatestRatio 1 = .ok (.dstore_n 3, 1) := by decide +kernel
theorem dX9_greatestRatio_2 : decode cX9_greatestRatio 2 = .ok (.iconst 0, 1) := by decide +kernel
theorem dX9_greatestRatio_3 : decode cX9_greatestRatio 3 = .ok (.istore 5, 2) := by decide +kernel
theorem dX9_greatestRatio_5 : decode cX9_greatestRatio 5 = .ok (.iload 5, 2) := by decide +kernel
theorem dX9_greatestRatio_7 : decode cX9_greatestRatio 7 = .ok (.iload_n 2, 1) := by decide +kernel
theorem dX9_greatestRatio_8 : decode cX9_greatestRatio 8 = .ok (.if_icmp .ge 91, 3) := by decide +kernel
theorem dX9_greatestRatio_11 : decode cX9_greatestRatio 11 = .ok (.aload_n 0, 1) := by decide +kernel
theorem dX9_greatestRatio_12 : decode cX9_greatestRatio 12 = .ok (.getfield 146, 3) := by decide +kernel
theorem dX9_greatestRatio_15 : decode cX9_greatestRatio 15 = .ok (.iload 5, 2) := by decide +kernel
theorem dX9_greatestRatio_17 : decode cX9_greatestRatio 17 = .ok (.daload, 1) := by decide +kernel
theorem dX9_greatestRatio_18 : decode cX9_greatestRatio 18 = .ok (.invokestatic 221, 3) := by decide +kernel
theorem dX9_greatestRatio_21 : decode cX9_greatestRatio 21 = .ok (.dstore 6, 2) := by decide +kernel
theorem dX9_greatestRatio_23 : decode cX9_greatestRatio 23 = .ok (.aload_n 0, 1) := by decide +kernel
theorem dX9_greatestRatio_24 : decode cX9_greatestRatio 24 = .ok (.getfield 152, 3) := by decide +kernel
theorem dX9_greatestRatio_27 : decode cX9_greatestRatio 27 = .ok (.iload 5, 2) := by decide +kernel
theorem dX9_greatestRatio_29 : decode cX9_greatestRatio 29 = .ok (.daload, 1) := by decide +kernel
theorem dX9_greatestRatio_30 : decode cX9_greatestRatio 30 = .ok (.invokestatic 221, 3) := by decide +kernel
theorem dX9_greatestRatio_33 : decode cX9_greatestRatio 33 = .ok (.dstore 8, 2) := by decide +kernel
theorem dX9_greatestRatio_35 : decode cX9_greatestRatio 35 = .ok (.aload_n 0, 1) := by decide +kernel
theorem dX9_greatestRatio_36 : decode cX9_greatestRatio 36 = .ok (.getfield 158, 3) := by decide +kernel
theorem dX9_greatestRatio_39 : decode cX9_greatestRatio 39 = .ok (.iload 5, 2) := by decide +kernel
theorem dX9_greatestRatio_41 : decode cX9_greatestRatio 41 = .ok (.daload, 1) := by decide +kernel
theorem dX9_greatestRatio_42 : decode cX9_greatestRatio 42 = .ok (.invokestatic 221, 3) := by decide +kernel
theorem dX9_greatestRatio_45 : decode cX9_greatestRatio 45 = .ok (.aload_n 0, 1) := by decide +kernel
theorem dX9_greatestRatio_46 : decode cX9_greatestRatio 46 = .ok (.getfield 89, 3) := by decide +kernel
theorem dX9_greatestRatio_49 : decode cX9_greatestRatio 49 = .ok (.iload_n 1, 1) := by decide +kernel
theorem dX9_greatestRatio_50 : decode cX9_greatestRatio 50 = .ok (.daload, 1) := by decide +kernel
theorem dX9_greatestRatio_51 : decode cX9_greatestRatio 51 = .ok (.aload_n 0, 1) := by decide +kernel
theorem dX9_greatestRatio_52 : decode cX9_greatestRatio 52 = .ok (.getfield 92, 3) := by decide +kernel
theorem dX9_greatestRatio_55 : decode cX9_greatestRatio 55 = .ok (.iload_n 1, 1) := by decide +kernel
theorem dX9_greatestRatio_56 : decode cX9_greatestRatio 56 = .ok (.daload, 1) := by decide +kernel
theorem dX9_greatestRatio_57 : decode cX9_greatestRatio 57 = .ok (.dload 6, 2) := by decide +kernel
theorem dX9_greatestRatio_59 : decode cX9_greatestRatio 59 = .ok (.dload 8, 2) := by decide +kernel
theorem dX9_greatestRatio_61 : decode cX9_greatestRatio 61 = .ok (.dcmp .g, 1) := by decide +kernel
theorem dX9_greatestRatio_62 : decode cX9_greatestRatio 62 = .ok (.ifCond .ge 8, 3) := by decide +kernel
theorem dX9_greatestRatio_65 : decode cX9_greatestRatio 65 = .ok (.dload 8, 2) := by decide +kernel
theorem dX9_greatestRatio_67 : decode cX9_greatestRatio 67 = .ok (.goto 5, 3) := by decide +kernel
theorem dX9_greatestRatio_70 : decode cX9_greatestRatio 70 = .ok (.dload 6, 2) := by decide +kernel
theorem dX9_greatestRatio_72 : decode cX9_greatestRatio 72 = .ok (.invokestatic 211, 3) := by decide +kernel
theorem dX9_greatestRatio_75 : decode cX9_greatestRatio 75 = .ok (.invokestatic 214, 3) := by decide +kernel
theorem dX9_greatestRatio_78 : decode cX9_greatestRatio 78 = .ok (.invokestatic 208, 3) := by decide +kernel
theorem dX9_greatestRatio_81 : decode cX9_greatestRatio 81 = .ok (.dstore 10, 2) := by decide +kernel
theorem dX9_greatestRatio_83 : decode cX9_greatestRatio 83 = .ok (.dload 10, 2) := by decide +kernel
theorem dX9_greatestRatio_85 : decode cX9_greatestRatio 85 = .ok (.dload_n 3, 1) := by decide +kernel
theorem dX9_greatestRatio_86 : decode cX9_greatestRatio 86 = .ok (.dcmp .l, 1) := by decide +kernel
theorem dX9_greatestRatio_87 : decode cX9_greatestRatio 87 = .ok (.ifCond .le 6, 3) := by decide +kernel
theorem dX9_greatestRatio_90 : decode cX9_greatestRatio 90 = .ok (.dload 10, 2) := by decide +kernel
theorem dX9_greatestRatio_92 : decode cX9_greatestRatio 92 = .ok (.dstore_n 3, 1) := by decide +kernel
theorem dX9_greatestRatio_93 : decode cX9_greatestRatio 93 = .ok (.iinc 5 1, 3) := by decide +kernel
theorem dX9_greatestRatio_96 : decode cX9_greatestRatio 96 = .ok (.goto (-91), 3) := by decide +kernel
theorem dX9_greatestRatio_99 : decode cX9_greatestRatio 99 = .ok (.dload_n 3, 1) := by decide +kernel
theorem dX9_greatestRatio_100 : decode cX9_greatestRatio 100 = .ok (.dreturn, 1) := by decide +kernel
theorem dX9_goes_0 : decode cX9_goes 0 = .ok (.aload_n 0, 1) := by decide +kernel
theorem dX9_goes_1 : decode cX9_goes 1 = .ok (.getfield 52, 3) := by decide +kernel
theorem dX9_goes_4 : decode cX9_goes 4 = .ok (.iload_n 1, 1) := by decide +kernel
theorem dX9_goes_5 : decode cX9_goes 5 = .ok (.iaload, 1) := by decide +kernel
theorem dX9_goes_6 : decode cX9_goes 6 = .ok (.istore 7, 2) := by decide +kernel
theorem dX9_goes_8 : decode cX9_goes 8 = .ok (.aload_n 0, 1) := by decide +kernel
theorem dX9_goes_9 : decode cX9_goes 9 = .ok (.getfield 9, 3) := by decide +kernel
theorem dX9_goes_12 : decode cX9_goes 12 = .ok (.iload 7, 2) := by decide +kernel
theorem dX9_goes_14 : decode cX9_goes 14 = .ok (.iaload, 1) := by decide +kernel
theorem dX9_goes_15 : decode cX9_goes 15 = .ok (.istore 8, 2) := by decide +kernel
theorem dX9_goes_17 : decode cX9_goes 17 = .ok (.iconst 0, 1) := by decide +kernel
theorem dX9_goes_18 : decode cX9_goes 18 = .ok (.istore 9, 2) := by decide +kernel
theorem dX9_goes_20 : decode cX9_goes 20 = .ok (.dload_n 2, 1) := by decide +kernel
theorem dX9_goes_21 : decode cX9_goes 21 = .ok (.dstore 10, 2) := by decide +kernel
theorem dX9_goes_23 : decode cX9_goes 23 = .ok (.dconst 0, 1) := by decide +kernel
theorem dX9_goes_24 : decode cX9_goes 24 = .ok (.dstore 12, 2) := by decide +kernel
theorem dX9_goes_26 : decode cX9_goes 26 = .ok (.iconst 0, 1) := by decide +kernel
theorem dX9_goes_27 : decode cX9_goes 27 = .ok (.istore 14, 2) := by decide +kernel
theorem dX9_goes_29 : decode cX9_goes 29 = .ok (.iconst 0, 1) := by decide +kernel
theorem dX9_goes_30 : decode cX9_goes 30 = .ok (.istore 15, 2) := by decide +kernel
theorem dX9_goes_32 : decode cX9_goes 32 = .ok (.iload 15, 2) := by decide +kernel
theorem dX9_goes_34 : decode cX9_goes 34 = .ok (.iload 8, 2) := by decide +kernel
theorem dX9_goes_36 : decode cX9_goes 36 = .ok (.if_icmp .ge 28, 3) := by decide +kernel
theorem dX9_goes_39 : decode cX9_goes 39 = .ok (.aload_n 0, 1) := by decide +kernel
theorem dX9_goes_40 : decode cX9_goes 40 = .ok (.getfield 146, 3) := by decide +kernel
theorem dX9_goes_43 : decode cX9_goes 43 = .ok (.iload 15, 2) := by decide +kernel
theorem dX9_goes_45 : decode cX9_goes 45 = .ok (.aload_n 0, 1) := by decide +kernel
theorem dX9_goes_46 : decode cX9_goes 46 = .ok (.getfield 98, 3) := by decide +kernel
theorem dX9_goes_49 : decode cX9_goes 49 = .ok (.bipush 6, 2) := by decide +kernel
theorem dX9_goes_51 : decode cX9_goes 51 = .ok (.iload_n 1, 1) := by decide +kernel
theorem dX9_goes_52 : decode cX9_goes 52 = .ok (.imul, 1) := by decide +kernel
theorem dX9_goes_53 : decode cX9_goes 53 = .ok (.iload 15, 2) := by decide +kernel
theorem dX9_goes_55 : decode cX9_goes 55 = .ok (.iadd, 1) := by decide +kernel
theorem dX9_goes_56 : decode cX9_goes 56 = .ok (.daload, 1) := by decide +kernel
theorem dX9_goes_57 : decode cX9_goes 57 = .ok (.dastore, 1) := by decide +kernel
theorem dX9_goes_58 : decode cX9_goes 58 = .ok (.iinc 15 1, 3) := by decide +kernel
theorem dX9_goes_61 : decode cX9_goes 61 = .ok (.goto (-29), 3) := by decide +kernel
theorem dX9_goes_64 : decode cX9_goes 64 = .ok (.iload 14, 2) := by decide +kernel
theorem dX9_goes_66 : decode cX9_goes 66 = .ok (.ifCond .ne 128, 3) := by decide +kernel
theorem dX9_goes_69 : decode cX9_goes 69 = .ok (.iload 9, 2) := by decide +kernel
theorem dX9_goes_71 : decode cX9_goes 71 = .ok (.bipush 20, 2) := by decide +kernel
theorem dX9_goes_73 : decode cX9_goes 73 = .ok (.if_icmp .ne 6, 3) := by decide +kernel
theorem dX9_goes_76 : decode cX9_goes 76 = .ok (.bipush (-5), 2) := by decide +kernel
theorem dX9_goes_78 : decode cX9_goes 78 = .ok (.ireturn, 1) := by decide +kernel
theorem dX9_goes_79 : decode cX9_goes 79 = .ok (.aload_n 0, 1) := by decide +kernel
theorem dX9_goes_80 : decode cX9_goes 80 = .ok (.iload 7, 2) := by decide +kernel
theorem dX9_goes_82 : decode cX9_goes 82 = .ok (.aload_n 0, 1) := by decide +kernel
theorem dX9_goes_83 : decode cX9_goes 83 = .ok (.getfield 55, 3) := by decide +kernel
theorem dX9_goes_86 : decode cX9_goes 86 = .ok (.iload_n 1, 1) := by decide +kernel
theorem dX9_goes_87 : decode cX9_goes 87 = .ok (.iaload, 1) := by decide +kernel
theorem dX9_goes_88 : decode cX9_goes 88 = .ok (.aload_n 0, 1) := by decide +kernel
theorem dX9_goes_89 : decode cX9_goes 89 = .ok (.getfield 83, 3) := by decide +kernel
theorem dX9_goes_92 : decode cX9_goes 92 = .ok (.iload_n 1, 1) := by decide +kernel
theorem dX9_goes_93 : decode cX9_goes 93 = .ok (.daload, 1) := by decide +kernel
theorem dX9_goes_94 : decode cX9_goes 94 = .ok (.dload 10, 2) := by decide +kernel
theorem dX9_goes_96 : decode cX9_goes 96 = .ok (.invokevirtual 301, 3) := by decide +kernel
theorem dX9_goes_99 : decode cX9_goes 99 = .ok (.ifCond .eq 6, 3) := by decide +kernel
theorem dX9_goes_102 : decode cX9_goes 102 = .ok (.bipush (-4), 2) := by decide +kernel
theorem dX9_goes_104 : decode cX9_goes 104 = .ok (.ireturn, 1) := by decide +kernel
theorem dX9_goes_105 : decode cX9_goes 105 = .ok (.aload_n 0, 1) := by decide +kernel
theorem dX9_goes_106 : decode cX9_goes 106 = .ok (.getfield 55, 3) := by decide +kernel
theorem dX9_goes_109 : decode cX9_goes 109 = .ok (.iload_n 1, 1) := by decide +kernel
theorem dX9_goes_110 : decode cX9_goes 110 = .ok (.iaload, 1) := by decide +kernel
theorem dX9_goes_111 : decode cX9_goes 111 = .ok (.iconst 4, 1) := by decide +kernel
theorem dX9_goes_112 : decode cX9_goes 112 = .ok (.if_icmp .ne 13, 3) := by decide +kernel
theorem dX9_goes_115 : decode cX9_goes 115 = .ok (.aload_n 0, 1) := by decide +kernel
theorem dX9_goes_116 : decode cX9_goes 116 = .ok (.iload_n 1, 1) := by decide +kernel
theorem dX9_goes_117 : decode cX9_goes 117 = .ok (.iload 8, 2) := by decide +kernel
theorem dX9_goes_119 : decode cX9_goes 119 = .ok (.invokevirtual 305, 3) := by decide +kernel
theorem dX9_goes_122 : decode cX9_goes 122 = .ok (.goto 4, 3) := by decide +kernel
theorem dX9_goes_125 : decode cX9_goes 125 = .ok (.dconst 0, 1) := by decide +kernel
theorem dX9_goes_126 : decode cX9_goes 126 = .ok (.dstore 12, 2) := by decide +kernel
theorem dX9_goes_128 : decode cX9_goes 128 = .ok (.dload 12, 2) := by decide +kernel
theorem dX9_goes_130 : decode cX9_goes 130 = .ok (.dconst 1, 1) := by decide +kernel
theorem dX9_goes_131 : decode cX9_goes 131 = .ok (.dcmp .g, 1) := by decide +kernel
theorem dX9_goes_132 : decode cX9_goes 132 = .ok (.ifCond .gt 7, 3) := by decide +kernel
theorem dX9_goes_135 : decode cX9_goes 135 = .ok (.iconst 1, 1) := by decide +kernel
theorem dX9_goes_136 : decode cX9_goes 136 = .ok (.goto 4, 3) := by decide +kernel
theorem dX9_goes_139 : decode cX9_goes 139 = .ok (.iconst 0, 1) := by decide +kernel
theorem dX9_goes_140 : decode cX9_goes 140 = .ok (.istore 14, 2) := by decide +kernel
theorem dX9_goes_142 : decode cX9_goes 142 = .ok (.iload 14, 2) := by decide +kernel
theorem dX9_goes_144 : decode cX9_goes 144 = .ok (.ifCond .eq 6, 3) := by decide +kernel
theorem dX9_goes_147 : decode cX9_goes 147 = .ok (.goto (-83), 3) := by decide +kernel
theorem dX9_goes_150 : decode cX9_goes 150 = .ok (.dload 12, 2) := by decide +kernel
theorem dX9_goes_152 : decode cX9_goes 152 = .ok (.ldc2_w 297, 3) := by decide +kernel
theorem dX9_goes_155 : decode cX9_goes 155 = .ok (.dcmp .g, 1) := by decide +kernel
theorem dX9_goes_156 : decode cX9_goes 156 = .ok (.ifCond .gt 12, 3) := by decide +kernel
theorem dX9_goes_159 : decode cX9_goes 159 = .ok (.dload 10, 2) := by decide +kernel
theorem dX9_goes_161 : decode cX9_goes 161 = .ok (.ldc2_w 285, 3) := by decide +kernel
theorem dX9_goes_164 : decode cX9_goes 164 = .ok (.ddiv, 1) := by decide +kernel
theorem dX9_goes_165 : decode cX9_goes 165 = .ok (.goto 9, 3) := by decide +kernel
theorem dX9_goes_168 : decode cX9_goes 168 = .ok (.dload 10, 2) := by decide +kernel
theorem dX9_goes_170 : decode cX9_goes 170 = .ok (.ldc2_w 289, 3) := by decide +kernel
theorem dX9_goes_173 : decode cX9_goes 173 = .ok (.ddiv, 1) := by decide +kernel
theorem dX9_goes_174 : decode cX9_goes 174 = .ok (.dstore 10, 2) := by decide +kernel
theorem dX9_goes_176 : decode cX9_goes 176 = .ok (.iinc 9 1, 3) := by decide +kernel
theorem dX9_goes_179 : decode cX9_goes 179 = .ok (.dload 10, 2) := by decide +kernel
theorem dX9_goes_181 : decode cX9_goes 181 = .ok (.invokestatic 221, 3) := by decide +kernel
theorem dX9_goes_184 : decode cX9_goes 184 = .ok (.ldc2_w 309, 3) := by decide +kernel
theorem dX9_goes_187 : decode cX9_goes 187 = .ok (.dcmp .g, 1) := by decide +kernel
theorem dX9_goes_188 : decode cX9_goes 188 = .ok (.ifCond .ge (-124), 3) := by decide +kernel
theorem dX9_goes_191 : decode cX9_goes 191 = .ok (.bipush (-5), 2) := by decide +kernel
theorem dX9_goes_193 : decode cX9_goes 193 = .ok (.ireturn, 1) := by decide +kernel
theorem dX9_goes_194 : decode cX9_goes 194 = .ok (.iload 4, 2) := by decide +kernel
theorem dX9_goes_196 : decode cX9_goes 196 = .ok (.ifCond .eq 12, 3) := by decide +kernel
theorem dX9_goes_199 : decode cX9_goes 199 = .ok (.iload 9, 2) := by decide +kernel
theorem dX9_goes_201 : decode cX9_goes 201 = .ok (.ifCond .ne 7, 3) := by decide +kernel
theorem dX9_goes_204 : decode cX9_goes 204 = .ok (.iconst 1, 1) := by decide +kernel
theorem dX9_goes_205 : decode cX9_goes 205 = .ok (.goto 4, 3) := by decide +kernel
theorem dX9_goes_208 : decode cX9_goes 208 = .ok (.iconst 0, 1) := by decide +kernel
theorem dX9_goes_209 : decode cX9_goes 209 = .ok (.istore 15, 2) := by decide +kernel
theorem dX9_goes_211 : decode cX9_goes 211 = .ok (.iload 15, 2) := by decide +kernel
theorem dX9_goes_213 : decode cX9_goes 213 = .ok (.ifCond .ne 36, 3) := by decide +kernel
theorem dX9_goes_216 : decode cX9_goes 216 = .ok (.aload_n 0, 1) := by decide +kernel
theorem dX9_goes_217 : decode cX9_goes 217 = .ok (.getfield 86, 3) := by decide +kernel
theorem dX9_goes_220 : decode cX9_goes 220 = .ok (.iload_n 1, 1) := by decide +kernel
theorem dX9_goes_221 : decode cX9_goes 221 = .ok (.aload_n 0, 1) := by decide +kernel
theorem dX9_goes_222 : decode cX9_goes 222 = .ok (.getfield 55, 3) := by decide +kernel
theorem dX9_goes_225 : decode cX9_goes 225 = .ok (.iload_n 1, 1) := by decide +kernel
theorem dX9_goes_226 : decode cX9_goes 226 = .ok (.iaload, 1) := by decide +kernel
theorem dX9_goes_227 : decode cX9_goes 227 = .ok (.iconst 4, 1) := by decide +kernel
theorem dX9_goes_228 : decode cX9_goes 228 = .ok (.if_icmp .ne 18, 3) := by decide +kernel
theorem dX9_goes_231 : decode cX9_goes 231 = .ok (.iload 9, 2) := by decide +kernel
theorem dX9_goes_233 : decode cX9_goes 233 = .ok (.ifCond .ne 13, 3) := by decide +kernel
theorem dX9_goes_236 : decode cX9_goes 236 = .ok (.dload 10, 2) := by decide +kernel
theorem dX9_goes_238 : decode cX9_goes 238 = .ok (.dload 12, 2) := by decide +kernel
theorem dX9_goes_240 : decode cX9_goes 240 = .ok (.invokestatic 311, 3) := by decide +kernel
theorem dX9_goes_243 : decode cX9_goes 243 = .ok (.goto 5, 3) := by decide +kernel
theorem dX9_goes_246 : decode cX9_goes 246 = .ok (.dload 10, 2) := by decide +kernel
theorem dX9_goes_248 : decode cX9_goes 248 = .ok (.dastore, 1) := by decide +kernel
theorem dX9_goes_249 : decode cX9_goes 249 = .ok (.aload_n 0, 1) := by decide +kernel
theorem dX9_goes_250 : decode cX9_goes 250 = .ok (.iload_n 1, 1) := by decide +kernel
theorem dX9_goes_251 : decode cX9_goes 251 = .ok (.iload 7, 2) := by decide +kernel
theorem dX9_goes_253 : decode cX9_goes 253 = .ok (.iload 8, 2) := by decide +kernel
theorem dX9_goes_255 : decode cX9_goes 255 = .ok (.dload 10, 2) := by decide +kernel
theorem dX9_goes_257 : decode cX9_goes 257 = .ok (.invokevirtual 314, 3) := by decide +kernel
theorem dX9_goes_260 : decode cX9_goes 260 = .ok (.aload_n 0, 1) := by decide +kernel
theorem dX9_goes_261 : decode cX9_goes 261 = .ok (.getfield 95, 3) := by decide +kernel
theorem dX9_goes_264 : decode cX9_goes 264 = .ok (.iload_n 1, 1) := by decide +kernel
theorem dX9_goes_265 : decode cX9_goes 265 = .ok (.dload 12, 2) := by decide +kernel
theorem dX9_goes_267 : decode cX9_goes 267 = .ok (.dastore, 1) := by decide +kernel
theorem dX9_goes_268 : decode cX9_goes 268 = .ok (.aload_n 0, 1) := by decide +kernel
theorem dX9_goes_269 : decode cX9_goes 269 = .ok (.getfield 61, 3) := by decide +kernel
theorem dX9_goes_272 : decode cX9_goes 272 = .ok (.iload_n 1, 1) := by decide +kernel
theorem dX9_goes_273 : decode cX9_goes 273 = .ok (.dup2, 1) := by decide +kernel
theorem dX9_goes_274 : decode cX9_goes 274 = .ok (.iaload, 1) := by decide +kernel
theorem dX9_goes_275 : decode cX9_goes 275 = .ok (.iconst 1, 1) := by decide +kernel
theorem dX9_goes_276 : decode cX9_goes 276 = .ok (.iadd, 1) := by decide +kernel
theorem dX9_goes_277 : decode cX9_goes 277 = .ok (.iastore, 1) := by decide +kernel
theorem dX9_goes_278 : decode cX9_goes 278 = .ok (.aload_n 0, 1) := by decide +kernel
theorem dX9_goes_279 : decode cX9_goes 279 = .ok (.getfield 64, 3) := by decide +kernel
theorem dX9_goes_282 : decode cX9_goes 282 = .ok (.iload_n 1, 1) := by decide +kernel
theorem dX9_goes_283 : decode cX9_goes 283 = .ok (.dup2, 1) := by decide +kernel
theorem dX9_goes_284 : decode cX9_goes 284 = .ok (.iaload, 1) := by decide +kernel
theorem dX9_goes_285 : decode cX9_goes 285 = .ok (.iload 9, 2) := by decide +kernel
theorem dX9_goes_287 : decode cX9_goes 287 = .ok (.iadd, 1) := by decide +kernel
theorem dX9_goes_288 : decode cX9_goes 288 = .ok (.iastore, 1) := by decide +kernel
theorem dX9_goes_289 : decode cX9_goes 289 = .ok (.aload_n 0, 1) := by decide +kernel
theorem dX9_goes_290 : decode cX9_goes 290 = .ok (.getfield 83, 3) := by decide +kernel
theorem dX9_goes_293 : decode cX9_goes 293 = .ok (.iload_n 1, 1) := by decide +kernel
theorem dX9_goes_294 : decode cX9_goes 294 = .ok (.iload 15, 2) := by decide +kernel
theorem dX9_goes_296 : decode cX9_goes 296 = .ok (.ifCond .eq 8, 3) := by decide +kernel
theorem dX9_goes_299 : decode cX9_goes 299 = .ok (.dload 5, 2) := by decide +kernel
theorem dX9_goes_301 : decode cX9_goes 301 = .ok (.goto 12, 3) := by decide +kernel
theorem dX9_goes_304 : decode cX9_goes 304 = .ok (.aload_n 0, 1) := by decide +kernel
theorem dX9_goes_305 : decode cX9_goes 305 = .ok (.getfield 122, 3) := by decide +kernel
theorem dX9_goes_308 : decode cX9_goes 308 = .ok (.iload_n 1, 1) := by decide +kernel
theorem dX9_goes_309 : decode cX9_goes 309 = .ok (.daload, 1) := by decide +kernel
theorem dX9_goes_310 : decode cX9_goes 310 = .ok (.dload 10, 2) := by decide +kernel
theorem dX9_goes_312 : decode cX9_goes 312 = .ok (.dadd, 1) := by decide +kernel
theorem dX9_goes_313 : decode cX9_goes 313 = .ok (.dastore, 1) := by decide +kernel
theorem dX9_goes_314 : decode cX9_goes 314 = .ok (.iconst 0, 1) := by decide +kernel
theorem dX9_goes_315 : decode cX9_goes 315 = .ok (.istore 16, 2) := by decide +kernel
theorem dX9_goes_317 : decode cX9_goes 317 = .ok (.iload 16, 2) := by decide +kernel
theorem dX9_goes_319 : decode cX9_goes 319 = .ok (.iload 8, 2) := by decide +kernel
theorem dX9_goes_321 : decode cX9_goes 321 = .ok (.if_icmp .ge 33, 3) := by decide +kernel
theorem dX9_goes_324 : decode cX9_goes 324 = .ok (.aload_n 0, 1) := by decide +kernel
theorem dX9_goes_325 : decode cX9_goes 325 = .ok (.getfield 98, 3) := by decide +kernel
theorem dX9_goes_328 : decode cX9_goes 328 = .ok (.bipush 6, 2) := by decide +kernel
theorem dX9_goes_330 : decode cX9_goes 330 = .ok (.iload_n 1, 1) := by decide +kernel
theorem dX9_goes_331 : decode cX9_goes 331 = .ok (.imul, 1) := by decide +kernel
theorem dX9_goes_332 : decode cX9_goes 332 = .ok (.iload 16, 2) := by decide +kernel
theorem dX9_goes_334 : decode cX9_goes 334 = .ok (.iadd, 1) := by decide +kernel
theorem dX9_goes_335 : decode cX9_goes 335 = .ok (.aload_n 0, 1) := by decide +kernel
theorem dX9_goes_336 : decode cX9_goes 336 = .ok (.getfield 131, 3) := by decide +kernel
theorem dX9_goes_339 : decode cX9_goes 339 = .ok (.bipush 6, 2) := by decide +kernel
theorem dX9_goes_341 : decode cX9_goes 341 = .ok (.iload_n 1, 1) := by decide +kernel
theorem dX9_goes_342 : decode cX9_goes 342 = .ok (.imul, 1) := by decide +kernel
theorem dX9_goes_343 : decode cX9_goes 343 = .ok (.iload 16, 2) := by decide +kernel
theorem dX9_goes_345 : decode cX9_goes 345 = .ok (.iadd, 1) := by decide +kernel
theorem dX9_goes_346 : decode cX9_goes 346 = .ok (.daload, 1) := by decide +kernel
theorem dX9_goes_347 : decode cX9_goes 347 = .ok (.dastore, 1) := by decide +kernel
theorem dX9_goes_348 : decode cX9_goes 348 = .ok (.iinc 16 1, 3) := by decide +kernel
theorem dX9_goes_351 : decode cX9_goes 351 = .ok (.goto (-34), 3) := by decide +kernel
theorem dX9_goes_354 : decode cX9_goes 354 = .ok (.aload_n 0, 1) := by decide +kernel
theorem dX9_goes_355 : decode cX9_goes 355 = .ok (.iload_n 1, 1) := by decide +kernel
theorem dX9_goes_356 : decode cX9_goes 356 = .ok (.invokevirtual 318, 3) := by decide +kernel
theorem dX9_goes_359 : decode cX9_goes 359 = .ok (.iload 9, 2) := by decide +kernel
theorem dX9_goes_361 : decode cX9_goes 361 = .ok (.ireturn, 1) := by decide +kernel
theorem dX9_longer_0 : decode cX9_longer 0 = .ok (.dload_n 2, 1) := by decide +kernel
theorem dX9_longer_1 : decode cX9_longer 1 = .ok (.ldc2_w 322, 3) := by decide +kernel
theorem dX9_longer_4 : decode cX9_longer 4 = .ok (.dcmp .g, 1) := by decide +kernel
theorem dX9_longer_5 : decode cX9_longer 5 = .ok (.ifCond .gt 11, 3) := by decide +kernel
theorem dX9_longer_8 : decode cX9_longer 8 = .ok (.dload_n 0, 1) := by decide +kernel
theorem dX9_longer_9 : decode cX9_longer 9 = .ok (.ldc2_w 289, 3) := by decide +kernel
theorem dX9_longer_12 : decode cX9_longer 12 = .ok (.dmul, 1) := by decide +kernel
theorem dX9_longer_13 : decode cX9_longer 13 = .ok (.goto 20, 3) := by decide +kernel
theorem dX9_longer_16 : decode cX9_longer 16 = .ok (.dload_n 2, 1) := by decide +kernel
theorem dX9_longer_17 : decode cX9_longer 17 = .ok (.ldc2_w 324, 3) := by decide +kernel
theorem dX9_longer_20 : decode cX9_longer 20 = .ok (.dcmp .g, 1) := by decide +kernel
theorem dX9_longer_21 : decode cX9_longer 21 = .ok (.ifCond .gt 11, 3) := by decide +kernel
theorem dX9_longer_24 : decode cX9_longer 24 = .ok (.dload_n 0, 1) := by decide +kernel
theorem dX9_longer_25 : decode cX9_longer 25 = .ok (.ldc2_w 285, 3) := by decide +kernel
theorem dX9_longer_28 : decode cX9_longer 28 = .ok (.dmul, 1) := by decide +kernel
theorem dX9_longer_29 : decode cX9_longer 29 = .ok (.goto 4, 3) := by decide +kernel
theorem dX9_longer_32 : decode cX9_longer 32 = .ok (.dload_n 0, 1) := by decide +kernel
theorem dX9_longer_33 : decode cX9_longer 33 = .ok (.dstore 4, 2) := by decide +kernel
theorem dX9_longer_35 : decode cX9_longer 35 = .ok (.dload 4, 2) := by decide +kernel
theorem dX9_longer_37 : decode cX9_longer 37 = .ok (.invokestatic 221, 3) := by decide +kernel
theorem dX9_longer_40 : decode cX9_longer 40 = .ok (.ldc2_w 326, 3) := by decide +kernel
theorem dX9_longer_43 : decode cX9_longer 43 = .ok (.dcmp .l, 1) := by decide +kernel
theorem dX9_longer_44 : decode cX9_longer 44 = .ok (.ifCond .le 20, 3) := by decide +kernel
theorem dX9_longer_47 : decode cX9_longer 47 = .ok (.dload 4, 2) := by decide +kernel
theorem dX9_longer_49 : decode cX9_longer 49 = .ok (.dconst 0, 1) := by decide +kernel
theorem dX9_longer_50 : decode cX9_longer 50 = .ok (.dcmp .g, 1) := by decide +kernel
theorem dX9_longer_51 : decode cX9_longer 51 = .ok (.ifCond .ge 9, 3) := by decide +kernel
theorem dX9_longer_54 : decode cX9_longer 54 = .ok (.ldc2_w 328, 3) := by decide +kernel
theorem dX9_longer_57 : decode cX9_longer 57 = .ok (.goto 6, 3) := by decide +kernel
theorem dX9_longer_60 : decode cX9_longer 60 = .ok (.ldc2_w 326, 3) := by decide +kernel
theorem dX9_longer_63 : decode cX9_longer 63 = .ok (.dreturn, 1) := by decide +kernel
theorem dX9_longer_64 : decode cX9_longer 64 = .ok (.dload 4, 2) := by decide +kernel
theorem dX9_longer_66 : decode cX9_longer 66 = .ok (.dreturn, 1) := by decide +kernel
theorem dX9_keepsStep_0 : decode cX9_keepsStep 0 = .ok (.aload_n 0, 1) := by decide +kernel
theorem dX9_keepsStep_1 : decode cX9_keepsStep 1 = .ok (.getfield 77, 3) := by decide +kernel
theorem dX9_keepsStep_4 : decode cX9_keepsStep 4 = .ok (.iload_n 1, 1) := by decide +kernel
theorem dX9_keepsStep_5 : decode cX9_keepsStep 5 = .ok (.iconst 1, 1) := by decide +kernel
theorem dX9_keepsStep_6 : decode cX9_keepsStep 6 = .ok (.bastore, 1) := by decide +kernel
theorem dX9_keepsStep_7 : decode cX9_keepsStep 7 = .ok (.aload_n 0, 1) := by decide +kernel
theorem dX9_keepsStep_8 : decode cX9_keepsStep 8 = .ok (.getfield 119, 3) := by decide +kernel
theorem dX9_keepsStep_11 : decode cX9_keepsStep 11 = .ok (.iload_n 1, 1) := by decide +kernel
theorem dX9_keepsStep_12 : decode cX9_keepsStep 12 = .ok (.aload_n 0, 1) := by decide +kernel
theorem dX9_keepsStep_13 : decode cX9_keepsStep 13 = .ok (.getfield 55, 3) := by decide +kernel
theorem dX9_keepsStep_16 : decode cX9_keepsStep 16 = .ok (.iload_n 1, 1) := by decide +kernel
theorem dX9_keepsStep_17 : decode cX9_keepsStep 17 = .ok (.iaload, 1) := by decide +kernel
theorem dX9_keepsStep_18 : decode cX9_keepsStep 18 = .ok (.iastore, 1) := by decide +kernel
theorem dX9_keepsStep_19 : decode cX9_keepsStep 19 = .ok (.aload_n 0, 1) := by decide +kernel
theorem dX9_keepsStep_20 : decode cX9_keepsStep 20 = .ok (.getfield 122, 3) := by decide +kernel
theorem dX9_keepsStep_23 : decode cX9_keepsStep 23 = .ok (.iload_n 1, 1) := by decide +kernel
theorem dX9_keepsStep_24 : decode cX9_keepsStep 24 = .ok (.aload_n 0, 1) := by decide +kernel
theorem dX9_keepsStep_25 : decode cX9_keepsStep 25 = .ok (.getfield 83, 3) := by decide +kernel
theorem dX9_keepsStep_28 : decode cX9_keepsStep 28 = .ok (.iload_n 1, 1) := by decide +kernel
theorem dX9_keepsStep_29 : decode cX9_keepsStep 29 = .ok (.daload, 1) := by decide +kernel
theorem dX9_keepsStep_30 : decode cX9_keepsStep 30 = .ok (.dastore, 1) := by decide +kernel
theorem dX9_keepsStep_31 : decode cX9_keepsStep 31 = .ok (.aload_n 0, 1) := by decide +kernel
theorem dX9_keepsStep_32 : decode cX9_keepsStep 32 = .ok (.getfield 125, 3) := by decide +kernel
theorem dX9_keepsStep_35 : decode cX9_keepsStep 35 = .ok (.iload_n 1, 1) := by decide +kernel
theorem dX9_keepsStep_36 : decode cX9_keepsStep 36 = .ok (.dload 4, 2) := by decide +kernel
theorem dX9_keepsStep_38 : decode cX9_keepsStep 38 = .ok (.dastore, 1) := by decide +kernel
theorem dX9_keepsStep_39 : decode cX9_keepsStep 39 = .ok (.aload_n 0, 1) := by decide +kernel
theorem dX9_keepsStep_40 : decode cX9_keepsStep 40 = .ok (.getfield 67, 3) := by decide +kernel
theorem dX9_keepsStep_43 : decode cX9_keepsStep 43 = .ok (.iload_n 1, 1) := by decide +kernel
theorem dX9_keepsStep_44 : decode cX9_keepsStep 44 = .ok (.aload_n 0, 1) := by decide +kernel
theorem dX9_keepsStep_45 : decode cX9_keepsStep 45 = .ok (.getfield 250, 3) := by decide +kernel
theorem dX9_keepsStep_48 : decode cX9_keepsStep 48 = .ok (.iastore, 1) := by decide +kernel
theorem dX9_keepsStep_49 : decode cX9_keepsStep 49 = .ok (.iconst 0, 1) := by decide +kernel
theorem dX9_keepsStep_50 : decode cX9_keepsStep 50 = .ok (.istore 6, 2) := by decide +kernel
theorem dX9_keepsStep_52 : decode cX9_keepsStep 52 = .ok (.iload 6, 2) := by decide +kernel
theorem dX9_keepsStep_54 : decode cX9_keepsStep 54 = .ok (.iload_n 3, 1) := by decide +kernel
theorem dX9_keepsStep_55 : decode cX9_keepsStep 55 = .ok (.if_icmp .ge 148, 3) := by decide +kernel
theorem dX9_keepsStep_58 : decode cX9_keepsStep 58 = .ok (.bipush 6, 2) := by decide +kernel
theorem dX9_keepsStep_60 : decode cX9_keepsStep 60 = .ok (.iload_n 1, 1) := by decide +kernel
theorem dX9_keepsStep_61 : decode cX9_keepsStep 61 = .ok (.imul, 1) := by decide +kernel
theorem dX9_keepsStep_62 : decode cX9_keepsStep 62 = .ok (.iload 6, 2) := by decide +kernel
theorem dX9_keepsStep_64 : decode cX9_keepsStep 64 = .ok (.iadd, 1) := by decide +kernel
theorem dX9_keepsStep_65 : decode cX9_keepsStep 65 = .ok (.istore 7, 2) := by decide +kernel
theorem dX9_keepsStep_67 : decode cX9_keepsStep 67 = .ok (.aload_n 0, 1) := by decide +kernel
theorem dX9_keepsStep_68 : decode cX9_keepsStep 68 = .ok (.getfield 128, 3) := by decide +kernel
theorem dX9_keepsStep_71 : decode cX9_keepsStep 71 = .ok (.iload 7, 2) := by decide +kernel
theorem dX9_keepsStep_73 : decode cX9_keepsStep 73 = .ok (.aload_n 0, 1) := by decide +kernel
theorem dX9_keepsStep_74 : decode cX9_keepsStep 74 = .ok (.getfield 146, 3) := by decide +kernel
theorem dX9_keepsStep_77 : decode cX9_keepsStep 77 = .ok (.iload 6, 2) := by decide +kernel
theorem dX9_keepsStep_79 : decode cX9_keepsStep 79 = .ok (.daload, 1) := by decide +kernel
theorem dX9_keepsStep_80 : decode cX9_keepsStep 80 = .ok (.dastore, 1) := by decide +kernel
theorem dX9_keepsStep_81 : decode cX9_keepsStep 81 = .ok (.aload_n 0, 1) := by decide +kernel
theorem dX9_keepsStep_82 : decode cX9_keepsStep 82 = .ok (.getfield 131, 3) := by decide +kernel
theorem dX9_keepsStep_85 : decode cX9_keepsStep 85 = .ok (.iload 7, 2) := by decide +kernel
theorem dX9_keepsStep_87 : decode cX9_keepsStep 87 = .ok (.aload_n 0, 1) := by decide +kernel
theorem dX9_keepsStep_88 : decode cX9_keepsStep 88 = .ok (.getfield 152, 3) := by decide +kernel
theorem dX9_keepsStep_91 : decode cX9_keepsStep 91 = .ok (.iload 6, 2) := by decide +kernel
theorem dX9_keepsStep_93 : decode cX9_keepsStep 93 = .ok (.daload, 1) := by decide +kernel
theorem dX9_keepsStep_94 : decode cX9_keepsStep 94 = .ok (.dastore, 1) := by decide +kernel
theorem dX9_keepsStep_95 : decode cX9_keepsStep 95 = .ok (.aload_n 0, 1) := by decide +kernel
theorem dX9_keepsStep_96 : decode cX9_keepsStep 96 = .ok (.getfield 134, 3) := by decide +kernel
theorem dX9_keepsStep_99 : decode cX9_keepsStep 99 = .ok (.iload 7, 2) := by decide +kernel
theorem dX9_keepsStep_101 : decode cX9_keepsStep 101 = .ok (.aload_n 0, 1) := by decide +kernel
theorem dX9_keepsStep_102 : decode cX9_keepsStep 102 = .ok (.getfield 161, 3) := by decide +kernel
theorem dX9_keepsStep_105 : decode cX9_keepsStep 105 = .ok (.iload 6, 2) := by decide +kernel
theorem dX9_keepsStep_107 : decode cX9_keepsStep 107 = .ok (.daload, 1) := by decide +kernel
theorem dX9_keepsStep_108 : decode cX9_keepsStep 108 = .ok (.dastore, 1) := by decide +kernel
theorem dX9_keepsStep_109 : decode cX9_keepsStep 109 = .ok (.aload_n 0, 1) := by decide +kernel
theorem dX9_keepsStep_110 : decode cX9_keepsStep 110 = .ok (.getfield 140, 3) := by decide +kernel
theorem dX9_keepsStep_113 : decode cX9_keepsStep 113 = .ok (.iconst 5, 1) := by decide +kernel
theorem dX9_keepsStep_114 : decode cX9_keepsStep 114 = .ok (.iload 7, 2) := by decide +kernel
theorem dX9_keepsStep_116 : decode cX9_keepsStep 116 = .ok (.imul, 1) := by decide +kernel
theorem dX9_keepsStep_117 : decode cX9_keepsStep 117 = .ok (.aload_n 0, 1) := by decide +kernel
theorem dX9_keepsStep_118 : decode cX9_keepsStep 118 = .ok (.getfield 161, 3) := by decide +kernel
theorem dX9_keepsStep_121 : decode cX9_keepsStep 121 = .ok (.iload 6, 2) := by decide +kernel
theorem dX9_keepsStep_123 : decode cX9_keepsStep 123 = .ok (.daload, 1) := by decide +kernel
theorem dX9_keepsStep_124 : decode cX9_keepsStep 124 = .ok (.dastore, 1) := by decide +kernel
theorem dX9_keepsStep_125 : decode cX9_keepsStep 125 = .ok (.aload_n 0, 1) := by decide +kernel
theorem dX9_keepsStep_126 : decode cX9_keepsStep 126 = .ok (.getfield 140, 3) := by decide +kernel
theorem dX9_keepsStep_129 : decode cX9_keepsStep 129 = .ok (.iconst 5, 1) := by decide +kernel
theorem dX9_keepsStep_130 : decode cX9_keepsStep 130 = .ok (.iload 7, 2) := by decide +kernel
theorem dX9_keepsStep_132 : decode cX9_keepsStep 132 = .ok (.imul, 1) := by decide +kernel
theorem dX9_keepsStep_133 : decode cX9_keepsStep 133 = .ok (.iconst 1, 1) := by decide +kernel
theorem dX9_keepsStep_134 : decode cX9_keepsStep 134 = .ok (.iadd, 1) := by decide +kernel
theorem dX9_keepsStep_135 : decode cX9_keepsStep 135 = .ok (.aload_n 0, 1) := by decide +kernel
theorem dX9_keepsStep_136 : decode cX9_keepsStep 136 = .ok (.getfield 164, 3) := by decide +kernel
theorem dX9_keepsStep_139 : decode cX9_keepsStep 139 = .ok (.iload 6, 2) := by decide +kernel
theorem dX9_keepsStep_141 : decode cX9_keepsStep 141 = .ok (.daload, 1) := by decide +kernel
theorem dX9_keepsStep_142 : decode cX9_keepsStep 142 = .ok (.dastore, 1) := by decide +kernel
theorem dX9_keepsStep_143 : decode cX9_keepsStep 143 = .ok (.aload_n 0, 1) := by decide +kernel
theorem dX9_keepsStep_144 : decode cX9_keepsStep 144 = .ok (.getfield 140, 3) := by decide +kernel
theorem dX9_keepsStep_147 : decode cX9_keepsStep 147 = .ok (.iconst 5, 1) := by decide +kernel
theorem dX9_keepsStep_148 : decode cX9_keepsStep 148 = .ok (.iload 7, 2) := by decide +kernel
theorem dX9_keepsStep_150 : decode cX9_keepsStep 150 = .ok (.imul, 1) := by decide +kernel
theorem dX9_keepsStep_151 : decode cX9_keepsStep 151 = .ok (.iconst 2, 1) := by decide +kernel
theorem dX9_keepsStep_152 : decode cX9_keepsStep 152 = .ok (.iadd, 1) := by decide +kernel
theorem dX9_keepsStep_153 : decode cX9_keepsStep 153 = .ok (.aload_n 0, 1) := by decide +kernel
theorem dX9_keepsStep_154 : decode cX9_keepsStep 154 = .ok (.getfield 167, 3) := by decide +kernel
theorem dX9_keepsStep_157 : decode cX9_keepsStep 157 = .ok (.iload 6, 2) := by decide +kernel
theorem dX9_keepsStep_159 : decode cX9_keepsStep 159 = .ok (.daload, 1) := by decide +kernel
theorem dX9_keepsStep_160 : decode cX9_keepsStep 160 = .ok (.dastore, 1) := by decide +kernel
theorem dX9_keepsStep_161 : decode cX9_keepsStep 161 = .ok (.aload_n 0, 1) := by decide +kernel
theorem dX9_keepsStep_162 : decode cX9_keepsStep 162 = .ok (.getfield 140, 3) := by decide +kernel
theorem dX9_keepsStep_165 : decode cX9_keepsStep 165 = .ok (.iconst 5, 1) := by decide +kernel
theorem dX9_keepsStep_166 : decode cX9_keepsStep 166 = .ok (.iload 7, 2) := by decide +kernel
theorem dX9_keepsStep_168 : decode cX9_keepsStep 168 = .ok (.imul, 1) := by decide +kernel
theorem dX9_keepsStep_169 : decode cX9_keepsStep 169 = .ok (.iconst 3, 1) := by decide +kernel
theorem dX9_keepsStep_170 : decode cX9_keepsStep 170 = .ok (.iadd, 1) := by decide +kernel
theorem dX9_keepsStep_171 : decode cX9_keepsStep 171 = .ok (.aload_n 0, 1) := by decide +kernel
theorem dX9_keepsStep_172 : decode cX9_keepsStep 172 = .ok (.getfield 170, 3) := by decide +kernel
theorem dX9_keepsStep_175 : decode cX9_keepsStep 175 = .ok (.iload 6, 2) := by decide +kernel
theorem dX9_keepsStep_177 : decode cX9_keepsStep 177 = .ok (.daload, 1) := by decide +kernel
theorem dX9_keepsStep_178 : decode cX9_keepsStep 178 = .ok (.dastore, 1) := by decide +kernel
theorem dX9_keepsStep_179 : decode cX9_keepsStep 179 = .ok (.aload_n 0, 1) := by decide +kernel
theorem dX9_keepsStep_180 : decode cX9_keepsStep 180 = .ok (.getfield 140, 3) := by decide +kernel
theorem dX9_keepsStep_183 : decode cX9_keepsStep 183 = .ok (.iconst 5, 1) := by decide +kernel
theorem dX9_keepsStep_184 : decode cX9_keepsStep 184 = .ok (.iload 7, 2) := by decide +kernel
theorem dX9_keepsStep_186 : decode cX9_keepsStep 186 = .ok (.imul, 1) := by decide +kernel
theorem dX9_keepsStep_187 : decode cX9_keepsStep 187 = .ok (.iconst 4, 1) := by decide +kernel
theorem dX9_keepsStep_188 : decode cX9_keepsStep 188 = .ok (.iadd, 1) := by decide +kernel
theorem dX9_keepsStep_189 : decode cX9_keepsStep 189 = .ok (.aload_n 0, 1) := by decide +kernel
theorem dX9_keepsStep_190 : decode cX9_keepsStep 190 = .ok (.getfield 158, 3) := by decide +kernel
theorem dX9_keepsStep_193 : decode cX9_keepsStep 193 = .ok (.iload 6, 2) := by decide +kernel
theorem dX9_keepsStep_195 : decode cX9_keepsStep 195 = .ok (.daload, 1) := by decide +kernel
theorem dX9_keepsStep_196 : decode cX9_keepsStep 196 = .ok (.dastore, 1) := by decide +kernel
theorem dX9_keepsStep_197 : decode cX9_keepsStep 197 = .ok (.iinc 6 1, 3) := by decide +kernel
theorem dX9_keepsStep_200 : decode cX9_keepsStep 200 = .ok (.goto (-148), 3) := by decide +kernel
theorem dX9_keepsStep_203 : decode cX9_keepsStep 203 = .ok (.aload_n 0, 1) := by decide +kernel
theorem dX9_keepsStep_204 : decode cX9_keepsStep 204 = .ok (.iload_n 2, 1) := by decide +kernel
theorem dX9_keepsStep_205 : decode cX9_keepsStep 205 = .ok (.aload_n 0, 1) := by decide +kernel
theorem dX9_keepsStep_206 : decode cX9_keepsStep 206 = .ok (.getfield 83, 3) := by decide +kernel
theorem dX9_keepsStep_209 : decode cX9_keepsStep 209 = .ok (.iload_n 1, 1) := by decide +kernel
theorem dX9_keepsStep_210 : decode cX9_keepsStep 210 = .ok (.daload, 1) := by decide +kernel
theorem dX9_keepsStep_211 : decode cX9_keepsStep 211 = .ok (.dload 4, 2) := by decide +kernel
theorem dX9_keepsStep_213 : decode cX9_keepsStep 213 = .ok (.dadd, 1) := by decide +kernel
theorem dX9_keepsStep_214 : decode cX9_keepsStep 214 = .ok (.aload_n 0, 1) := by decide +kernel
theorem dX9_keepsStep_215 : decode cX9_keepsStep 215 = .ok (.getfield 152, 3) := by decide +kernel
theorem dX9_keepsStep_218 : decode cX9_keepsStep 218 = .ok (.aload_n 0, 1) := by decide +kernel
theorem dX9_keepsStep_219 : decode cX9_keepsStep 219 = .ok (.getfield 155, 3) := by decide +kernel
theorem dX9_keepsStep_222 : decode cX9_keepsStep 222 = .ok (.invokevirtual 254, 3) := by decide +kernel
theorem dX9_keepsStep_225 : decode cX9_keepsStep 225 = .ok (.iconst 0, 1) := by decide +kernel
theorem dX9_keepsStep_226 : decode cX9_keepsStep 226 = .ok (.istore 6, 2) := by decide +kernel
theorem dX9_keepsStep_228 : decode cX9_keepsStep 228 = .ok (.iload 6, 2) := by decide +kernel
theorem dX9_keepsStep_230 : decode cX9_keepsStep 230 = .ok (.iload_n 3, 1) := by decide +kernel
theorem dX9_keepsStep_231 : decode cX9_keepsStep 231 = .ok (.if_icmp .ge 28, 3) := by decide +kernel
theorem dX9_keepsStep_234 : decode cX9_keepsStep 234 = .ok (.aload_n 0, 1) := by decide +kernel
theorem dX9_keepsStep_235 : decode cX9_keepsStep 235 = .ok (.getfield 137, 3) := by decide +kernel
theorem dX9_keepsStep_238 : decode cX9_keepsStep 238 = .ok (.bipush 6, 2) := by decide +kernel
theorem dX9_keepsStep_240 : decode cX9_keepsStep 240 = .ok (.iload_n 1, 1) := by decide +kernel
theorem dX9_keepsStep_241 : decode cX9_keepsStep 241 = .ok (.imul, 1) := by decide +kernel
theorem dX9_keepsStep_242 : decode cX9_keepsStep 242 = .ok (.iload 6, 2) := by decide +kernel
theorem dX9_keepsStep_244 : decode cX9_keepsStep 244 = .ok (.iadd, 1) := by decide +kernel
theorem dX9_keepsStep_245 : decode cX9_keepsStep 245 = .ok (.aload_n 0, 1) := by decide +kernel
theorem dX9_keepsStep_246 : decode cX9_keepsStep 246 = .ok (.getfield 155, 3) := by decide +kernel
theorem dX9_keepsStep_249 : decode cX9_keepsStep 249 = .ok (.iload 6, 2) := by decide +kernel
theorem dX9_keepsStep_251 : decode cX9_keepsStep 251 = .ok (.daload, 1) := by decide +kernel
theorem dX9_keepsStep_252 : decode cX9_keepsStep 252 = .ok (.dastore, 1) := by decide +kernel
theorem dX9_keepsStep_253 : decode cX9_keepsStep 253 = .ok (.iinc 6 1, 3) := by decide +kernel
theorem dX9_keepsStep_256 : decode cX9_keepsStep 256 = .ok (.goto (-28), 3) := by decide +kernel
theorem dX9_keepsStep_259 : decode cX9_keepsStep 259 = .ok (.return_, 1) := by decide +kernel
theorem dX9_cubic_0 : decode cX9_cubic 0 = .ok (.bipush 6, 2) := by decide +kernel
theorem dX9_cubic_2 : decode cX9_cubic 2 = .ok (.iload_n 1, 1) := by decide +kernel
theorem dX9_cubic_3 : decode cX9_cubic 3 = .ok (.imul, 1) := by decide +kernel
theorem dX9_cubic_4 : decode cX9_cubic 4 = .ok (.iload_n 2, 1) := by decide +kernel
theorem dX9_cubic_5 : decode cX9_cubic 5 = .ok (.iadd, 1) := by decide +kernel
theorem dX9_cubic_6 : decode cX9_cubic 6 = .ok (.istore 5, 2) := by decide +kernel
theorem dX9_cubic_8 : decode cX9_cubic 8 = .ok (.dload_n 3, 1) := by decide +kernel
theorem dX9_cubic_9 : decode cX9_cubic 9 = .ok (.dconst 0, 1) := by decide +kernel
theorem dX9_cubic_10 : decode cX9_cubic 10 = .ok (.dcmp .l, 1) := by decide +kernel
theorem dX9_cubic_11 : decode cX9_cubic 11 = .ok (.ifCond .ne 11, 3) := by decide +kernel
theorem dX9_cubic_14 : decode cX9_cubic 14 = .ok (.aload_n 0, 1) := by decide +kernel
theorem dX9_cubic_15 : decode cX9_cubic 15 = .ok (.getfield 128, 3) := by decide +kernel
theorem dX9_cubic_18 : decode cX9_cubic 18 = .ok (.iload 5, 2) := by decide +kernel
theorem dX9_cubic_20 : decode cX9_cubic 20 = .ok (.daload, 1) := by decide +kernel
theorem dX9_cubic_21 : decode cX9_cubic 21 = .ok (.dreturn, 1) := by decide +kernel
theorem dX9_cubic_22 : decode cX9_cubic 22 = .ok (.dload_n 3, 1) := by decide +kernel
theorem dX9_cubic_23 : decode cX9_cubic 23 = .ok (.dconst 1, 1) := by decide +kernel
theorem dX9_cubic_24 : decode cX9_cubic 24 = .ok (.dcmp .l, 1) := by decide +kernel
theorem dX9_cubic_25 : decode cX9_cubic 25 = .ok (.ifCond .ne 11, 3) := by decide +kernel
theorem dX9_cubic_28 : decode cX9_cubic 28 = .ok (.aload_n 0, 1) := by decide +kernel
theorem dX9_cubic_29 : decode cX9_cubic 29 = .ok (.getfield 131, 3) := by decide +kernel
theorem dX9_cubic_32 : decode cX9_cubic 32 = .ok (.iload 5, 2) := by decide +kernel
theorem dX9_cubic_34 : decode cX9_cubic 34 = .ok (.daload, 1) := by decide +kernel
theorem dX9_cubic_35 : decode cX9_cubic 35 = .ok (.dreturn, 1) := by decide +kernel
theorem dX9_cubic_36 : decode cX9_cubic 36 = .ok (.dconst 1, 1) := by decide +kernel
theorem dX9_cubic_37 : decode cX9_cubic 37 = .ok (.dload_n 3, 1) := by decide +kernel
theorem dX9_cubic_38 : decode cX9_cubic 38 = .ok (.dsub, 1) := by decide +kernel
theorem dX9_cubic_39 : decode cX9_cubic 39 = .ok (.dstore 6, 2) := by decide +kernel
theorem dX9_cubic_41 : decode cX9_cubic 41 = .ok (.aload_n 0, 1) := by decide +kernel
theorem dX9_cubic_42 : decode cX9_cubic 42 = .ok (.getfield 125, 3) := by decide +kernel
theorem dX9_cubic_45 : decode cX9_cubic 45 = .ok (.iload_n 1, 1) := by decide +kernel
theorem dX9_cubic_46 : decode cX9_cubic 46 = .ok (.daload, 1) := by decide +kernel
theorem dX9_cubic_47 : decode cX9_cubic 47 = .ok (.dstore 8, 2) := by decide +kernel
theorem dX9_cubic_49 : decode cX9_cubic 49 = .ok (.dload 6, 2) := by decide +kernel
theorem dX9_cubic_51 : decode cX9_cubic 51 = .ok (.dload 6, 2) := by decide +kernel
theorem dX9_cubic_53 : decode cX9_cubic 53 = .ok (.dmul, 1) := by decide +kernel
theorem dX9_cubic_54 : decode cX9_cubic 54 = .ok (.dconst 1, 1) := by decide +kernel
theorem dX9_cubic_55 : decode cX9_cubic 55 = .ok (.ldc2_w 285, 3) := by decide +kernel
theorem dX9_cubic_58 : decode cX9_cubic 58 = .ok (.dload_n 3, 1) := by decide +kernel
theorem dX9_cubic_59 : decode cX9_cubic 59 = .ok (.dmul, 1) := by decide +kernel
theorem dX9_cubic_60 : decode cX9_cubic 60 = .ok (.dadd, 1) := by decide +kernel
theorem dX9_cubic_61 : decode cX9_cubic 61 = .ok (.aload_n 0, 1) := by decide +kernel
theorem dX9_cubic_62 : decode cX9_cubic 62 = .ok (.getfield 128, 3) := by decide +kernel
theorem dX9_cubic_65 : decode cX9_cubic 65 = .ok (.iload 5, 2) := by decide +kernel
theorem dX9_cubic_67 : decode cX9_cubic 67 = .ok (.daload, 1) := by decide +kernel
theorem dX9_cubic_68 : decode cX9_cubic 68 = .ok (.invokestatic 211, 3) := by decide +kernel
theorem dX9_cubic_71 : decode cX9_cubic 71 = .ok (.dload_n 3, 1) := by decide +kernel
theorem dX9_cubic_72 : decode cX9_cubic 72 = .ok (.dload 8, 2) := by decide +kernel
theorem dX9_cubic_74 : decode cX9_cubic 74 = .ok (.dmul, 1) := by decide +kernel
theorem dX9_cubic_75 : decode cX9_cubic 75 = .ok (.aload_n 0, 1) := by decide +kernel
theorem dX9_cubic_76 : decode cX9_cubic 76 = .ok (.getfield 134, 3) := by decide +kernel
theorem dX9_cubic_79 : decode cX9_cubic 79 = .ok (.iload 5, 2) := by decide +kernel
theorem dX9_cubic_81 : decode cX9_cubic 81 = .ok (.daload, 1) := by decide +kernel
theorem dX9_cubic_82 : decode cX9_cubic 82 = .ok (.invokestatic 211, 3) := by decide +kernel
theorem dX9_cubic_85 : decode cX9_cubic 85 = .ok (.invokestatic 214, 3) := by decide +kernel
theorem dX9_cubic_88 : decode cX9_cubic 88 = .ok (.invokestatic 211, 3) := by decide +kernel
theorem dX9_cubic_91 : decode cX9_cubic 91 = .ok (.dstore 10, 2) := by decide +kernel
theorem dX9_cubic_93 : decode cX9_cubic 93 = .ok (.dload_n 3, 1) := by decide +kernel
theorem dX9_cubic_94 : decode cX9_cubic 94 = .ok (.dload_n 3, 1) := by decide +kernel
theorem dX9_cubic_95 : decode cX9_cubic 95 = .ok (.dmul, 1) := by decide +kernel
theorem dX9_cubic_96 : decode cX9_cubic 96 = .ok (.dconst 1, 1) := by decide +kernel
theorem dX9_cubic_97 : decode cX9_cubic 97 = .ok (.ldc2_w 285, 3) := by decide +kernel
theorem dX9_cubic_100 : decode cX9_cubic 100 = .ok (.dload 6, 2) := by decide +kernel
theorem dX9_cubic_102 : decode cX9_cubic 102 = .ok (.dmul, 1) := by decide +kernel
theorem dX9_cubic_103 : decode cX9_cubic 103 = .ok (.dadd, 1) := by decide +kernel
theorem dX9_cubic_104 : decode cX9_cubic 104 = .ok (.aload_n 0, 1) := by decide +kernel
theorem dX9_cubic_105 : decode cX9_cubic 105 = .ok (.getfield 131, 3) := by decide +kernel
theorem dX9_cubic_108 : decode cX9_cubic 108 = .ok (.iload 5, 2) := by decide +kernel
theorem dX9_cubic_110 : decode cX9_cubic 110 = .ok (.daload, 1) := by decide +kernel
theorem dX9_cubic_111 : decode cX9_cubic 111 = .ok (.invokestatic 211, 3) := by decide +kernel
theorem dX9_cubic_114 : decode cX9_cubic 114 = .ok (.dload 6, 2) := by decide +kernel
theorem dX9_cubic_116 : decode cX9_cubic 116 = .ok (.dload 8, 2) := by decide +kernel
theorem dX9_cubic_118 : decode cX9_cubic 118 = .ok (.dmul, 1) := by decide +kernel
theorem dX9_cubic_119 : decode cX9_cubic 119 = .ok (.aload_n 0, 1) := by decide +kernel
theorem dX9_cubic_120 : decode cX9_cubic 120 = .ok (.getfield 137, 3) := by decide +kernel
theorem dX9_cubic_123 : decode cX9_cubic 123 = .ok (.iload 5, 2) := by decide +kernel
theorem dX9_cubic_125 : decode cX9_cubic 125 = .ok (.daload, 1) := by decide +kernel
theorem dX9_cubic_126 : decode cX9_cubic 126 = .ok (.invokestatic 211, 3) := by decide +kernel
theorem dX9_cubic_129 : decode cX9_cubic 129 = .ok (.invokestatic 204, 3) := by decide +kernel
theorem dX9_cubic_132 : decode cX9_cubic 132 = .ok (.invokestatic 211, 3) := by decide +kernel
theorem dX9_cubic_135 : decode cX9_cubic 135 = .ok (.dstore 12, 2) := by decide +kernel
theorem dX9_cubic_137 : decode cX9_cubic 137 = .ok (.aload_n 0, 1) := by decide +kernel
theorem dX9_cubic_138 : decode cX9_cubic 138 = .ok (.aload_n 0, 1) := by decide +kernel
theorem dX9_cubic_139 : decode cX9_cubic 139 = .ok (.getfield 52, 3) := by decide +kernel
theorem dX9_cubic_142 : decode cX9_cubic 142 = .ok (.iload_n 1, 1) := by decide +kernel
theorem dX9_cubic_143 : decode cX9_cubic 143 = .ok (.iaload, 1) := by decide +kernel
theorem dX9_cubic_144 : decode cX9_cubic 144 = .ok (.iload_n 2, 1) := by decide +kernel
theorem dX9_cubic_145 : decode cX9_cubic 145 = .ok (.dload 10, 2) := by decide +kernel
theorem dX9_cubic_147 : decode cX9_cubic 147 = .ok (.dload 12, 2) := by decide +kernel
theorem dX9_cubic_149 : decode cX9_cubic 149 = .ok (.invokestatic 214, 3) := by decide +kernel
theorem dX9_cubic_152 : decode cX9_cubic 152 = .ok (.invokevirtual 281, 3) := by decide +kernel
theorem dX9_cubic_155 : decode cX9_cubic 155 = .ok (.dreturn, 1) := by decide +kernel
theorem dX9_valueAt_0 : decode cX9_valueAt 0 = .ok (.aload_n 0, 1) := by decide +kernel
theorem dX9_valueAt_1 : decode cX9_valueAt 1 = .ok (.getfield 52, 3) := by decide +kernel
theorem dX9_valueAt_4 : decode cX9_valueAt 4 = .ok (.iload_n 1, 1) := by decide +kernel
theorem dX9_valueAt_5 : decode cX9_valueAt 5 = .ok (.iaload, 1) := by decide +kernel
theorem dX9_valueAt_6 : decode cX9_valueAt 6 = .ok (.istore 5, 2) := by decide +kernel
theorem dX9_valueAt_8 : decode cX9_valueAt 8 = .ok (.iconst 0, 1) := by decide +kernel
theorem dX9_valueAt_9 : decode cX9_valueAt 9 = .ok (.istore 6, 2) := by decide +kernel
theorem dX9_valueAt_11 : decode cX9_valueAt 11 = .ok (.iload 6, 2) := by decide +kernel
theorem dX9_valueAt_13 : decode cX9_valueAt 13 = .ok (.aload_n 0, 1) := by decide +kernel
theorem dX9_valueAt_14 : decode cX9_valueAt 14 = .ok (.getfield 9, 3) := by decide +kernel
theorem dX9_valueAt_17 : decode cX9_valueAt 17 = .ok (.iload 5, 2) := by decide +kernel
theorem dX9_valueAt_19 : decode cX9_valueAt 19 = .ok (.iaload, 1) := by decide +kernel
theorem dX9_valueAt_20 : decode cX9_valueAt 20 = .ok (.if_icmp .ge 24, 3) := by decide +kernel
theorem dX9_valueAt_23 : decode cX9_valueAt 23 = .ok (.aload_n 0, 1) := by decide +kernel
theorem dX9_valueAt_24 : decode cX9_valueAt 24 = .ok (.getfield 173, 3) := by decide +kernel
theorem dX9_valueAt_27 : decode cX9_valueAt 27 = .ok (.iload 6, 2) := by decide +kernel
theorem dX9_valueAt_29 : decode cX9_valueAt 29 = .ok (.aload_n 0, 1) := by decide +kernel
theorem dX9_valueAt_30 : decode cX9_valueAt 30 = .ok (.iload_n 1, 1) := by decide +kernel
theorem dX9_valueAt_31 : decode cX9_valueAt 31 = .ok (.iload 6, 2) := by decide +kernel
theorem dX9_valueAt_33 : decode cX9_valueAt 33 = .ok (.dload_n 3, 1) := by decide +kernel
theorem dX9_valueAt_34 : decode cX9_valueAt 34 = .ok (.invokevirtual 330, 3) := by decide +kernel
theorem dX9_valueAt_37 : decode cX9_valueAt 37 = .ok (.dastore, 1) := by decide +kernel
theorem dX9_valueAt_38 : decode cX9_valueAt 38 = .ok (.iinc 6 1, 3) := by decide +kernel
theorem dX9_valueAt_41 : decode cX9_valueAt 41 = .ok (.goto (-30), 3) := by decide +kernel
theorem dX9_valueAt_44 : decode cX9_valueAt 44 = .ok (.aload_n 0, 1) := by decide +kernel
theorem dX9_valueAt_45 : decode cX9_valueAt 45 = .ok (.iload 5, 2) := by decide +kernel
theorem dX9_valueAt_47 : decode cX9_valueAt 47 = .ok (.aload_n 0, 1) := by decide +kernel
theorem dX9_valueAt_48 : decode cX9_valueAt 48 = .ok (.getfield 122, 3) := by decide +kernel
theorem dX9_valueAt_51 : decode cX9_valueAt 51 = .ok (.iload_n 1, 1) := by decide +kernel
theorem dX9_valueAt_52 : decode cX9_valueAt 52 = .ok (.daload, 1) := by decide +kernel
theorem dX9_valueAt_53 : decode cX9_valueAt 53 = .ok (.dload_n 3, 1) := by decide +kernel
theorem dX9_valueAt_54 : decode cX9_valueAt 54 = .ok (.aload_n 0, 1) := by decide +kernel
theorem dX9_valueAt_55 : decode cX9_valueAt 55 = .ok (.getfield 125, 3) := by decide +kernel
theorem dX9_valueAt_58 : decode cX9_valueAt 58 = .ok (.iload_n 1, 1) := by decide +kernel
theorem dX9_valueAt_59 : decode cX9_valueAt 59 = .ok (.daload, 1) := by decide +kernel
theorem dX9_valueAt_60 : decode cX9_valueAt 60 = .ok (.dmul, 1) := by decide +kernel
theorem dX9_valueAt_61 : decode cX9_valueAt 61 = .ok (.dadd, 1) := by decide +kernel
theorem dX9_valueAt_62 : decode cX9_valueAt 62 = .ok (.aload_n 0, 1) := by decide +kernel
theorem dX9_valueAt_63 : decode cX9_valueAt 63 = .ok (.getfield 173, 3) := by decide +kernel
theorem dX9_valueAt_66 : decode cX9_valueAt 66 = .ok (.invokevirtual 242, 3) := by decide +kernel
theorem dX9_valueAt_69 : decode cX9_valueAt 69 = .ok (.aload_n 0, 1) := by decide +kernel
theorem dX9_valueAt_70 : decode cX9_valueAt 70 = .ok (.getfield 143, 3) := by decide +kernel
theorem dX9_valueAt_73 : decode cX9_valueAt 73 = .ok (.iload_n 2, 1) := by decide +kernel
theorem dX9_valueAt_74 : decode cX9_valueAt 74 = .ok (.daload, 1) := by decide +kernel
theorem dX9_valueAt_75 : decode cX9_valueAt 75 = .ok (.dreturn, 1) := by decide +kernel
theorem dX9_looksAt_0 : decode cX9_looksAt 0 = .ok (.aload_n 0, 1) := by decide +kernel
theorem dX9_looksAt_1 : decode cX9_looksAt 1 = .ok (.getfield 101, 3) := by decide +kernel
theorem dX9_looksAt_4 : decode cX9_looksAt 4 = .ok (.iconst 4, 1) := by decide +kernel
theorem dX9_looksAt_5 : decode cX9_looksAt 5 = .ok (.iload_n 1, 1) := by decide +kernel
theorem dX9_looksAt_6 : decode cX9_looksAt 6 = .ok (.imul, 1) := by decide +kernel
theorem dX9_looksAt_7 : decode cX9_looksAt 7 = .ok (.iload_n 2, 1) := by decide +kernel
theorem dX9_looksAt_8 : decode cX9_looksAt 8 = .ok (.iadd, 1) := by decide +kernel
theorem dX9_looksAt_9 : decode cX9_looksAt 9 = .ok (.iaload, 1) := by decide +kernel
theorem dX9_looksAt_10 : decode cX9_looksAt 10 = .ok (.istore_n 3, 1) := by decide +kernel
theorem dX9_looksAt_11 : decode cX9_looksAt 11 = .ok (.aload_n 0, 1) := by decide +kernel
theorem dX9_looksAt_12 : decode cX9_looksAt 12 = .ok (.getfield 104, 3) := by decide +kernel
theorem dX9_looksAt_15 : decode cX9_looksAt 15 = .ok (.iconst 4, 1) := by decide +kernel
theorem dX9_looksAt_16 : decode cX9_looksAt 16 = .ok (.iload_n 1, 1) := by decide +kernel
theorem dX9_looksAt_17 : decode cX9_looksAt 17 = .ok (.imul, 1) := by decide +kernel
theorem dX9_looksAt_18 : decode cX9_looksAt 18 = .ok (.iload_n 2, 1) := by decide +kernel
theorem dX9_looksAt_19 : decode cX9_looksAt 19 = .ok (.iadd, 1) := by decide +kernel
theorem dX9_looksAt_20 : decode cX9_looksAt 20 = .ok (.iaload, 1) := by decide +kernel
theorem dX9_looksAt_21 : decode cX9_looksAt 21 = .ok (.istore 4, 2) := by decide +kernel
theorem dX9_looksAt_23 : decode cX9_looksAt 23 = .ok (.aload_n 0, 1) := by decide +kernel
theorem dX9_looksAt_24 : decode cX9_looksAt 24 = .ok (.iload_n 1, 1) := by decide +kernel
theorem dX9_looksAt_25 : decode cX9_looksAt 25 = .ok (.iload_n 3, 1) := by decide +kernel
theorem dX9_looksAt_26 : decode cX9_looksAt 26 = .ok (.dconst 0, 1) := by decide +kernel
theorem dX9_looksAt_27 : decode cX9_looksAt 27 = .ok (.invokevirtual 333, 3) := by decide +kernel
theorem dX9_looksAt_30 : decode cX9_looksAt 30 = .ok (.dstore 5, 2) := by decide +kernel
theorem dX9_looksAt_32 : decode cX9_looksAt 32 = .ok (.aload_n 0, 1) := by decide +kernel
theorem dX9_looksAt_33 : decode cX9_looksAt 33 = .ok (.iload_n 1, 1) := by decide +kernel
theorem dX9_looksAt_34 : decode cX9_looksAt 34 = .ok (.iload_n 3, 1) := by decide +kernel
theorem dX9_looksAt_35 : decode cX9_looksAt 35 = .ok (.dconst 1, 1) := by decide +kernel
theorem dX9_looksAt_36 : decode cX9_looksAt 36 = .ok (.invokevirtual 333, 3) := by decide +kernel
theorem dX9_looksAt_39 : decode cX9_looksAt 39 = .ok (.dstore 7, 2) := by decide +kernel
theorem dX9_looksAt_41 : decode cX9_looksAt 41 = .ok (.dload 5, 2) := by decide +kernel
theorem dX9_looksAt_43 : decode cX9_looksAt 43 = .ok (.dconst 0, 1) := by decide +kernel
theorem dX9_looksAt_44 : decode cX9_looksAt 44 = .ok (.dcmp .g, 1) := by decide +kernel
theorem dX9_looksAt_45 : decode cX9_looksAt 45 = .ok (.ifCond .ge 19, 3) := by decide +kernel
theorem dX9_looksAt_48 : decode cX9_looksAt 48 = .ok (.dload 7, 2) := by decide +kernel
theorem dX9_looksAt_50 : decode cX9_looksAt 50 = .ok (.dconst 0, 1) := by decide +kernel
theorem dX9_looksAt_51 : decode cX9_looksAt 51 = .ok (.dcmp .l, 1) := by decide +kernel
theorem dX9_looksAt_52 : decode cX9_looksAt 52 = .ok (.ifCond .lt 12, 3) := by decide +kernel
theorem dX9_looksAt_55 : decode cX9_looksAt 55 = .ok (.iload 4, 2) := by decide +kernel
theorem dX9_looksAt_57 : decode cX9_looksAt 57 = .ok (.ifCond .lt 7, 3) := by decide +kernel
theorem dX9_looksAt_60 : decode cX9_looksAt 60 = .ok (.iconst 1, 1) := by decide +kernel
theorem dX9_looksAt_61 : decode cX9_looksAt 61 = .ok (.goto 4, 3) := by decide +kernel
theorem dX9_looksAt_64 : decode cX9_looksAt 64 = .ok (.iconst 0, 1) := by decide +kernel
theorem dX9_looksAt_65 : decode cX9_looksAt 65 = .ok (.istore 9, 2) := by decide +kernel
theorem dX9_looksAt_67 : decode cX9_looksAt 67 = .ok (.dload 5, 2) := by decide +kernel
theorem dX9_looksAt_69 : decode cX9_looksAt 69 = .ok (.dconst 0, 1) := by decide +kernel
theorem dX9_looksAt_70 : decode cX9_looksAt 70 = .ok (.dcmp .l, 1) := by decide +kernel
theorem dX9_looksAt_71 : decode cX9_looksAt 71 = .ok (.ifCond .le 19, 3) := by decide +kernel
theorem dX9_looksAt_74 : decode cX9_looksAt 74 = .ok (.dload 7, 2) := by decide +kernel
theorem dX9_looksAt_76 : decode cX9_looksAt 76 = .ok (.dconst 0, 1) := by decide +kernel
theorem dX9_looksAt_77 : decode cX9_looksAt 77 = .ok (.dcmp .g, 1) := by decide +kernel
theorem dX9_looksAt_78 : decode cX9_looksAt 78 = .ok (.ifCond .gt 12, 3) := by decide +kernel
theorem dX9_looksAt_81 : decode cX9_looksAt 81 = .ok (.iload 4, 2) := by decide +kernel
theorem dX9_looksAt_83 : decode cX9_looksAt 83 = .ok (.ifCond .gt 7, 3) := by decide +kernel
theorem dX9_looksAt_86 : decode cX9_looksAt 86 = .ok (.iconst 1, 1) := by decide +kernel
theorem dX9_looksAt_87 : decode cX9_looksAt 87 = .ok (.goto 4, 3) := by decide +kernel
theorem dX9_looksAt_90 : decode cX9_looksAt 90 = .ok (.iconst 0, 1) := by decide +kernel
theorem dX9_looksAt_91 : decode cX9_looksAt 91 = .ok (.istore 10, 2) := by decide +kernel
theorem dX9_looksAt_93 : decode cX9_looksAt 93 = .ok (.aload_n 0, 1) := by decide +kernel
theorem dX9_looksAt_94 : decode cX9_looksAt 94 = .ok (.getfield 182, 3) := by decide +kernel
theorem dX9_looksAt_97 : decode cX9_looksAt 97 = .ok (.iload_n 2, 1) := by decide +kernel
theorem dX9_looksAt_98 : decode cX9_looksAt 98 = .ok (.iload 9, 2) := by decide +kernel
theorem dX9_looksAt_100 : decode cX9_looksAt 100 = .ok (.ifCond .ne 8, 3) := by decide +kernel
theorem dX9_looksAt_103 : decode cX9_looksAt 103 = .ok (.iload 10, 2) := by decide +kernel
theorem dX9_looksAt_105 : decode cX9_looksAt 105 = .ok (.ifCond .eq 7, 3) := by decide +kernel
theorem dX9_looksAt_108 : decode cX9_looksAt 108 = .ok (.iconst 1, 1) := by decide +kernel
theorem dX9_looksAt_109 : decode cX9_looksAt 109 = .ok (.goto 4, 3) := by decide +kernel
theorem dX9_looksAt_112 : decode cX9_looksAt 112 = .ok (.iconst 0, 1) := by decide +kernel
theorem dX9_looksAt_113 : decode cX9_looksAt 113 = .ok (.bastore, 1) := by decide +kernel
theorem dX9_looksAt_114 : decode cX9_looksAt 114 = .ok (.aload_n 0, 1) := by decide +kernel
theorem dX9_looksAt_115 : decode cX9_looksAt 115 = .ok (.getfield 179, 3) := by decide +kernel
theorem dX9_looksAt_118 : decode cX9_looksAt 118 = .ok (.iload_n 2, 1) := by decide +kernel
theorem dX9_looksAt_119 : decode cX9_looksAt 119 = .ok (.dconst 1, 1) := by decide +kernel
theorem dX9_looksAt_120 : decode cX9_looksAt 120 = .ok (.dastore, 1) := by decide +kernel
theorem dX9_looksAt_121 : decode cX9_looksAt 121 = .ok (.aload_n 0, 1) := by decide +kernel
theorem dX9_looksAt_122 : decode cX9_looksAt 122 = .ok (.getfield 182, 3) := by decide +kernel
theorem dX9_looksAt_125 : decode cX9_looksAt 125 = .ok (.iload_n 2, 1) := by decide +kernel
theorem dX9_looksAt_126 : decode cX9_looksAt 126 = .ok (.baload, 1) := by decide +kernel
theorem dX9_looksAt_127 : decode cX9_looksAt 127 = .ok (.ifCond .ne 4, 3) := by decide +kernel
theorem dX9_looksAt_130 : decode cX9_looksAt 130 = .ok (.return_, 1) := by decide +kernel
theorem dX9_looksAt_131 : decode cX9_looksAt 131 = .ok (.dconst 0, 1) := by decide +kernel
theorem dX9_looksAt_132 : decode cX9_looksAt 132 = .ok (.dstore 11, 2) := by decide +kernel
theorem dX9_looksAt_134 : decode cX9_looksAt 134 = .ok (.iconst 0, 1) := by decide +kernel
theorem dX9_looksAt_135 : decode cX9_looksAt 135 = .ok (.istore 13, 2) := by decide +kernel
theorem dX9_looksAt_137 : decode cX9_looksAt 137 = .ok (.iload 13, 2) := by decide +kernel
theorem dX9_looksAt_139 : decode cX9_looksAt 139 = .ok (.bipush 30, 2) := by decide +kernel
theorem dX9_looksAt_141 : decode cX9_looksAt 141 = .ok (.if_icmp .ge 71, 3) := by decide +kernel
theorem dX9_looksAt_144 : decode cX9_looksAt 144 = .ok (.dload 11, 2) := by decide +kernel
theorem dX9_looksAt_146 : decode cX9_looksAt 146 = .ok (.aload_n 0, 1) := by decide +kernel
theorem dX9_looksAt_147 : decode cX9_looksAt 147 = .ok (.getfield 179, 3) := by decide +kernel
theorem dX9_looksAt_150 : decode cX9_looksAt 150 = .ok (.iload_n 2, 1) := by decide +kernel
theorem dX9_looksAt_151 : decode cX9_looksAt 151 = .ok (.daload, 1) := by decide +kernel
theorem dX9_looksAt_152 : decode cX9_looksAt 152 = .ok (.dadd, 1) := by decide +kernel
theorem dX9_looksAt_153 : decode cX9_looksAt 153 = .ok (.ldc2_w 285, 3) := by decide +kernel
theorem dX9_looksAt_156 : decode cX9_looksAt 156 = .ok (.ddiv, 1) := by decide +kernel
theorem dX9_looksAt_157 : decode cX9_looksAt 157 = .ok (.dstore 14, 2) := by decide +kernel
theorem dX9_looksAt_159 : decode cX9_looksAt 159 = .ok (.aload_n 0, 1) := by decide +kernel
theorem dX9_looksAt_160 : decode cX9_looksAt 160 = .ok (.iload_n 1, 1) := by decide +kernel
theorem dX9_looksAt_161 : decode cX9_looksAt 161 = .ok (.iload_n 3, 1) := by decide +kernel
theorem dX9_looksAt_162 : decode cX9_looksAt 162 = .ok (.dload 14, 2) := by decide +kernel
theorem dX9_looksAt_164 : decode cX9_looksAt 164 = .ok (.invokevirtual 333, 3) := by decide +kernel
theorem dX9_looksAt_167 : decode cX9_looksAt 167 = .ok (.dstore 16, 2) := by decide +kernel
theorem dX9_looksAt_169 : decode cX9_looksAt 169 = .ok (.iload 9, 2) := by decide +kernel
theorem dX9_looksAt_171 : decode cX9_looksAt 171 = .ok (.ifCond .eq 13, 3) := by decide +kernel
theorem dX9_looksAt_174 : decode cX9_looksAt 174 = .ok (.dload 16, 2) := by decide +kernel
theorem dX9_looksAt_176 : decode cX9_looksAt 176 = .ok (.dconst 0, 1) := by decide +kernel
theorem dX9_looksAt_177 : decode cX9_looksAt 177 = .ok (.dcmp .l, 1) := by decide +kernel
theorem dX9_looksAt_178 : decode cX9_looksAt 178 = .ok (.ifCond .lt 24, 3) := by decide +kernel
theorem dX9_looksAt_181 : decode cX9_looksAt 181 = .ok (.goto 10, 3) := by decide +kernel
theorem dX9_looksAt_184 : decode cX9_looksAt 184 = .ok (.dload 16, 2) := by decide +kernel
theorem dX9_looksAt_186 : decode cX9_looksAt 186 = .ok (.dconst 0, 1) := by decide +kernel
theorem dX9_looksAt_187 : decode cX9_looksAt 187 = .ok (.dcmp .g, 1) := by decide +kernel
theorem dX9_looksAt_188 : decode cX9_looksAt 188 = .ok (.ifCond .gt 14, 3) := by decide +kernel
theorem dX9_looksAt_191 : decode cX9_looksAt 191 = .ok (.aload_n 0, 1) := by decide +kernel
theorem dX9_looksAt_192 : decode cX9_looksAt 192 = .ok (.getfield 179, 3) := by decide +kernel
theorem dX9_looksAt_195 : decode cX9_looksAt 195 = .ok (.iload_n 2, 1) := by decide +kernel
theorem dX9_looksAt_196 : decode cX9_looksAt 196 = .ok (.dload 14, 2) := by decide +kernel
theorem dX9_looksAt_198 : decode cX9_looksAt 198 = .ok (.dastore, 1) := by decide +kernel
theorem dX9_looksAt_199 : decode cX9_looksAt 199 = .ok (.goto 7, 3) := by decide +kernel
theorem dX9_looksAt_202 : decode cX9_looksAt 202 = .ok (.dload 14, 2) := by decide +kernel
theorem dX9_looksAt_204 : decode cX9_looksAt 204 = .ok (.dstore 11, 2) := by decide +kernel
theorem dX9_looksAt_206 : decode cX9_looksAt 206 = .ok (.iinc 13 1, 3) := by decide +kernel
theorem dX9_looksAt_209 : decode cX9_looksAt 209 = .ok (.goto (-72), 3) := by decide +kernel
theorem dX9_looksAt_212 : decode cX9_looksAt 212 = .ok (.return_, 1) := by decide +kernel
theorem dX9_looksAtEvents_0 : decode cX9_looksAtEvents 0 = .ok (.iconst 0, 1) := by decide +kernel
theorem dX9_looksAtEvents_1 : decode cX9_looksAtEvents 1 = .ok (.istore_n 2, 1) := by decide +kernel
theorem dX9_looksAtEvents_2 : decode cX9_looksAtEvents 2 = .ok (.iload_n 2, 1) := by decide +kernel
theorem dX9_looksAtEvents_3 : decode cX9_looksAtEvents 3 = .ok (.aload_n 0, 1) := by decide +kernel
theorem dX9_looksAtEvents_4 : decode cX9_looksAtEvents 4 = .ok (.getfield 58, 3) := by decide +kernel
theorem dX9_looksAtEvents_7 : decode cX9_looksAtEvents 7 = .ok (.iload_n 1, 1) := by decide +kernel
theorem dX9_looksAtEvents_8 : decode cX9_looksAtEvents 8 = .ok (.iaload, 1) := by decide +kernel
theorem dX9_looksAtEvents_9 : decode cX9_looksAtEvents 9 = .ok (.if_icmp .ge 15, 3) := by decide +kernel
theorem dX9_looksAtEvents_12 : decode cX9_looksAtEvents 12 = .ok (.aload_n 0, 1) := by decide +kernel
theorem dX9_looksAtEvents_13 : decode cX9_looksAtEvents 13 = .ok (.iload_n 1, 1) := by decide +kernel
theorem dX9_looksAtEvents_14 : decode cX9_looksAtEvents 14 = .ok (.iload_n 2, 1) := by decide +kernel
theorem dX9_looksAtEvents_15 : decode cX9_looksAtEvents 15 = .ok (.invokevirtual 336, 3) := by decide +kernel
theorem dX9_looksAtEvents_18 : decode cX9_looksAtEvents 18 = .ok (.iinc 2 1, 3) := by decide +kernel
theorem dX9_looksAtEvents_21 : decode cX9_looksAtEvents 21 = .ok (.goto (-19), 3) := by decide +kernel
theorem dX9_looksAtEvents_24 : decode cX9_looksAtEvents 24 = .ok (.iconst 1, 1) := by decide +kernel
theorem dX9_looksAtEvents_25 : decode cX9_looksAtEvents 25 = .ok (.istore_n 2, 1) := by decide +kernel
theorem dX9_looksAtEvents_26 : decode cX9_looksAtEvents 26 = .ok (.iload_n 2, 1) := by decide +kernel
theorem dX9_looksAtEvents_27 : decode cX9_looksAtEvents 27 = .ok (.ifCond .eq 99, 3) := by decide +kernel
theorem dX9_looksAtEvents_30 : decode cX9_looksAtEvents 30 = .ok (.iconst (-1), 1) := by decide +kernel
theorem dX9_looksAtEvents_31 : decode cX9_looksAtEvents 31 = .ok (.istore_n 3, 1) := by decide +kernel
theorem dX9_looksAtEvents_32 : decode cX9_looksAtEvents 32 = .ok (.iconst 0, 1) := by decide +kernel
theorem dX9_looksAtEvents_33 : decode cX9_looksAtEvents 33 = .ok (.istore 4, 2) := by decide +kernel
theorem dX9_looksAtEvents_35 : decode cX9_looksAtEvents 35 = .ok (.iload 4, 2) := by decide +kernel
theorem dX9_looksAtEvents_37 : decode cX9_looksAtEvents 37 = .ok (.aload_n 0, 1) := by decide +kernel
theorem dX9_looksAtEvents_38 : decode cX9_looksAtEvents 38 = .ok (.getfield 58, 3) := by decide +kernel
theorem dX9_looksAtEvents_41 : decode cX9_looksAtEvents 41 = .ok (.iload_n 1, 1) := by decide +kernel
theorem dX9_looksAtEvents_42 : decode cX9_looksAtEvents 42 = .ok (.iaload, 1) := by decide +kernel
theorem dX9_looksAtEvents_43 : decode cX9_looksAtEvents 43 = .ok (.if_icmp .ge 43, 3) := by decide +kernel
theorem dX9_looksAtEvents_46 : decode cX9_looksAtEvents 46 = .ok (.aload_n 0, 1) := by decide +kernel
theorem dX9_looksAtEvents_47 : decode cX9_looksAtEvents 47 = .ok (.getfield 182, 3) := by decide +kernel
theorem dX9_looksAtEvents_50 : decode cX9_looksAtEvents 50 = .ok (.iload 4, 2) := by decide +kernel
theorem dX9_looksAtEvents_52 : decode cX9_looksAtEvents 52 = .ok (.baload, 1) := by decide +kernel
theorem dX9_looksAtEvents_53 : decode cX9_looksAtEvents 53 = .ok (.ifCond .eq 27, 3) := by decide +kernel
theorem dX9_looksAtEvents_56 : decode cX9_looksAtEvents 56 = .ok (.iload_n 3, 1) := by decide +kernel
theorem dX9_looksAtEvents_57 : decode cX9_looksAtEvents 57 = .ok (.ifCond .lt 20, 3) := by decide +kernel
theorem dX9_looksAtEvents_60 : decode cX9_looksAtEvents 60 = .ok (.aload_n 0, 1) := by decide +kernel
theorem dX9_looksAtEvents_61 : decode cX9_looksAtEvents 61 = .ok (.getfield 179, 3) := by decide +kernel
theorem dX9_looksAtEvents_64 : decode cX9_looksAtEvents 64 = .ok (.iload 4, 2) := by decide +kernel
theorem dX9_looksAtEvents_66 : decode cX9_looksAtEvents 66 = .ok (.daload, 1) := by decide +kernel
theorem dX9_looksAtEvents_67 : decode cX9_looksAtEvents 67 = .ok (.aload_n 0, 1) := by decide +kernel
theorem dX9_looksAtEvents_68 : decode cX9_looksAtEvents 68 = .ok (.getfield 179, 3) := by decide +kernel
theorem dX9_looksAtEvents_71 : decode cX9_looksAtEvents 71 = .ok (.iload_n 3, 1) := by decide +kernel
theorem dX9_looksAtEvents_72 : decode cX9_looksAtEvents 72 = .ok (.daload, 1) := by decide +kernel
theorem dX9_looksAtEvents_73 : decode cX9_looksAtEvents 73 = .ok (.dcmp .g, 1) := by decide +kernel
theorem dX9_looksAtEvents_74 : decode cX9_looksAtEvents 74 = .ok (.ifCond .ge 6, 3) := by decide +kernel
theorem dX9_looksAtEvents_77 : decode cX9_looksAtEvents 77 = .ok (.iload 4, 2) := by decide +kernel
theorem dX9_looksAtEvents_79 : decode cX9_looksAtEvents 79 = .ok (.istore_n 3, 1) := by decide +kernel
theorem dX9_looksAtEvents_80 : decode cX9_looksAtEvents 80 = .ok (.iinc 4 1, 3) := by decide +kernel
theorem dX9_looksAtEvents_83 : decode cX9_looksAtEvents 83 = .ok (.goto (-48), 3) := by decide +kernel
theorem dX9_looksAtEvents_86 : decode cX9_looksAtEvents 86 = .ok (.iload_n 3, 1) := by decide +kernel
theorem dX9_looksAtEvents_87 : decode cX9_looksAtEvents 87 = .ok (.ifCond .ge 4, 3) := by decide +kernel
theorem dX9_looksAtEvents_90 : decode cX9_looksAtEvents 90 = .ok (.return_, 1) := by decide +kernel
theorem dX9_looksAtEvents_91 : decode cX9_looksAtEvents 91 = .ok (.aload_n 0, 1) := by decide +kernel
theorem dX9_looksAtEvents_92 : decode cX9_looksAtEvents 92 = .ok (.getfield 182, 3) := by decide +kernel
theorem dX9_looksAtEvents_95 : decode cX9_looksAtEvents 95 = .ok (.iload_n 3, 1) := by decide +kernel
theorem dX9_looksAtEvents_96 : decode cX9_looksAtEvents 96 = .ok (.iconst 0, 1) := by decide +kernel
theorem dX9_looksAtEvents_97 : decode cX9_looksAtEvents 97 = .ok (.bastore, 1) := by decide +kernel
theorem dX9_looksAtEvents_98 : decode cX9_looksAtEvents 98 = .ok (.aload_n 0, 1) := by decide +kernel
theorem dX9_looksAtEvents_99 : decode cX9_looksAtEvents 99 = .ok (.iload_n 1, 1) := by decide +kernel
theorem dX9_looksAtEvents_100 : decode cX9_looksAtEvents 100 = .ok (.iload_n 3, 1) := by decide +kernel
theorem dX9_looksAtEvents_101 : decode cX9_looksAtEvents 101 = .ok (.invokevirtual 340, 3) := by decide +kernel
theorem dX9_looksAtEvents_104 : decode cX9_looksAtEvents 104 = .ok (.aload_n 0, 1) := by decide +kernel
theorem dX9_looksAtEvents_105 : decode cX9_looksAtEvents 105 = .ok (.getfield 107, 3) := by decide +kernel
theorem dX9_looksAtEvents_108 : decode cX9_looksAtEvents 108 = .ok (.iconst 4, 1) := by decide +kernel
theorem dX9_looksAtEvents_109 : decode cX9_looksAtEvents 109 = .ok (.iload_n 1, 1) := by decide +kernel
theorem dX9_looksAtEvents_110 : decode cX9_looksAtEvents 110 = .ok (.imul, 1) := by decide +kernel
theorem dX9_looksAtEvents_111 : decode cX9_looksAtEvents 111 = .ok (.iload_n 3, 1) := by decide +kernel
theorem dX9_looksAtEvents_112 : decode cX9_looksAtEvents 112 = .ok (.iadd, 1) := by decide +kernel
theorem dX9_looksAtEvents_113 : decode cX9_looksAtEvents 113 = .ok (.iaload, 1) := by decide +kernel
theorem dX9_looksAtEvents_114 : decode cX9_looksAtEvents 114 = .ok (.ifCond .ne 7, 3) := by decide +kernel
theorem dX9_looksAtEvents_117 : decode cX9_looksAtEvents 117 = .ok (.iconst 1, 1) := by decide +kernel
theorem dX9_looksAtEvents_118 : decode cX9_looksAtEvents 118 = .ok (.goto 4, 3) := by decide +kernel
theorem dX9_looksAtEvents_121 : decode cX9_looksAtEvents 121 = .ok (.iconst 0, 1) := by decide +kernel
theorem dX9_looksAtEvents_122 : decode cX9_looksAtEvents 122 = .ok (.istore_n 2, 1) := by decide +kernel
theorem dX9_looksAtEvents_123 : decode cX9_looksAtEvents 123 = .ok (.goto (-97), 3) := by decide +kernel
theorem dX9_looksAtEvents_126 : decode cX9_looksAtEvents 126 = .ok (.return_, 1) := by decide +kernel
theorem dX9_fires_0 : decode cX9_fires 0 = .ok (.aload_n 0, 1) := by decide +kernel
theorem dX9_fires_1 : decode cX9_fires 1 = .ok (.getfield 122, 3) := by decide +kernel
theorem dX9_fires_4 : decode cX9_fires 4 = .ok (.iload_n 1, 1) := by decide +kernel
theorem dX9_fires_5 : decode cX9_fires 5 = .ok (.daload, 1) := by decide +kernel
theorem dX9_fires_6 : decode cX9_fires 6 = .ok (.aload_n 0, 1) := by decide +kernel
theorem dX9_fires_7 : decode cX9_fires 7 = .ok (.getfield 179, 3) := by decide +kernel
theorem dX9_fires_10 : decode cX9_fires 10 = .ok (.iload_n 2, 1) := by decide +kernel
theorem dX9_fires_11 : decode cX9_fires 11 = .ok (.daload, 1) := by decide +kernel
theorem dX9_fires_12 : decode cX9_fires 12 = .ok (.aload_n 0, 1) := by decide +kernel
theorem dX9_fires_13 : decode cX9_fires 13 = .ok (.getfield 125, 3) := by decide +kernel
theorem dX9_fires_16 : decode cX9_fires 16 = .ok (.iload_n 1, 1) := by decide +kernel
theorem dX9_fires_17 : decode cX9_fires 17 = .ok (.daload, 1) := by decide +kernel
theorem dX9_fires_18 : decode cX9_fires 18 = .ok (.dmul, 1) := by decide +kernel
theorem dX9_fires_19 : decode cX9_fires 19 = .ok (.dadd, 1) := by decide +kernel
theorem dX9_fires_20 : decode cX9_fires 20 = .ok (.dstore_n 3, 1) := by decide +kernel
theorem dX9_fires_21 : decode cX9_fires 21 = .ok (.aload_n 0, 1) := by decide +kernel
theorem dX9_fires_22 : decode cX9_fires 22 = .ok (.getfield 70, 3) := by decide +kernel
theorem dX9_fires_25 : decode cX9_fires 25 = .ok (.iload_n 1, 1) := by decide +kernel
theorem dX9_fires_26 : decode cX9_fires 26 = .ok (.iaload, 1) := by decide +kernel
theorem dX9_fires_27 : decode cX9_fires 27 = .ok (.bipush 64, 2) := by decide +kernel
theorem dX9_fires_29 : decode cX9_fires 29 = .ok (.if_icmp .ge 37, 3) := by decide +kernel
theorem dX9_fires_32 : decode cX9_fires 32 = .ok (.aload_n 0, 1) := by decide +kernel
theorem dX9_fires_33 : decode cX9_fires 33 = .ok (.getfield 113, 3) := by decide +kernel
theorem dX9_fires_36 : decode cX9_fires 36 = .ok (.bipush 64, 2) := by decide +kernel
theorem dX9_fires_38 : decode cX9_fires 38 = .ok (.iload_n 1, 1) := by decide +kernel
theorem dX9_fires_39 : decode cX9_fires 39 = .ok (.imul, 1) := by decide +kernel
theorem dX9_fires_40 : decode cX9_fires 40 = .ok (.aload_n 0, 1) := by decide +kernel
theorem dX9_fires_41 : decode cX9_fires 41 = .ok (.getfield 70, 3) := by decide +kernel
theorem dX9_fires_44 : decode cX9_fires 44 = .ok (.iload_n 1, 1) := by decide +kernel
theorem dX9_fires_45 : decode cX9_fires 45 = .ok (.iaload, 1) := by decide +kernel
theorem dX9_fires_46 : decode cX9_fires 46 = .ok (.iadd, 1) := by decide +kernel
theorem dX9_fires_47 : decode cX9_fires 47 = .ok (.iload_n 2, 1) := by decide +kernel
theorem dX9_fires_48 : decode cX9_fires 48 = .ok (.iastore, 1) := by decide +kernel
theorem dX9_fires_49 : decode cX9_fires 49 = .ok (.aload_n 0, 1) := by decide +kernel
theorem dX9_fires_50 : decode cX9_fires 50 = .ok (.getfield 116, 3) := by decide +kernel
theorem dX9_fires_53 : decode cX9_fires 53 = .ok (.bipush 64, 2) := by decide +kernel
theorem dX9_fires_55 : decode cX9_fires 55 = .ok (.iload_n 1, 1) := by decide +kernel
theorem dX9_fires_56 : decode cX9_fires 56 = .ok (.imul, 1) := by decide +kernel
theorem dX9_fires_57 : decode cX9_fires 57 = .ok (.aload_n 0, 1) := by decide +kernel
theorem dX9_fires_58 : decode cX9_fires 58 = .ok (.getfield 70, 3) := by decide +kernel
theorem dX9_fires_61 : decode cX9_fires 61 = .ok (.iload_n 1, 1) := by decide +kernel
theorem dX9_fires_62 : decode cX9_fires 62 = .ok (.iaload, 1) := by decide +kernel
theorem dX9_fires_63 : decode cX9_fires 63 = .ok (.iadd, 1) := by decide +kernel
theorem dX9_fires_64 : decode cX9_fires 64 = .ok (.dload_n 3, 1) := by decide +kernel
theorem dX9_fires_65 : decode cX9_fires 65 = .ok (.dastore, 1) := by decide +kernel
theorem dX9_fires_66 : decode cX9_fires 66 = .ok (.aload_n 0, 1) := by decide +kernel
theorem dX9_fires_67 : decode cX9_fires 67 = .ok (.getfield 70, 3) := by decide +kernel
theorem dX9_fires_70 : decode cX9_fires 70 = .ok (.iload_n 1, 1) := by decide +kernel
theorem dX9_fires_71 : decode cX9_fires 71 = .ok (.dup2, 1) := by decide +kernel
theorem dX9_fires_72 : decode cX9_fires 72 = .ok (.iaload, 1) := by decide +kernel
theorem dX9_fires_73 : decode cX9_fires 73 = .ok (.iconst 1, 1) := by decide +kernel
theorem dX9_fires_74 : decode cX9_fires 74 = .ok (.iadd, 1) := by decide +kernel
theorem dX9_fires_75 : decode cX9_fires 75 = .ok (.iastore, 1) := by decide +kernel
theorem dX9_fires_76 : decode cX9_fires 76 = .ok (.aload_n 0, 1) := by decide +kernel
theorem dX9_fires_77 : decode cX9_fires 77 = .ok (.getfield 107, 3) := by decide +kernel
theorem dX9_fires_80 : decode cX9_fires 80 = .ok (.iconst 4, 1) := by decide +kernel
theorem dX9_fires_81 : decode cX9_fires 81 = .ok (.iload_n 1, 1) := by decide +kernel
theorem dX9_fires_82 : decode cX9_fires 82 = .ok (.imul, 1) := by decide +kernel
theorem dX9_fires_83 : decode cX9_fires 83 = .ok (.iload_n 2, 1) := by decide +kernel
theorem dX9_fires_84 : decode cX9_fires 84 = .ok (.iadd, 1) := by decide +kernel
theorem dX9_fires_85 : decode cX9_fires 85 = .ok (.iaload, 1) := by decide +kernel
theorem dX9_fires_86 : decode cX9_fires 86 = .ok (.istore 5, 2) := by decide +kernel
theorem dX9_fires_88 : decode cX9_fires 88 = .ok (.iload 5, 2) := by decide +kernel
theorem dX9_fires_90 : decode cX9_fires 90 = .ok (.ifCond .ne 4, 3) := by decide +kernel
theorem dX9_fires_93 : decode cX9_fires 93 = .ok (.return_, 1) := by decide +kernel
theorem dX9_fires_94 : decode cX9_fires 94 = .ok (.aload_n 0, 1) := by decide +kernel
theorem dX9_fires_95 : decode cX9_fires 95 = .ok (.getfield 9, 3) := by decide +kernel
theorem dX9_fires_98 : decode cX9_fires 98 = .ok (.aload_n 0, 1) := by decide +kernel
theorem dX9_fires_99 : decode cX9_fires 99 = .ok (.getfield 52, 3) := by decide +kernel
theorem dX9_fires_102 : decode cX9_fires 102 = .ok (.iload_n 1, 1) := by decide +kernel
theorem dX9_fires_103 : decode cX9_fires 103 = .ok (.iaload, 1) := by decide +kernel
theorem dX9_fires_104 : decode cX9_fires 104 = .ok (.iaload, 1) := by decide +kernel
theorem dX9_fires_105 : decode cX9_fires 105 = .ok (.istore 6, 2) := by decide +kernel
theorem dX9_fires_107 : decode cX9_fires 107 = .ok (.aload_n 0, 1) := by decide +kernel
theorem dX9_fires_108 : decode cX9_fires 108 = .ok (.getfield 179, 3) := by decide +kernel
theorem dX9_fires_111 : decode cX9_fires 111 = .ok (.iload_n 2, 1) := by decide +kernel
theorem dX9_fires_112 : decode cX9_fires 112 = .ok (.daload, 1) := by decide +kernel
theorem dX9_fires_113 : decode cX9_fires 113 = .ok (.dconst 1, 1) := by decide +kernel
theorem dX9_fires_114 : decode cX9_fires 114 = .ok (.dcmp .l, 1) := by decide +kernel
theorem dX9_fires_115 : decode cX9_fires 115 = .ok (.ifCond .eq 51, 3) := by decide +kernel
theorem dX9_fires_118 : decode cX9_fires 118 = .ok (.iconst 0, 1) := by decide +kernel
theorem dX9_fires_119 : decode cX9_fires 119 = .ok (.istore 7, 2) := by decide +kernel
theorem dX9_fires_121 : decode cX9_fires 121 = .ok (.iload 7, 2) := by decide +kernel
theorem dX9_fires_123 : decode cX9_fires 123 = .ok (.iload 6, 2) := by decide +kernel
theorem dX9_fires_125 : decode cX9_fires 125 = .ok (.if_icmp .ge 34, 3) := by decide +kernel
theorem dX9_fires_128 : decode cX9_fires 128 = .ok (.aload_n 0, 1) := by decide +kernel
theorem dX9_fires_129 : decode cX9_fires 129 = .ok (.getfield 98, 3) := by decide +kernel
theorem dX9_fires_132 : decode cX9_fires 132 = .ok (.bipush 6, 2) := by decide +kernel
theorem dX9_fires_134 : decode cX9_fires 134 = .ok (.iload_n 1, 1) := by decide +kernel
theorem dX9_fires_135 : decode cX9_fires 135 = .ok (.imul, 1) := by decide +kernel
theorem dX9_fires_136 : decode cX9_fires 136 = .ok (.iload 7, 2) := by decide +kernel
theorem dX9_fires_138 : decode cX9_fires 138 = .ok (.iadd, 1) := by decide +kernel
theorem dX9_fires_139 : decode cX9_fires 139 = .ok (.aload_n 0, 1) := by decide +kernel
theorem dX9_fires_140 : decode cX9_fires 140 = .ok (.iload_n 1, 1) := by decide +kernel
theorem dX9_fires_141 : decode cX9_fires 141 = .ok (.iload 7, 2) := by decide +kernel
theorem dX9_fires_143 : decode cX9_fires 143 = .ok (.aload_n 0, 1) := by decide +kernel
theorem dX9_fires_144 : decode cX9_fires 144 = .ok (.getfield 179, 3) := by decide +kernel
theorem dX9_fires_147 : decode cX9_fires 147 = .ok (.iload_n 2, 1) := by decide +kernel
theorem dX9_fires_148 : decode cX9_fires 148 = .ok (.daload, 1) := by decide +kernel
theorem dX9_fires_149 : decode cX9_fires 149 = .ok (.invokevirtual 330, 3) := by decide +kernel
theorem dX9_fires_152 : decode cX9_fires 152 = .ok (.dastore, 1) := by decide +kernel
theorem dX9_fires_153 : decode cX9_fires 153 = .ok (.iinc 7 1, 3) := by decide +kernel
theorem dX9_fires_156 : decode cX9_fires 156 = .ok (.goto (-35), 3) := by decide +kernel
theorem dX9_fires_159 : decode cX9_fires 159 = .ok (.aload_n 0, 1) := by decide +kernel
theorem dX9_fires_160 : decode cX9_fires 160 = .ok (.getfield 83, 3) := by decide +kernel
theorem dX9_fires_163 : decode cX9_fires 163 = .ok (.iload_n 1, 1) := by decide +kernel
theorem dX9_fires_164 : decode cX9_fires 164 = .ok (.dload_n 3, 1) := by decide +kernel
theorem dX9_fires_165 : decode cX9_fires 165 = .ok (.dastore, 1) := by decide +kernel
theorem dX9_fires_166 : decode cX9_fires 166 = .ok (.iload 5, 2) := by decide +kernel
theorem dX9_fires_168 : decode cX9_fires 168 = .ok (.iconst 1, 1) := by decide +kernel
theorem dX9_fires_169 : decode cX9_fires 169 = .ok (.if_icmp .ne 10, 3) := by decide +kernel
theorem dX9_fires_172 : decode cX9_fires 172 = .ok (.aload_n 0, 1) := by decide +kernel
theorem dX9_fires_173 : decode cX9_fires 173 = .ok (.getfield 73, 3) := by decide +kernel
theorem dX9_fires_176 : decode cX9_fires 176 = .ok (.iload_n 1, 1) := by decide +kernel
theorem dX9_fires_177 : decode cX9_fires 177 = .ok (.iconst 1, 1) := by decide +kernel
theorem dX9_fires_178 : decode cX9_fires 178 = .ok (.bastore, 1) := by decide +kernel
theorem dX9_fires_179 : decode cX9_fires 179 = .ok (.iload 5, 2) := by decide +kernel
theorem dX9_fires_181 : decode cX9_fires 181 = .ok (.iconst 2, 1) := by decide +kernel
theorem dX9_fires_182 : decode cX9_fires 182 = .ok (.if_icmp .eq 4, 3) := by decide +kernel
theorem dX9_fires_185 : decode cX9_fires 185 = .ok (.return_, 1) := by decide +kernel
theorem dX9_fires_186 : decode cX9_fires 186 = .ok (.aload_n 0, 1) := by decide +kernel
theorem dX9_fires_187 : decode cX9_fires 187 = .ok (.getfield 110, 3) := by decide +kernel
theorem dX9_fires_190 : decode cX9_fires 190 = .ok (.iconst 4, 1) := by decide +kernel
theorem dX9_fires_191 : decode cX9_fires 191 = .ok (.iload_n 1, 1) := by decide +kernel
theorem dX9_fires_192 : decode cX9_fires 192 = .ok (.imul, 1) := by decide +kernel
theorem dX9_fires_193 : decode cX9_fires 193 = .ok (.iload_n 2, 1) := by decide +kernel
theorem dX9_fires_194 : decode cX9_fires 194 = .ok (.iadd, 1) := by decide +kernel
theorem dX9_fires_195 : decode cX9_fires 195 = .ok (.iaload, 1) := by decide +kernel
theorem dX9_fires_196 : decode cX9_fires 196 = .ok (.istore 7, 2) := by decide +kernel
theorem dX9_fires_198 : decode cX9_fires 198 = .ok (.bipush 6, 2) := by decide +kernel
theorem dX9_fires_200 : decode cX9_fires 200 = .ok (.iload_n 1, 1) := by decide +kernel
theorem dX9_fires_201 : decode cX9_fires 201 = .ok (.imul, 1) := by decide +kernel
theorem dX9_fires_202 : decode cX9_fires 202 = .ok (.iload 7, 2) := by decide +kernel
theorem dX9_fires_204 : decode cX9_fires 204 = .ok (.ifCond .lt 15, 3) := by decide +kernel
theorem dX9_fires_207 : decode cX9_fires 207 = .ok (.iload 7, 2) := by decide +kernel
theorem dX9_fires_209 : decode cX9_fires 209 = .ok (.iload 6, 2) := by decide +kernel
theorem dX9_fires_211 : decode cX9_fires 211 = .ok (.if_icmp .ge 8, 3) := by decide +kernel
theorem dX9_fires_214 : decode cX9_fires 214 = .ok (.iload 7, 2) := by decide +kernel
theorem dX9_fires_216 : decode cX9_fires 216 = .ok (.goto 4, 3) := by decide +kernel
theorem dX9_fires_219 : decode cX9_fires 219 = .ok (.iconst 0, 1) := by decide +kernel
theorem dX9_fires_220 : decode cX9_fires 220 = .ok (.iadd, 1) := by decide +kernel
theorem dX9_fires_221 : decode cX9_fires 221 = .ok (.istore 8, 2) := by decide +kernel
theorem dX9_fires_223 : decode cX9_fires 223 = .ok (.aload_n 0, 1) := by decide +kernel
theorem dX9_fires_224 : decode cX9_fires 224 = .ok (.getfield 98, 3) := by decide +kernel
theorem dX9_fires_227 : decode cX9_fires 227 = .ok (.iload 8, 2) := by decide +kernel
theorem dX9_fires_229 : decode cX9_fires 229 = .ok (.aload_n 0, 1) := by decide +kernel
theorem dX9_fires_230 : decode cX9_fires 230 = .ok (.getfield 98, 3) := by decide +kernel
theorem dX9_fires_233 : decode cX9_fires 233 = .ok (.iload 8, 2) := by decide +kernel
theorem dX9_fires_235 : decode cX9_fires 235 = .ok (.daload, 1) := by decide +kernel
theorem dX9_fires_236 : decode cX9_fires 236 = .ok (.invokestatic 217, 3) := by decide +kernel
theorem dX9_fires_239 : decode cX9_fires 239 = .ok (.dastore, 1) := by decide +kernel
theorem dX9_fires_240 : decode cX9_fires 240 = .ok (.return_, 1) := by decide +kernel
theorem dX9_law_0 : decode cX9_law 0 = .ok (.iload_n 1, 1) := by decide +kernel
theorem dX9_law_1 : decode cX9_law 1 = .ok (.iconst 1, 1) := by decide +kernel
theorem dX9_law_2 : decode cX9_law 2 = .ok (.bipush 6, 2) := by decide +kernel
theorem dX9_law_4 : decode cX9_law 4 = .ok (.invokestatic 343, 3) := by decide +kernel
theorem dX9_law_7 : decode cX9_law 7 = .ok (.ifCond .eq 13, 3) := by decide +kernel
theorem dX9_law_10 : decode cX9_law 10 = .ok (.iload_n 2, 1) := by decide +kernel
theorem dX9_law_11 : decode cX9_law 11 = .ok (.ifCond .lt 9, 3) := by decide +kernel
theorem dX9_law_14 : decode cX9_law 14 = .ok (.iload_n 2, 1) := by decide +kernel
theorem dX9_law_15 : decode cX9_law 15 = .ok (.iload_n 1, 1) := by decide +kernel
theorem dX9_law_16 : decode cX9_law 16 = .ok (.ishr, 1) := by decide +kernel
theorem dX9_law_17 : decode cX9_law 17 = .ok (.ifCond .eq 5, 3) := by decide +kernel
theorem dX9_law_20 : decode cX9_law 20 = .ok (.iconst (-1), 1) := by decide +kernel
theorem dX9_law_21 : decode cX9_law 21 = .ok (.ireturn, 1) := by decide +kernel
theorem dX9_law_22 : decode cX9_law 22 = .ok (.aload_n 0, 1) := by decide +kernel
theorem dX9_law_23 : decode cX9_law 23 = .ok (.getfield 347, 3) := by decide +kernel
theorem dX9_law_26 : decode cX9_law 26 = .ok (.bipush 8, 2) := by decide +kernel
theorem dX9_law_28 : decode cX9_law 28 = .ok (.if_icmp .ne 6, 3) := by decide +kernel
theorem dX9_law_31 : decode cX9_law 31 = .ok (.bipush (-3), 2) := by decide +kernel
theorem dX9_law_33 : decode cX9_law 33 = .ok (.ireturn, 1) := by decide +kernel
theorem dX9_law_34 : decode cX9_law 34 = .ok (.aload_n 0, 1) := by decide +kernel
theorem dX9_law_35 : decode cX9_law 35 = .ok (.getfield 9, 3) := by decide +kernel
theorem dX9_law_38 : decode cX9_law 38 = .ok (.aload_n 0, 1) := by decide +kernel
theorem dX9_law_39 : decode cX9_law 39 = .ok (.getfield 347, 3) := by decide +kernel
theorem dX9_law_42 : decode cX9_law 42 = .ok (.iload_n 1, 1) := by decide +kernel
theorem dX9_law_43 : decode cX9_law 43 = .ok (.iastore, 1) := by decide +kernel
theorem dX9_law_44 : decode cX9_law 44 = .ok (.aload_n 0, 1) := by decide +kernel
theorem dX9_law_45 : decode cX9_law 45 = .ok (.getfield 15, 3) := by decide +kernel
theorem dX9_law_48 : decode cX9_law 48 = .ok (.aload_n 0, 1) := by decide +kernel
theorem dX9_law_49 : decode cX9_law 49 = .ok (.getfield 347, 3) := by decide +kernel
theorem dX9_law_52 : decode cX9_law 52 = .ok (.iload_n 2, 1) := by decide +kernel
theorem dX9_law_53 : decode cX9_law 53 = .ok (.iastore, 1) := by decide +kernel
theorem dX9_law_54 : decode cX9_law 54 = .ok (.aload_n 0, 1) := by decide +kernel
theorem dX9_law_55 : decode cX9_law 55 = .ok (.dup, 1) := by decide +kernel
theorem dX9_law_56 : decode cX9_law 56 = .ok (.getfield 347, 3) := by decide +kernel
theorem dX9_law_59 : decode cX9_law 59 = .ok (.iconst 1, 1) := by decide +kernel
theorem dX9_law_60 : decode cX9_law 60 = .ok (.iadd, 1) := by decide +kernel
theorem dX9_law_61 : decode cX9_law 61 = .ok (.putfield 347, 3) := by decide +kernel
theorem dX9_law_64 : decode cX9_law 64 = .ok (.aload_n 0, 1) := by decide +kernel
theorem dX9_law_65 : decode cX9_law 65 = .ok (.getfield 347, 3) := by decide +kernel
theorem dX9_law_68 : decode cX9_law 68 = .ok (.iconst 1, 1) := by decide +kernel
theorem dX9_law_69 : decode cX9_law 69 = .ok (.isub, 1) := by decide +kernel
theorem dX9_law_70 : decode cX9_law 70 = .ok (.ireturn, 1) := by decide +kernel
theorem dX9_comesNode_0 : decode cX9_comesNode 0 = .ok (.aload_n 0, 1) := by decide +kernel
theorem dX9_comesNode_1 : decode cX9_comesNode 1 = .ok (.getfield 18, 3) := by decide +kernel
theorem dX9_comesNode_4 : decode cX9_comesNode 4 = .ok (.iload_n 1, 1) := by decide +kernel
theorem dX9_comesNode_5 : decode cX9_comesNode 5 = .ok (.iaload, 1) := by decide +kernel
theorem dX9_comesNode_6 : decode cX9_comesNode 6 = .ok (.bipush 48, 2) := by decide +kernel
theorem dX9_comesNode_8 : decode cX9_comesNode 8 = .ok (.if_icmp .ne 6, 3) := by decide +kernel
theorem dX9_comesNode_11 : decode cX9_comesNode 11 = .ok (.bipush (-3), 2) := by decide +kernel
theorem dX9_comesNode_13 : decode cX9_comesNode 13 = .ok (.ireturn, 1) := by decide +kernel
theorem dX9_comesNode_14 : decode cX9_comesNode 14 = .ok (.bipush 48, 2) := by decide +kernel
theorem dX9_comesNode_16 : decode cX9_comesNode 16 = .ok (.iload_n 1, 1) := by decide +kernel
theorem dX9_comesNode_17 : decode cX9_comesNode 17 = .ok (.imul, 1) := by decide +kernel
theorem dX9_comesNode_18 : decode cX9_comesNode 18 = .ok (.aload_n 0, 1) := by decide +kernel
theorem dX9_comesNode_19 : decode cX9_comesNode 19 = .ok (.getfield 18, 3) := by decide +kernel
theorem dX9_comesNode_22 : decode cX9_comesNode 22 = .ok (.iload_n 1, 1) := by decide +kernel
theorem dX9_comesNode_23 : decode cX9_comesNode 23 = .ok (.iaload, 1) := by decide +kernel
theorem dX9_comesNode_24 : decode cX9_comesNode 24 = .ok (.iadd, 1) := by decide +kernel
theorem dX9_comesNode_25 : decode cX9_comesNode 25 = .ok (.istore 6, 2) := by decide +kernel
theorem dX9_comesNode_27 : decode cX9_comesNode 27 = .ok (.aload_n 0, 1) := by decide +kernel
theorem dX9_comesNode_28 : decode cX9_comesNode 28 = .ok (.getfield 24, 3) := by decide +kernel
theorem dX9_comesNode_31 : decode cX9_comesNode 31 = .ok (.iload 6, 2) := by decide +kernel
theorem dX9_comesNode_33 : decode cX9_comesNode 33 = .ok (.iload_n 2, 1) := by decide +kernel
theorem dX9_comesNode_34 : decode cX9_comesNode 34 = .ok (.iastore, 1) := by decide +kernel
theorem dX9_comesNode_35 : decode cX9_comesNode 35 = .ok (.aload_n 0, 1) := by decide +kernel
theorem dX9_comesNode_36 : decode cX9_comesNode 36 = .ok (.getfield 27, 3) := by decide +kernel
theorem dX9_comesNode_39 : decode cX9_comesNode 39 = .ok (.iload 6, 2) := by decide +kernel
theorem dX9_comesNode_41 : decode cX9_comesNode 41 = .ok (.iload_n 3, 1) := by decide +kernel
theorem dX9_comesNode_42 : decode cX9_comesNode 42 = .ok (.iastore, 1) := by decide +kernel
theorem dX9_comesNode_43 : decode cX9_comesNode 43 = .ok (.aload_n 0, 1) := by decide +kernel
theorem dX9_comesNode_44 : decode cX9_comesNode 44 = .ok (.getfield 30, 3) := by decide +kernel
theorem dX9_comesNode_47 : decode cX9_comesNode 47 = .ok (.iload 6, 2) := by decide +kernel
theorem dX9_comesNode_49 : decode cX9_comesNode 49 = .ok (.iload 4, 2) := by decide +kernel
theorem dX9_comesNode_51 : decode cX9_comesNode 51 = .ok (.iastore, 1) := by decide +kernel
theorem dX9_comesNode_52 : decode cX9_comesNode 52 = .ok (.aload_n 0, 1) := by decide +kernel
theorem dX9_comesNode_53 : decode cX9_comesNode 53 = .ok (.getfield 33, 3) := by decide +kernel
theorem dX9_comesNode_56 : decode cX9_comesNode 56 = .ok (.iload 6, 2) := by decide +kernel
theorem dX9_comesNode_58 : decode cX9_comesNode 58 = .ok (.iload 5, 2) := by decide +kernel
theorem dX9_comesNode_60 : decode cX9_comesNode 60 = .ok (.iastore, 1) := by decide +kernel
theorem dX9_comesNode_61 : decode cX9_comesNode 61 = .ok (.aload_n 0, 1) := by decide +kernel
theorem dX9_comesNode_62 : decode cX9_comesNode 62 = .ok (.getfield 18, 3) := by decide +kernel
theorem dX9_comesNode_65 : decode cX9_comesNode 65 = .ok (.iload_n 1, 1) := by decide +kernel
theorem dX9_comesNode_66 : decode cX9_comesNode 66 = .ok (.dup2, 1) := by decide +kernel
theorem dX9_comesNode_67 : decode cX9_comesNode 67 = .ok (.iaload, 1) := by decide +kernel
theorem dX9_comesNode_68 : decode cX9_comesNode 68 = .ok (.iconst 1, 1) := by decide +kernel
theorem dX9_comesNode_69 : decode cX9_comesNode 69 = .ok (.iadd, 1) := by decide +kernel
theorem dX9_comesNode_70 : decode cX9_comesNode 70 = .ok (.iastore, 1) := by decide +kernel
theorem dX9_comesNode_71 : decode cX9_comesNode 71 = .ok (.aload_n 0, 1) := by decide +kernel
theorem dX9_comesNode_72 : decode cX9_comesNode 72 = .ok (.getfield 18, 3) := by decide +kernel
theorem dX9_comesNode_75 : decode cX9_comesNode 75 = .ok (.iload_n 1, 1) := by decide +kernel
theorem dX9_comesNode_76 : decode cX9_comesNode 76 = .ok (.iaload, 1) := by decide +kernel
theorem dX9_comesNode_77 : decode cX9_comesNode 77 = .ok (.iconst 1, 1) := by decide +kernel
theorem dX9_comesNode_78 : decode cX9_comesNode 78 = .ok (.isub, 1) := by decide +kernel
theorem dX9_comesNode_79 : decode cX9_comesNode 79 = .ok (.ireturn, 1) := by decide +kernel
theorem dX9_constant_0 : decode cX9_constant 0 = .ok (.iload_n 1, 1) := by decide +kernel
theorem dX9_constant_1 : decode cX9_constant 1 = .ok (.iconst 0, 1) := by decide +kernel
theorem dX9_constant_2 : decode cX9_constant 2 = .ok (.aload_n 0, 1) := by decide +kernel
theorem dX9_constant_3 : decode cX9_constant 3 = .ok (.getfield 347, 3) := by decide +kernel
theorem dX9_constant_6 : decode cX9_constant 6 = .ok (.iconst 1, 1) := by decide +kernel
theorem dX9_constant_7 : decode cX9_constant 7 = .ok (.isub, 1) := by decide +kernel
theorem dX9_constant_8 : decode cX9_constant 8 = .ok (.invokestatic 343, 3) := by decide +kernel
theorem dX9_constant_11 : decode cX9_constant 11 = .ok (.ifCond .eq 14, 3) := by decide +kernel
theorem dX9_constant_14 : decode cX9_constant 14 = .ok (.iload 4, 2) := by decide +kernel
theorem dX9_constant_16 : decode cX9_constant 16 = .ok (.iconst 0, 1) := by decide +kernel
theorem dX9_constant_17 : decode cX9_constant 17 = .ok (.bipush 30, 2) := by decide +kernel
theorem dX9_constant_19 : decode cX9_constant 19 = .ok (.invokestatic 343, 3) := by decide +kernel
theorem dX9_constant_22 : decode cX9_constant 22 = .ok (.ifCond .ne 5, 3) := by decide +kernel
theorem dX9_constant_25 : decode cX9_constant 25 = .ok (.iconst (-1), 1) := by decide +kernel
theorem dX9_constant_26 : decode cX9_constant 26 = .ok (.ireturn, 1) := by decide +kernel
theorem dX9_constant_27 : decode cX9_constant 27 = .ok (.aload_n 0, 1) := by decide +kernel
theorem dX9_constant_28 : decode cX9_constant 28 = .ok (.iload_n 1, 1) := by decide +kernel
theorem dX9_constant_29 : decode cX9_constant 29 = .ok (.bipush 13, 2) := by decide +kernel
theorem dX9_constant_31 : decode cX9_constant 31 = .ok (.iconst 0, 1) := by decide +kernel
theorem dX9_constant_32 : decode cX9_constant 32 = .ok (.iconst 0, 1) := by decide +kernel
theorem dX9_constant_33 : decode cX9_constant 33 = .ok (.iconst 0, 1) := by decide +kernel
theorem dX9_constant_34 : decode cX9_constant 34 = .ok (.invokevirtual 350, 3) := by decide +kernel
theorem dX9_constant_37 : decode cX9_constant 37 = .ok (.istore 5, 2) := by decide +kernel
theorem dX9_constant_39 : decode cX9_constant 39 = .ok (.iload 5, 2) := by decide +kernel
theorem dX9_constant_41 : decode cX9_constant 41 = .ok (.ifCond .lt 21, 3) := by decide +kernel
theorem dX9_constant_44 : decode cX9_constant 44 = .ok (.aload_n 0, 1) := by decide +kernel
theorem dX9_constant_45 : decode cX9_constant 45 = .ok (.getfield 36, 3) := by decide +kernel
theorem dX9_constant_48 : decode cX9_constant 48 = .ok (.bipush 48, 2) := by decide +kernel
theorem dX9_constant_50 : decode cX9_constant 50 = .ok (.iload_n 1, 1) := by decide +kernel
theorem dX9_constant_51 : decode cX9_constant 51 = .ok (.imul, 1) := by decide +kernel
theorem dX9_constant_52 : decode cX9_constant 52 = .ok (.iload 5, 2) := by decide +kernel
theorem dX9_constant_54 : decode cX9_constant 54 = .ok (.iadd, 1) := by decide +kernel
theorem dX9_constant_55 : decode cX9_constant 55 = .ok (.lload_n 2, 1) := by decide +kernel
theorem dX9_constant_56 : decode cX9_constant 56 = .ok (.iload 4, 2) := by decide +kernel
theorem dX9_constant_58 : decode cX9_constant 58 = .ok (.invokestatic 354, 3) := by decide +kernel
theorem dX9_constant_61 : decode cX9_constant 61 = .ok (.dastore, 1) := by decide +kernel
theorem dX9_constant_62 : decode cX9_constant 62 = .ok (.iload 5, 2) := by decide +kernel
theorem dX9_constant_64 : decode cX9_constant 64 = .ok (.ireturn, 1) := by decide +kernel
theorem dX9_node_0 : decode cX9_node 0 = .ok (.iload_n 1, 1) := by decide +kernel
theorem dX9_node_1 : decode cX9_node 1 = .ok (.iconst 0, 1) := by decide +kernel
theorem dX9_node_2 : decode cX9_node 2 = .ok (.aload_n 0, 1) := by decide +kernel
theorem dX9_node_3 : decode cX9_node 3 = .ok (.getfield 347, 3) := by decide +kernel
theorem dX9_node_6 : decode cX9_node 6 = .ok (.iconst 1, 1) := by decide +kernel
theorem dX9_node_7 : decode cX9_node 7 = .ok (.isub, 1) := by decide +kernel
theorem dX9_node_8 : decode cX9_node 8 = .ok (.invokestatic 343, 3) := by decide +kernel
theorem dX9_node_11 : decode cX9_node 11 = .ok (.ifCond .eq 13, 3) := by decide +kernel
theorem dX9_node_14 : decode cX9_node 14 = .ok (.iload_n 2, 1) := by decide +kernel
theorem dX9_node_15 : decode cX9_node 15 = .ok (.iconst 0, 1) := by decide +kernel
theorem dX9_node_16 : decode cX9_node 16 = .ok (.bipush 12, 2) := by decide +kernel
theorem dX9_node_18 : decode cX9_node 18 = .ok (.invokestatic 343, 3) := by decide +kernel
theorem dX9_node_21 : decode cX9_node 21 = .ok (.ifCond .ne 5, 3) := by decide +kernel
theorem dX9_node_24 : decode cX9_node 24 = .ok (.iconst (-1), 1) := by decide +kernel
theorem dX9_node_25 : decode cX9_node 25 = .ok (.ireturn, 1) := by decide +kernel
theorem dX9_node_26 : decode cX9_node 26 = .ok (.aload_n 0, 1) := by decide +kernel
theorem dX9_node_27 : decode cX9_node 27 = .ok (.getfield 18, 3) := by decide +kernel
theorem dX9_node_30 : decode cX9_node 30 = .ok (.iload_n 1, 1) := by decide +kernel
theorem dX9_node_31 : decode cX9_node 31 = .ok (.iaload, 1) := by decide +kernel
theorem dX9_node_32 : decode cX9_node 32 = .ok (.iconst 1, 1) := by decide +kernel
theorem dX9_node_33 : decode cX9_node 33 = .ok (.isub, 1) := by decide +kernel
theorem dX9_node_34 : decode cX9_node 34 = .ok (.istore 6, 2) := by decide +kernel
theorem dX9_node_36 : decode cX9_node 36 = .ok (.iload_n 2, 1) := by decide +kernel
theorem dX9_node_37 : decode cX9_node 37 = .ok (.iconst 1, 1) := by decide +kernel
theorem dX9_node_38 : decode cX9_node 38 = .ok (.if_icmp .eq 36, 3) := by decide +kernel
theorem dX9_node_41 : decode cX9_node 41 = .ok (.iload_n 2, 1) := by decide +kernel
theorem dX9_node_42 : decode cX9_node 42 = .ok (.ifCond .ne 22, 3) := by decide +kernel
theorem dX9_node_45 : decode cX9_node 45 = .ok (.iload_n 3, 1) := by decide +kernel
theorem dX9_node_46 : decode cX9_node 46 = .ok (.iconst 0, 1) := by decide +kernel
theorem dX9_node_47 : decode cX9_node 47 = .ok (.aload_n 0, 1) := by decide +kernel
theorem dX9_node_48 : decode cX9_node 48 = .ok (.getfield 9, 3) := by decide +kernel
theorem dX9_node_51 : decode cX9_node 51 = .ok (.iload_n 1, 1) := by decide +kernel
theorem dX9_node_52 : decode cX9_node 52 = .ok (.iaload, 1) := by decide +kernel
theorem dX9_node_53 : decode cX9_node 53 = .ok (.iconst 1, 1) := by decide +kernel
theorem dX9_node_54 : decode cX9_node 54 = .ok (.isub, 1) := by decide +kernel
theorem dX9_node_55 : decode cX9_node 55 = .ok (.invokestatic 343, 3) := by decide +kernel
theorem dX9_node_58 : decode cX9_node 58 = .ok (.ifCond .eq 20, 3) := by decide +kernel
theorem dX9_node_61 : decode cX9_node 61 = .ok (.goto 13, 3) := by decide +kernel
theorem dX9_node_64 : decode cX9_node 64 = .ok (.iload_n 3, 1) := by decide +kernel
theorem dX9_node_65 : decode cX9_node 65 = .ok (.iconst 0, 1) := by decide +kernel
theorem dX9_node_66 : decode cX9_node 66 = .ok (.iload 6, 2) := by decide +kernel
theorem dX9_node_68 : decode cX9_node 68 = .ok (.invokestatic 343, 3) := by decide +kernel
theorem dX9_node_71 : decode cX9_node 71 = .ok (.ifCond .eq 7, 3) := by decide +kernel
theorem dX9_node_74 : decode cX9_node 74 = .ok (.iconst 1, 1) := by decide +kernel
theorem dX9_node_75 : decode cX9_node 75 = .ok (.goto 4, 3) := by decide +kernel
theorem dX9_node_78 : decode cX9_node 78 = .ok (.iconst 0, 1) := by decide +kernel
theorem dX9_node_79 : decode cX9_node 79 = .ok (.istore 7, 2) := by decide +kernel
theorem dX9_node_81 : decode cX9_node 81 = .ok (.iload_n 2, 1) := by decide +kernel
theorem dX9_node_82 : decode cX9_node 82 = .ok (.iconst 2, 1) := by decide +kernel
theorem dX9_node_83 : decode cX9_node 83 = .ok (.iconst 5, 1) := by decide +kernel
theorem dX9_node_84 : decode cX9_node 84 = .ok (.invokestatic 343, 3) := by decide +kernel
theorem dX9_node_87 : decode cX9_node 87 = .ok (.ifCond .ne 14, 3) := by decide +kernel
theorem dX9_node_90 : decode cX9_node 90 = .ok (.iload_n 2, 1) := by decide +kernel
theorem dX9_node_91 : decode cX9_node 91 = .ok (.bipush 8, 2) := by decide +kernel
theorem dX9_node_93 : decode cX9_node 93 = .ok (.bipush 10, 2) := by decide +kernel
theorem dX9_node_95 : decode cX9_node 95 = .ok (.invokestatic 343, 3) := by decide +kernel
theorem dX9_node_98 : decode cX9_node 98 = .ok (.ifCond .eq 26, 3) := by decide +kernel
theorem dX9_node_101 : decode cX9_node 101 = .ok (.iload 7, 2) := by decide +kernel
theorem dX9_node_103 : decode cX9_node 103 = .ok (.ifCond .eq 18, 3) := by decide +kernel
theorem dX9_node_106 : decode cX9_node 106 = .ok (.iload 4, 2) := by decide +kernel
theorem dX9_node_108 : decode cX9_node 108 = .ok (.iconst 0, 1) := by decide +kernel
theorem dX9_node_109 : decode cX9_node 109 = .ok (.iload 6, 2) := by decide +kernel
theorem dX9_node_111 : decode cX9_node 111 = .ok (.invokestatic 343, 3) := by decide +kernel
theorem dX9_node_114 : decode cX9_node 114 = .ok (.ifCond .eq 7, 3) := by decide +kernel
theorem dX9_node_117 : decode cX9_node 117 = .ok (.iconst 1, 1) := by decide +kernel
theorem dX9_node_118 : decode cX9_node 118 = .ok (.goto 4, 3) := by decide +kernel
theorem dX9_node_121 : decode cX9_node 121 = .ok (.iconst 0, 1) := by decide +kernel
theorem dX9_node_122 : decode cX9_node 122 = .ok (.istore 7, 2) := by decide +kernel
theorem dX9_node_124 : decode cX9_node 124 = .ok (.iload_n 2, 1) := by decide +kernel
theorem dX9_node_125 : decode cX9_node 125 = .ok (.bipush 10, 2) := by decide +kernel
theorem dX9_node_127 : decode cX9_node 127 = .ok (.if_icmp .ne 26, 3) := by decide +kernel
theorem dX9_node_130 : decode cX9_node 130 = .ok (.iload 7, 2) := by decide +kernel
theorem dX9_node_132 : decode cX9_node 132 = .ok (.ifCond .eq 18, 3) := by decide +kernel
theorem dX9_node_135 : decode cX9_node 135 = .ok (.iload 5, 2) := by decide +kernel
theorem dX9_node_137 : decode cX9_node 137 = .ok (.iconst 0, 1) := by decide +kernel
theorem dX9_node_138 : decode cX9_node 138 = .ok (.iload 6, 2) := by decide +kernel
theorem dX9_node_140 : decode cX9_node 140 = .ok (.invokestatic 343, 3) := by decide +kernel
theorem dX9_node_143 : decode cX9_node 143 = .ok (.ifCond .eq 7, 3) := by decide +kernel
theorem dX9_node_146 : decode cX9_node 146 = .ok (.iconst 1, 1) := by decide +kernel
theorem dX9_node_147 : decode cX9_node 147 = .ok (.goto 4, 3) := by decide +kernel
theorem dX9_node_150 : decode cX9_node 150 = .ok (.iconst 0, 1) := by decide +kernel
theorem dX9_node_151 : decode cX9_node 151 = .ok (.istore 7, 2) := by decide +kernel
theorem dX9_node_153 : decode cX9_node 153 = .ok (.iload_n 2, 1) := by decide +kernel
theorem dX9_node_154 : decode cX9_node 154 = .ok (.bipush 11, 2) := by decide +kernel
theorem dX9_node_156 : decode cX9_node 156 = .ok (.if_icmp .ne 26, 3) := by decide +kernel
theorem dX9_node_159 : decode cX9_node 159 = .ok (.iload 7, 2) := by decide +kernel
theorem dX9_node_161 : decode cX9_node 161 = .ok (.ifCond .eq 18, 3) := by decide +kernel
theorem dX9_node_164 : decode cX9_node 164 = .ok (.iload 4, 2) := by decide +kernel
theorem dX9_node_166 : decode cX9_node 166 = .ok (.iconst 0, 1) := by decide +kernel
theorem dX9_node_167 : decode cX9_node 167 = .ok (.bipush 9, 2) := by decide +kernel
theorem dX9_node_169 : decode cX9_node 169 = .ok (.invokestatic 343, 3) := by decide +kernel
theorem dX9_node_172 : decode cX9_node 172 = .ok (.ifCond .eq 7, 3) := by decide +kernel
theorem dX9_node_175 : decode cX9_node 175 = .ok (.iconst 1, 1) := by decide +kernel
theorem dX9_node_176 : decode cX9_node 176 = .ok (.goto 4, 3) := by decide +kernel
theorem dX9_node_179 : decode cX9_node 179 = .ok (.iconst 0, 1) := by decide +kernel
theorem dX9_node_180 : decode cX9_node 180 = .ok (.istore 7, 2) := by decide +kernel
theorem dX9_node_182 : decode cX9_node 182 = .ok (.iload_n 2, 1) := by decide +kernel
theorem dX9_node_183 : decode cX9_node 183 = .ok (.bipush 12, 2) := by decide +kernel
theorem dX9_node_185 : decode cX9_node 185 = .ok (.if_icmp .ne 30, 3) := by decide +kernel
theorem dX9_node_188 : decode cX9_node 188 = .ok (.iload 7, 2) := by decide +kernel
theorem dX9_node_190 : decode cX9_node 190 = .ok (.ifCond .eq 22, 3) := by decide +kernel
theorem dX9_node_193 : decode cX9_node 193 = .ok (.iload 4, 2) := by decide +kernel
theorem dX9_node_195 : decode cX9_node 195 = .ok (.iconst 0, 1) := by decide +kernel
theorem dX9_node_196 : decode cX9_node 196 = .ok (.aload_n 0, 1) := by decide +kernel
theorem dX9_node_197 : decode cX9_node 197 = .ok (.getfield 358, 3) := by decide +kernel
theorem dX9_node_200 : decode cX9_node 200 = .ok (.iconst 1, 1) := by decide +kernel
theorem dX9_node_201 : decode cX9_node 201 = .ok (.isub, 1) := by decide +kernel
theorem dX9_node_202 : decode cX9_node 202 = .ok (.invokestatic 343, 3) := by decide +kernel
theorem dX9_node_205 : decode cX9_node 205 = .ok (.ifCond .eq 7, 3) := by decide +kernel
theorem dX9_node_208 : decode cX9_node 208 = .ok (.iconst 1, 1) := by decide +kernel
theorem dX9_node_209 : decode cX9_node 209 = .ok (.goto 4, 3) := by decide +kernel
theorem dX9_node_212 : decode cX9_node 212 = .ok (.iconst 0, 1) := by decide +kernel
theorem dX9_node_213 : decode cX9_node 213 = .ok (.istore 7, 2) := by decide +kernel
theorem dX9_node_215 : decode cX9_node 215 = .ok (.iload 7, 2) := by decide +kernel
theorem dX9_node_217 : decode cX9_node 217 = .ok (.ifCond .eq 17, 3) := by decide +kernel
theorem dX9_node_220 : decode cX9_node 220 = .ok (.aload_n 0, 1) := by decide +kernel
theorem dX9_node_221 : decode cX9_node 221 = .ok (.iload_n 1, 1) := by decide +kernel
theorem dX9_node_222 : decode cX9_node 222 = .ok (.iload_n 2, 1) := by decide +kernel
theorem dX9_node_223 : decode cX9_node 223 = .ok (.iload_n 3, 1) := by decide +kernel
theorem dX9_node_224 : decode cX9_node 224 = .ok (.iload 4, 2) := by decide +kernel
theorem dX9_node_226 : decode cX9_node 226 = .ok (.iload 5, 2) := by decide +kernel
theorem dX9_node_228 : decode cX9_node 228 = .ok (.invokevirtual 350, 3) := by decide +kernel
theorem dX9_node_231 : decode cX9_node 231 = .ok (.goto 4, 3) := by decide +kernel
theorem dX9_node_234 : decode cX9_node 234 = .ok (.iconst (-1), 1) := by decide +kernel
theorem dX9_node_235 : decode cX9_node 235 = .ok (.ireturn, 1) := by decide +kernel
theorem dX9_side_0 : decode cX9_side 0 = .ok (.iload_n 1, 1) := by decide +kernel
theorem dX9_side_1 : decode cX9_side 1 = .ok (.iconst 0, 1) := by decide +kernel
theorem dX9_side_2 : decode cX9_side 2 = .ok (.aload_n 0, 1) := by decide +kernel
theorem dX9_side_3 : decode cX9_side 3 = .ok (.getfield 347, 3) := by decide +kernel
theorem dX9_side_6 : decode cX9_side 6 = .ok (.iconst 1, 1) := by decide +kernel
theorem dX9_side_7 : decode cX9_side 7 = .ok (.isub, 1) := by decide +kernel
theorem dX9_side_8 : decode cX9_side 8 = .ok (.invokestatic 343, 3) := by decide +kernel
theorem dX9_side_11 : decode cX9_side 11 = .ok (.ifCond .eq 35, 3) := by decide +kernel
theorem dX9_side_14 : decode cX9_side 14 = .ok (.iload_n 2, 1) := by decide +kernel
theorem dX9_side_15 : decode cX9_side 15 = .ok (.iconst 0, 1) := by decide +kernel
theorem dX9_side_16 : decode cX9_side 16 = .ok (.aload_n 0, 1) := by decide +kernel
theorem dX9_side_17 : decode cX9_side 17 = .ok (.getfield 9, 3) := by decide +kernel
theorem dX9_side_20 : decode cX9_side 20 = .ok (.iload_n 1, 1) := by decide +kernel
theorem dX9_side_21 : decode cX9_side 21 = .ok (.iaload, 1) := by decide +kernel
theorem dX9_side_22 : decode cX9_side 22 = .ok (.iconst 1, 1) := by decide +kernel
theorem dX9_side_23 : decode cX9_side 23 = .ok (.isub, 1) := by decide +kernel
theorem dX9_side_24 : decode cX9_side 24 = .ok (.invokestatic 343, 3) := by decide +kernel
theorem dX9_side_27 : decode cX9_side 27 = .ok (.ifCond .eq 19, 3) := by decide +kernel
theorem dX9_side_30 : decode cX9_side 30 = .ok (.iload_n 3, 1) := by decide +kernel
theorem dX9_side_31 : decode cX9_side 31 = .ok (.iconst 0, 1) := by decide +kernel
theorem dX9_side_32 : decode cX9_side 32 = .ok (.aload_n 0, 1) := by decide +kernel
theorem dX9_side_33 : decode cX9_side 33 = .ok (.getfield 18, 3) := by decide +kernel
theorem dX9_side_36 : decode cX9_side 36 = .ok (.iload_n 1, 1) := by decide +kernel
theorem dX9_side_37 : decode cX9_side 37 = .ok (.iaload, 1) := by decide +kernel
theorem dX9_side_38 : decode cX9_side 38 = .ok (.iconst 1, 1) := by decide +kernel
theorem dX9_side_39 : decode cX9_side 39 = .ok (.isub, 1) := by decide +kernel
theorem dX9_side_40 : decode cX9_side 40 = .ok (.invokestatic 343, 3) := by decide +kernel
theorem dX9_side_43 : decode cX9_side 43 = .ok (.ifCond .ne 5, 3) := by decide +kernel
theorem dX9_side_46 : decode cX9_side 46 = .ok (.iconst (-1), 1) := by decide +kernel
theorem dX9_side_47 : decode cX9_side 47 = .ok (.ireturn, 1) := by decide +kernel
theorem dX9_side_48 : decode cX9_side 48 = .ok (.iconst 0, 1) := by decide +kernel
theorem dX9_side_49 : decode cX9_side 49 = .ok (.istore 4, 2) := by decide +kernel
theorem dX9_side_51 : decode cX9_side 51 = .ok (.iload 4, 2) := by decide +kernel
theorem dX9_side_53 : decode cX9_side 53 = .ok (.aload_n 0, 1) := by decide +kernel
theorem dX9_side_54 : decode cX9_side 54 = .ok (.getfield 361, 3) := by decide +kernel
theorem dX9_side_57 : decode cX9_side 57 = .ok (.if_icmp .ge 23, 3) := by decide +kernel
theorem dX9_side_60 : decode cX9_side 60 = .ok (.aload_n 0, 1) := by decide +kernel
theorem dX9_side_61 : decode cX9_side 61 = .ok (.getfield 52, 3) := by decide +kernel
theorem dX9_side_64 : decode cX9_side 64 = .ok (.iload 4, 2) := by decide +kernel
theorem dX9_side_66 : decode cX9_side 66 = .ok (.iaload, 1) := by decide +kernel
theorem dX9_side_67 : decode cX9_side 67 = .ok (.iload_n 1, 1) := by decide +kernel
theorem dX9_side_68 : decode cX9_side 68 = .ok (.if_icmp .ne 6, 3) := by decide +kernel
theorem dX9_side_71 : decode cX9_side 71 = .ok (.bipush (-2), 2) := by decide +kernel
theorem dX9_side_73 : decode cX9_side 73 = .ok (.ireturn, 1) := by decide +kernel
theorem dX9_side_74 : decode cX9_side 74 = .ok (.iinc 4 1, 3) := by decide +kernel
theorem dX9_side_77 : decode cX9_side 77 = .ok (.goto (-26), 3) := by decide +kernel
theorem dX9_side_80 : decode cX9_side 80 = .ok (.aload_n 0, 1) := by decide +kernel
theorem dX9_side_81 : decode cX9_side 81 = .ok (.getfield 21, 3) := by decide +kernel
theorem dX9_side_84 : decode cX9_side 84 = .ok (.bipush 6, 2) := by decide +kernel
theorem dX9_side_86 : decode cX9_side 86 = .ok (.iload_n 1, 1) := by decide +kernel
theorem dX9_side_87 : decode cX9_side 87 = .ok (.imul, 1) := by decide +kernel
theorem dX9_side_88 : decode cX9_side 88 = .ok (.iload_n 2, 1) := by decide +kernel
theorem dX9_side_89 : decode cX9_side 89 = .ok (.iadd, 1) := by decide +kernel
theorem dX9_side_90 : decode cX9_side 90 = .ok (.iload_n 3, 1) := by decide +kernel
theorem dX9_side_91 : decode cX9_side 91 = .ok (.iastore, 1) := by decide +kernel
theorem dX9_side_92 : decode cX9_side 92 = .ok (.iconst 1, 1) := by decide +kernel
theorem dX9_side_93 : decode cX9_side 93 = .ok (.ireturn, 1) := by decide +kernel
theorem dX9_signal_0 : decode cX9_signal 0 = .ok (.iload_n 1, 1) := by decide +kernel
theorem dX9_signal_1 : decode cX9_signal 1 = .ok (.iconst 0, 1) := by decide +kernel
theorem dX9_signal_2 : decode cX9_signal 2 = .ok (.iconst 1, 1) := by decide +kernel
theorem dX9_signal_3 : decode cX9_signal 3 = .ok (.invokestatic 343, 3) := by decide +kernel
theorem dX9_signal_6 : decode cX9_signal 6 = .ok (.ifCond .ne 5, 3) := by decide +kernel
theorem dX9_signal_9 : decode cX9_signal 9 = .ok (.iconst (-1), 1) := by decide +kernel
theorem dX9_signal_10 : decode cX9_signal 10 = .ok (.ireturn, 1) := by decide +kernel
theorem dX9_signal_11 : decode cX9_signal 11 = .ok (.aload_n 0, 1) := by decide +kernel
theorem dX9_signal_12 : decode cX9_signal 12 = .ok (.getfield 358, 3) := by decide +kernel
theorem dX9_signal_15 : decode cX9_signal 15 = .ok (.bipush 8, 2) := by decide +kernel
theorem dX9_signal_17 : decode cX9_signal 17 = .ok (.if_icmp .ne 6, 3) := by decide +kernel
theorem dX9_signal_20 : decode cX9_signal 20 = .ok (.bipush (-3), 2) := by decide +kernel
theorem dX9_signal_22 : decode cX9_signal 22 = .ok (.ireturn, 1) := by decide +kernel
theorem dX9_signal_23 : decode cX9_signal 23 = .ok (.aload_n 0, 1) := by decide +kernel
theorem dX9_signal_24 : decode cX9_signal 24 = .ok (.getfield 40, 3) := by decide +kernel
theorem dX9_signal_27 : decode cX9_signal 27 = .ok (.aload_n 0, 1) := by decide +kernel
theorem dX9_signal_28 : decode cX9_signal 28 = .ok (.getfield 358, 3) := by decide +kernel
theorem dX9_signal_31 : decode cX9_signal 31 = .ok (.iload_n 1, 1) := by decide +kernel
theorem dX9_signal_32 : decode cX9_signal 32 = .ok (.iastore, 1) := by decide +kernel
theorem dX9_signal_33 : decode cX9_signal 33 = .ok (.aload_n 0, 1) := by decide +kernel
theorem dX9_signal_34 : decode cX9_signal 34 = .ok (.dup, 1) := by decide +kernel
theorem dX9_signal_35 : decode cX9_signal 35 = .ok (.getfield 358, 3) := by decide +kernel
theorem dX9_signal_38 : decode cX9_signal 38 = .ok (.iconst 1, 1) := by decide +kernel
theorem dX9_signal_39 : decode cX9_signal 39 = .ok (.iadd, 1) := by decide +kernel
theorem dX9_signal_40 : decode cX9_signal 40 = .ok (.putfield 358, 3) := by decide +kernel
theorem dX9_signal_43 : decode cX9_signal 43 = .ok (.aload_n 0, 1) := by decide +kernel
theorem dX9_signal_44 : decode cX9_signal 44 = .ok (.getfield 358, 3) := by decide +kernel
theorem dX9_signal_47 : decode cX9_signal 47 = .ok (.iconst 1, 1) := by decide +kernel
theorem dX9_signal_48 : decode cX9_signal 48 = .ok (.isub, 1) := by decide +kernel
theorem dX9_signal_49 : decode cX9_signal 49 = .ok (.ireturn, 1) := by decide +kernel
theorem dX9_point_0 : decode cX9_point 0 = .ok (.iload_n 1, 1) := by decide +kernel
theorem dX9_point_1 : decode cX9_point 1 = .ok (.iconst 0, 1) := by decide +kernel
theorem dX9_point_2 : decode cX9_point 2 = .ok (.aload_n 0, 1) := by decide +kernel
theorem dX9_point_3 : decode cX9_point 3 = .ok (.getfield 358, 3) := by decide +kernel
theorem dX9_point_6 : decode cX9_point 6 = .ok (.iconst 1, 1) := by decide +kernel
theorem dX9_point_7 : decode cX9_point 7 = .ok (.isub, 1) := by decide +kernel
theorem dX9_point_8 : decode cX9_point 8 = .ok (.invokestatic 343, 3) := by decide +kernel
theorem dX9_point_11 : decode cX9_point 11 = .ok (.ifCond .eq 14, 3) := by decide +kernel
theorem dX9_point_14 : decode cX9_point 14 = .ok (.iload 6, 2) := by decide +kernel
theorem dX9_point_16 : decode cX9_point 16 = .ok (.iconst 0, 1) := by decide +kernel
theorem dX9_point_17 : decode cX9_point 17 = .ok (.bipush 30, 2) := by decide +kernel
theorem dX9_point_19 : decode cX9_point 19 = .ok (.invokestatic 343, 3) := by decide +kernel
theorem dX9_point_22 : decode cX9_point 22 = .ok (.ifCond .ne 5, 3) := by decide +kernel
theorem dX9_point_25 : decode cX9_point 25 = .ok (.iconst (-1), 1) := by decide +kernel
theorem dX9_point_26 : decode cX9_point 26 = .ok (.ireturn, 1) := by decide +kernel
theorem dX9_point_27 : decode cX9_point 27 = .ok (.aload_n 0, 1) := by decide +kernel
theorem dX9_point_28 : decode cX9_point 28 = .ok (.getfield 43, 3) := by decide +kernel
theorem dX9_point_31 : decode cX9_point 31 = .ok (.iload_n 1, 1) := by decide +kernel
theorem dX9_point_32 : decode cX9_point 32 = .ok (.iaload, 1) := by decide +kernel
theorem dX9_point_33 : decode cX9_point 33 = .ok (.istore 7, 2) := by decide +kernel
theorem dX9_point_35 : decode cX9_point 35 = .ok (.lload_n 2, 1) := by decide +kernel
theorem dX9_point_36 : decode cX9_point 36 = .ok (.iload 6, 2) := by decide +kernel
theorem dX9_point_38 : decode cX9_point 38 = .ok (.invokestatic 354, 3) := by decide +kernel
theorem dX9_point_41 : decode cX9_point 41 = .ok (.dstore 8, 2) := by decide +kernel
theorem dX9_point_43 : decode cX9_point 43 = .ok (.iload 7, 2) := by decide +kernel
theorem dX9_point_45 : decode cX9_point 45 = .ok (.ifCond .le 26, 3) := by decide +kernel
theorem dX9_point_48 : decode cX9_point 48 = .ok (.dload 8, 2) := by decide +kernel
theorem dX9_point_50 : decode cX9_point 50 = .ok (.aload_n 0, 1) := by decide +kernel
theorem dX9_point_51 : decode cX9_point 51 = .ok (.getfield 46, 3) := by decide +kernel
theorem dX9_point_54 : decode cX9_point 54 = .ok (.bipush 16, 2) := by decide +kernel
theorem dX9_point_56 : decode cX9_point 56 = .ok (.iload_n 1, 1) := by decide +kernel
theorem dX9_point_57 : decode cX9_point 57 = .ok (.imul, 1) := by decide +kernel
theorem dX9_point_58 : decode cX9_point 58 = .ok (.iload 7, 2) := by decide +kernel
theorem dX9_point_60 : decode cX9_point 60 = .ok (.iadd, 1) := by decide +kernel
theorem dX9_point_61 : decode cX9_point 61 = .ok (.iconst 1, 1) := by decide +kernel
theorem dX9_point_62 : decode cX9_point 62 = .ok (.isub, 1) := by decide +kernel
theorem dX9_point_63 : decode cX9_point 63 = .ok (.daload, 1) := by decide +kernel
theorem dX9_point_64 : decode cX9_point 64 = .ok (.dcmp .g, 1) := by decide +kernel
theorem dX9_point_65 : decode cX9_point 65 = .ok (.ifCond .gt 6, 3) := by decide +kernel
theorem dX9_point_68 : decode cX9_point 68 = .ok (.bipush (-2), 2) := by decide +kernel
theorem dX9_point_70 : decode cX9_point 70 = .ok (.ireturn, 1) := by decide +kernel
theorem dX9_point_71 : decode cX9_point 71 = .ok (.iload 7, 2) := by decide +kernel
theorem dX9_point_73 : decode cX9_point 73 = .ok (.bipush 16, 2) := by decide +kernel
theorem dX9_point_75 : decode cX9_point 75 = .ok (.if_icmp .ne 6, 3) := by decide +kernel
theorem dX9_point_78 : decode cX9_point 78 = .ok (.bipush (-3), 2) := by decide +kernel
theorem dX9_point_80 : decode cX9_point 80 = .ok (.ireturn, 1) := by decide +kernel
theorem dX9_point_81 : decode cX9_point 81 = .ok (.aload_n 0, 1) := by decide +kernel
theorem dX9_point_82 : decode cX9_point 82 = .ok (.getfield 46, 3) := by decide +kernel
theorem dX9_point_85 : decode cX9_point 85 = .ok (.bipush 16, 2) := by decide +kernel
theorem dX9_point_87 : decode cX9_point 87 = .ok (.iload_n 1, 1) := by decide +kernel
theorem dX9_point_88 : decode cX9_point 88 = .ok (.imul, 1) := by decide +kernel
theorem dX9_point_89 : decode cX9_point 89 = .ok (.iload 7, 2) := by decide +kernel
theorem dX9_point_91 : decode cX9_point 91 = .ok (.iadd, 1) := by decide +kernel
theorem dX9_point_92 : decode cX9_point 92 = .ok (.dload 8, 2) := by decide +kernel
theorem dX9_point_94 : decode cX9_point 94 = .ok (.dastore, 1) := by decide +kernel
theorem dX9_point_95 : decode cX9_point 95 = .ok (.aload_n 0, 1) := by decide +kernel
theorem dX9_point_96 : decode cX9_point 96 = .ok (.getfield 49, 3) := by decide +kernel
theorem dX9_point_99 : decode cX9_point 99 = .ok (.bipush 16, 2) := by decide +kernel
theorem dX9_point_101 : decode cX9_point 101 = .ok (.iload_n 1, 1) := by decide +kernel
theorem dX9_point_102 : decode cX9_point 102 = .ok (.imul, 1) := by decide +kernel
theorem dX9_point_103 : decode cX9_point 103 = .ok (.iload 7, 2) := by decide +kernel
theorem dX9_point_105 : decode cX9_point 105 = .ok (.iadd, 1) := by decide +kernel
theorem dX9_point_106 : decode cX9_point 106 = .ok (.lload 4, 2) := by decide +kernel
theorem dX9_point_108 : decode cX9_point 108 = .ok (.iload 6, 2) := by decide +kernel
theorem dX9_point_110 : decode cX9_point 110 = .ok (.invokestatic 354, 3) := by decide +kernel
theorem dX9_point_113 : decode cX9_point 113 = .ok (.dastore, 1) := by decide +kernel
theorem dX9_point_114 : decode cX9_point 114 = .ok (.aload_n 0, 1) := by decide +kernel
theorem dX9_point_115 : decode cX9_point 115 = .ok (.getfield 43, 3) := by decide +kernel
theorem dX9_point_118 : decode cX9_point 118 = .ok (.iload_n 1, 1) := by decide +kernel
theorem dX9_point_119 : decode cX9_point 119 = .ok (.dup2, 1) := by decide +kernel
theorem dX9_point_120 : decode cX9_point 120 = .ok (.iaload, 1) := by decide +kernel
theorem dX9_point_121 : decode cX9_point 121 = .ok (.iconst 1, 1) := by decide +kernel
theorem dX9_point_122 : decode cX9_point 122 = .ok (.iadd, 1) := by decide +kernel
theorem dX9_point_123 : decode cX9_point 123 = .ok (.iastore, 1) := by decide +kernel
theorem dX9_point_124 : decode cX9_point 124 = .ok (.iload 7, 2) := by decide +kernel
theorem dX9_point_126 : decode cX9_point 126 = .ok (.ireturn, 1) := by decide +kernel
theorem dX9_many_0 : decode cX9_many 0 = .ok (.iload_n 1, 1) := by decide +kernel
theorem dX9_many_1 : decode cX9_many 1 = .ok (.iconst 0, 1) := by decide +kernel
theorem dX9_many_2 : decode cX9_many 2 = .ok (.bipush 10, 2) := by decide +kernel
theorem dX9_many_4 : decode cX9_many 4 = .ok (.invokestatic 343, 3) := by decide +kernel
theorem dX9_many_7 : decode cX9_many 7 = .ok (.ifCond .ne 5, 3) := by decide +kernel
theorem dX9_many_10 : decode cX9_many 10 = .ok (.iconst (-1), 1) := by decide +kernel
theorem dX9_many_11 : decode cX9_many 11 = .ok (.ireturn, 1) := by decide +kernel
theorem dX9_many_12 : decode cX9_many 12 = .ok (.iload_n 1, 1) := by decide +kernel
theorem dX9_many_13 : decode cX9_many 13 = .ok (.ifCond .ne 10, 3) := by decide +kernel
theorem dX9_many_16 : decode cX9_many 16 = .ok (.aload_n 0, 1) := by decide +kernel
theorem dX9_many_17 : decode cX9_many 17 = .ok (.getfield 347, 3) := by decide +kernel
theorem dX9_many_20 : decode cX9_many 20 = .ok (.goto 49, 3) := by decide +kernel
theorem dX9_many_23 : decode cX9_many 23 = .ok (.iload_n 1, 1) := by decide +kernel
theorem dX9_many_24 : decode cX9_many 24 = .ok (.iconst 1, 1) := by decide +kernel
theorem dX9_many_25 : decode cX9_many 25 = .ok (.if_icmp .ne 10, 3) := by decide +kernel
theorem dX9_many_28 : decode cX9_many 28 = .ok (.aload_n 0, 1) := by decide +kernel
theorem dX9_many_29 : decode cX9_many 29 = .ok (.getfield 358, 3) := by decide +kernel
theorem dX9_many_32 : decode cX9_many 32 = .ok (.goto 37, 3) := by decide +kernel
theorem dX9_many_35 : decode cX9_many 35 = .ok (.iload_n 1, 1) := by decide +kernel
theorem dX9_many_36 : decode cX9_many 36 = .ok (.iconst 2, 1) := by decide +kernel
theorem dX9_many_37 : decode cX9_many 37 = .ok (.if_icmp .ne 10, 3) := by decide +kernel
theorem dX9_many_40 : decode cX9_many 40 = .ok (.aload_n 0, 1) := by decide +kernel
theorem dX9_many_41 : decode cX9_many 41 = .ok (.getfield 361, 3) := by decide +kernel
theorem dX9_many_44 : decode cX9_many 44 = .ok (.goto 25, 3) := by decide +kernel
theorem dX9_many_47 : decode cX9_many 47 = .ok (.iload_n 1, 1) := by decide +kernel
theorem dX9_many_48 : decode cX9_many 48 = .ok (.iconst 3, 1) := by decide +kernel
theorem dX9_many_49 : decode cX9_many 49 = .ok (.isub, 1) := by decide +kernel
theorem dX9_many_50 : decode cX9_many 50 = .ok (.aload_n 0, 1) := by decide +kernel
theorem dX9_many_51 : decode cX9_many 51 = .ok (.getfield 347, 3) := by decide +kernel
theorem dX9_many_54 : decode cX9_many 54 = .ok (.if_icmp .ge 14, 3) := by decide +kernel
theorem dX9_many_57 : decode cX9_many 57 = .ok (.aload_n 0, 1) := by decide +kernel
theorem dX9_many_58 : decode cX9_many 58 = .ok (.getfield 18, 3) := by decide +kernel
theorem dX9_many_61 : decode cX9_many 61 = .ok (.iload_n 1, 1) := by decide +kernel
theorem dX9_many_62 : decode cX9_many 62 = .ok (.iconst 3, 1) := by decide +kernel
theorem dX9_many_63 : decode cX9_many 63 = .ok (.isub, 1) := by decide +kernel
theorem dX9_many_64 : decode cX9_many 64 = .ok (.iaload, 1) := by decide +kernel
theorem dX9_many_65 : decode cX9_many 65 = .ok (.goto 4, 3) := by decide +kernel
theorem dX9_many_68 : decode cX9_many 68 = .ok (.iconst 0, 1) := by decide +kernel
theorem dX9_many_69 : decode cX9_many 69 = .ok (.ireturn, 1) := by decide +kernel
theorem dX9_isRun_0 : decode cX9_isRun 0 = .ok (.iload_n 1, 1) := by decide +kernel
theorem dX9_isRun_1 : decode cX9_isRun 1 = .ok (.iconst 0, 1) := by decide +kernel
theorem dX9_isRun_2 : decode cX9_isRun 2 = .ok (.aload_n 0, 1) := by decide +kernel
theorem dX9_isRun_3 : decode cX9_isRun 3 = .ok (.getfield 361, 3) := by decide +kernel
theorem dX9_isRun_6 : decode cX9_isRun 6 = .ok (.iconst 1, 1) := by decide +kernel
theorem dX9_isRun_7 : decode cX9_isRun 7 = .ok (.isub, 1) := by decide +kernel
theorem dX9_isRun_8 : decode cX9_isRun 8 = .ok (.invokestatic 343, 3) := by decide +kernel
theorem dX9_isRun_11 : decode cX9_isRun 11 = .ok (.ireturn, 1) := by decide +kernel
theorem dX9_run_0 : decode cX9_run 0 = .ok (.iload_n 1, 1) := by decide +kernel
theorem dX9_run_1 : decode cX9_run 1 = .ok (.iconst 0, 1) := by decide +kernel
theorem dX9_run_2 : decode cX9_run 2 = .ok (.aload_n 0, 1) := by decide +kernel
theorem dX9_run_3 : decode cX9_run 3 = .ok (.getfield 347, 3) := by decide +kernel
theorem dX9_run_6 : decode cX9_run 6 = .ok (.iconst 1, 1) := by decide +kernel
theorem dX9_run_7 : decode cX9_run 7 = .ok (.isub, 1) := by decide +kernel
theorem dX9_run_8 : decode cX9_run 8 = .ok (.invokestatic 343, 3) := by decide +kernel
theorem dX9_run_11 : decode cX9_run 11 = .ok (.ifCond .eq 14, 3) := by decide +kernel
theorem dX9_run_14 : decode cX9_run 14 = .ok (.iload 4, 2) := by decide +kernel
theorem dX9_run_16 : decode cX9_run 16 = .ok (.iconst 0, 1) := by decide +kernel
theorem dX9_run_17 : decode cX9_run 17 = .ok (.bipush 30, 2) := by decide +kernel
theorem dX9_run_19 : decode cX9_run 19 = .ok (.invokestatic 343, 3) := by decide +kernel
theorem dX9_run_22 : decode cX9_run 22 = .ok (.ifCond .ne 5, 3) := by decide +kernel
theorem dX9_run_25 : decode cX9_run 25 = .ok (.iconst (-1), 1) := by decide +kernel
theorem dX9_run_26 : decode cX9_run 26 = .ok (.ireturn, 1) := by decide +kernel
theorem dX9_run_27 : decode cX9_run 27 = .ok (.iconst 0, 1) := by decide +kernel
theorem dX9_run_28 : decode cX9_run 28 = .ok (.istore 5, 2) := by decide +kernel
theorem dX9_run_30 : decode cX9_run 30 = .ok (.iload 5, 2) := by decide +kernel
theorem dX9_run_32 : decode cX9_run 32 = .ok (.aload_n 0, 1) := by decide +kernel
theorem dX9_run_33 : decode cX9_run 33 = .ok (.getfield 9, 3) := by decide +kernel
theorem dX9_run_36 : decode cX9_run 36 = .ok (.iload_n 1, 1) := by decide +kernel
theorem dX9_run_37 : decode cX9_run 37 = .ok (.iaload, 1) := by decide +kernel
theorem dX9_run_38 : decode cX9_run 38 = .ok (.if_icmp .ge 27, 3) := by decide +kernel
theorem dX9_run_41 : decode cX9_run 41 = .ok (.aload_n 0, 1) := by decide +kernel
theorem dX9_run_42 : decode cX9_run 42 = .ok (.getfield 21, 3) := by decide +kernel
theorem dX9_run_45 : decode cX9_run 45 = .ok (.bipush 6, 2) := by decide +kernel
theorem dX9_run_47 : decode cX9_run 47 = .ok (.iload_n 1, 1) := by decide +kernel
theorem dX9_run_48 : decode cX9_run 48 = .ok (.imul, 1) := by decide +kernel
theorem dX9_run_49 : decode cX9_run 49 = .ok (.iload 5, 2) := by decide +kernel
theorem dX9_run_51 : decode cX9_run 51 = .ok (.iadd, 1) := by decide +kernel
theorem dX9_run_52 : decode cX9_run 52 = .ok (.iaload, 1) := by decide +kernel
theorem dX9_run_53 : decode cX9_run 53 = .ok (.ifCond .ge 6, 3) := by decide +kernel
theorem dX9_run_56 : decode cX9_run 56 = .ok (.bipush (-2), 2) := by decide +kernel
theorem dX9_run_58 : decode cX9_run 58 = .ok (.ireturn, 1) := by decide +kernel
theorem dX9_run_59 : decode cX9_run 59 = .ok (.iinc 5 1, 3) := by decide +kernel
theorem dX9_run_62 : decode cX9_run 62 = .ok (.goto (-32), 3) := by decide +kernel
theorem dX9_run_65 : decode cX9_run 65 = .ok (.aload_n 0, 1) := by decide +kernel
theorem dX9_run_66 : decode cX9_run 66 = .ok (.getfield 361, 3) := by decide +kernel
theorem dX9_run_69 : decode cX9_run 69 = .ok (.iconst 4, 1) := by decide +kernel
theorem dX9_run_70 : decode cX9_run 70 = .ok (.if_icmp .ne 6, 3) := by decide +kernel
theorem dX9_run_73 : decode cX9_run 73 = .ok (.bipush (-3), 2) := by decide +kernel
theorem dX9_run_75 : decode cX9_run 75 = .ok (.ireturn, 1) := by decide +kernel
theorem dX9_run_76 : decode cX9_run 76 = .ok (.aload_n 0, 1) := by decide +kernel
theorem dX9_run_77 : decode cX9_run 77 = .ok (.getfield 52, 3) := by decide +kernel
theorem dX9_run_80 : decode cX9_run 80 = .ok (.aload_n 0, 1) := by decide +kernel
theorem dX9_run_81 : decode cX9_run 81 = .ok (.getfield 361, 3) := by decide +kernel
theorem dX9_run_84 : decode cX9_run 84 = .ok (.iload_n 1, 1) := by decide +kernel
theorem dX9_run_85 : decode cX9_run 85 = .ok (.iastore, 1) := by decide +kernel
theorem dX9_run_86 : decode cX9_run 86 = .ok (.aload_n 0, 1) := by decide +kernel
theorem dX9_run_87 : decode cX9_run 87 = .ok (.getfield 83, 3) := by decide +kernel
theorem dX9_run_90 : decode cX9_run 90 = .ok (.aload_n 0, 1) := by decide +kernel
theorem dX9_run_91 : decode cX9_run 91 = .ok (.getfield 361, 3) := by decide +kernel
theorem dX9_run_94 : decode cX9_run 94 = .ok (.lload_n 2, 1) := by decide +kernel
theorem dX9_run_95 : decode cX9_run 95 = .ok (.iload 4, 2) := by decide +kernel
theorem dX9_run_97 : decode cX9_run 97 = .ok (.invokestatic 354, 3) := by decide +kernel
theorem dX9_run_100 : decode cX9_run 100 = .ok (.dastore, 1) := by decide +kernel
theorem dX9_run_101 : decode cX9_run 101 = .ok (.aload_n 0, 1) := by decide +kernel
theorem dX9_run_102 : decode cX9_run 102 = .ok (.getfield 86, 3) := by decide +kernel
theorem dX9_run_105 : decode cX9_run 105 = .ok (.aload_n 0, 1) := by decide +kernel
theorem dX9_run_106 : decode cX9_run 106 = .ok (.getfield 361, 3) := by decide +kernel
theorem dX9_run_109 : decode cX9_run 109 = .ok (.ldc2_w 324, 3) := by decide +kernel
theorem dX9_run_112 : decode cX9_run 112 = .ok (.dastore, 1) := by decide +kernel
theorem dX9_run_113 : decode cX9_run 113 = .ok (.aload_n 0, 1) := by decide +kernel
theorem dX9_run_114 : decode cX9_run 114 = .ok (.getfield 89, 3) := by decide +kernel
theorem dX9_run_117 : decode cX9_run 117 = .ok (.aload_n 0, 1) := by decide +kernel
theorem dX9_run_118 : decode cX9_run 118 = .ok (.getfield 361, 3) := by decide +kernel
theorem dX9_run_121 : decode cX9_run 121 = .ok (.ldc2_w 364, 3) := by decide +kernel
theorem dX9_run_124 : decode cX9_run 124 = .ok (.dastore, 1) := by decide +kernel
theorem dX9_run_125 : decode cX9_run 125 = .ok (.aload_n 0, 1) := by decide +kernel
theorem dX9_run_126 : decode cX9_run 126 = .ok (.dup, 1) := by decide +kernel
theorem dX9_run_127 : decode cX9_run 127 = .ok (.getfield 361, 3) := by decide +kernel
theorem dX9_run_130 : decode cX9_run 130 = .ok (.iconst 1, 1) := by decide +kernel
theorem dX9_run_131 : decode cX9_run 131 = .ok (.iadd, 1) := by decide +kernel
theorem dX9_run_132 : decode cX9_run 132 = .ok (.putfield 361, 3) := by decide +kernel
theorem dX9_run_135 : decode cX9_run 135 = .ok (.aload_n 0, 1) := by decide +kernel
theorem dX9_run_136 : decode cX9_run 136 = .ok (.getfield 361, 3) := by decide +kernel
theorem dX9_run_139 : decode cX9_run 139 = .ok (.iconst 1, 1) := by decide +kernel
theorem dX9_run_140 : decode cX9_run 140 = .ok (.isub, 1) := by decide +kernel
theorem dX9_run_141 : decode cX9_run 141 = .ok (.ireturn, 1) := by decide +kernel
theorem dX9_set_0 : decode cX9_set 0 = .ok (.aload_n 0, 1) := by decide +kernel
theorem dX9_set_1 : decode cX9_set 1 = .ok (.iload_n 1, 1) := by decide +kernel
theorem dX9_set_2 : decode cX9_set 2 = .ok (.invokevirtual 366, 3) := by decide +kernel
theorem dX9_set_5 : decode cX9_set 5 = .ok (.ifCond .eq 35, 3) := by decide +kernel
theorem dX9_set_8 : decode cX9_set 8 = .ok (.iload_n 2, 1) := by decide +kernel
theorem dX9_set_9 : decode cX9_set 9 = .ok (.iconst 0, 1) := by decide +kernel
theorem dX9_set_10 : decode cX9_set 10 = .ok (.aload_n 0, 1) := by decide +kernel
theorem dX9_set_11 : decode cX9_set 11 = .ok (.getfield 9, 3) := by decide +kernel
theorem dX9_set_14 : decode cX9_set 14 = .ok (.aload_n 0, 1) := by decide +kernel
theorem dX9_set_15 : decode cX9_set 15 = .ok (.getfield 52, 3) := by decide +kernel
theorem dX9_set_18 : decode cX9_set 18 = .ok (.iload_n 1, 1) := by decide +kernel
theorem dX9_set_19 : decode cX9_set 19 = .ok (.iaload, 1) := by decide +kernel
theorem dX9_set_20 : decode cX9_set 20 = .ok (.iaload, 1) := by decide +kernel
theorem dX9_set_21 : decode cX9_set 21 = .ok (.iconst 1, 1) := by decide +kernel
theorem dX9_set_22 : decode cX9_set 22 = .ok (.isub, 1) := by decide +kernel
theorem dX9_set_23 : decode cX9_set 23 = .ok (.invokestatic 343, 3) := by decide +kernel
theorem dX9_set_26 : decode cX9_set 26 = .ok (.ifCond .eq 14, 3) := by decide +kernel
theorem dX9_set_29 : decode cX9_set 29 = .ok (.iload 5, 2) := by decide +kernel
theorem dX9_set_31 : decode cX9_set 31 = .ok (.iconst 0, 1) := by decide +kernel
theorem dX9_set_32 : decode cX9_set 32 = .ok (.bipush 30, 2) := by decide +kernel
theorem dX9_set_34 : decode cX9_set 34 = .ok (.invokestatic 343, 3) := by decide +kernel
theorem dX9_set_37 : decode cX9_set 37 = .ok (.ifCond .ne 5, 3) := by decide +kernel
theorem dX9_set_40 : decode cX9_set 40 = .ok (.iconst (-1), 1) := by decide +kernel
theorem dX9_set_41 : decode cX9_set 41 = .ok (.ireturn, 1) := by decide +kernel
theorem dX9_set_42 : decode cX9_set 42 = .ok (.aload_n 0, 1) := by decide +kernel
theorem dX9_set_43 : decode cX9_set 43 = .ok (.getfield 73, 3) := by decide +kernel
theorem dX9_set_46 : decode cX9_set 46 = .ok (.iload_n 1, 1) := by decide +kernel
theorem dX9_set_47 : decode cX9_set 47 = .ok (.baload, 1) := by decide +kernel
theorem dX9_set_48 : decode cX9_set 48 = .ok (.ifCond .eq 6, 3) := by decide +kernel
theorem dX9_set_51 : decode cX9_set 51 = .ok (.bipush (-2), 2) := by decide +kernel
theorem dX9_set_53 : decode cX9_set 53 = .ok (.ireturn, 1) := by decide +kernel
theorem dX9_set_54 : decode cX9_set 54 = .ok (.aload_n 0, 1) := by decide +kernel
theorem dX9_set_55 : decode cX9_set 55 = .ok (.getfield 98, 3) := by decide +kernel
theorem dX9_set_58 : decode cX9_set 58 = .ok (.bipush 6, 2) := by decide +kernel
theorem dX9_set_60 : decode cX9_set 60 = .ok (.iload_n 1, 1) := by decide +kernel
theorem dX9_set_61 : decode cX9_set 61 = .ok (.imul, 1) := by decide +kernel
theorem dX9_set_62 : decode cX9_set 62 = .ok (.iload_n 2, 1) := by decide +kernel
theorem dX9_set_63 : decode cX9_set 63 = .ok (.iadd, 1) := by decide +kernel
theorem dX9_set_64 : decode cX9_set 64 = .ok (.aload_n 0, 1) := by decide +kernel
theorem dX9_set_65 : decode cX9_set 65 = .ok (.aload_n 0, 1) := by decide +kernel
theorem dX9_set_66 : decode cX9_set 66 = .ok (.getfield 52, 3) := by decide +kernel
theorem dX9_set_69 : decode cX9_set 69 = .ok (.iload_n 1, 1) := by decide +kernel
theorem dX9_set_70 : decode cX9_set 70 = .ok (.iaload, 1) := by decide +kernel
theorem dX9_set_71 : decode cX9_set 71 = .ok (.iload_n 2, 1) := by decide +kernel
theorem dX9_set_72 : decode cX9_set 72 = .ok (.lload_n 3, 1) := by decide +kernel
theorem dX9_set_73 : decode cX9_set 73 = .ok (.iload 5, 2) := by decide +kernel
theorem dX9_set_75 : decode cX9_set 75 = .ok (.invokestatic 354, 3) := by decide +kernel
theorem dX9_set_78 : decode cX9_set 78 = .ok (.invokevirtual 281, 3) := by decide +kernel
theorem dX9_set_81 : decode cX9_set 81 = .ok (.dastore, 1) := by decide +kernel
theorem dX9_set_82 : decode cX9_set 82 = .ok (.iconst 1, 1) := by decide +kernel
theorem dX9_set_83 : decode cX9_set 83 = .ok (.ireturn, 1) := by decide +kernel
theorem dX9_method_0 : decode cX9_method 0 = .ok (.aload_n 0, 1) := by decide +kernel
theorem dX9_method_1 : decode cX9_method 1 = .ok (.iload_n 1, 1) := by decide +kernel
theorem dX9_method_2 : decode cX9_method 2 = .ok (.invokevirtual 366, 3) := by decide +kernel
theorem dX9_method_5 : decode cX9_method 5 = .ok (.ifCond .eq 13, 3) := by decide +kernel
theorem dX9_method_8 : decode cX9_method 8 = .ok (.iload_n 2, 1) := by decide +kernel
theorem dX9_method_9 : decode cX9_method 9 = .ok (.iconst 0, 1) := by decide +kernel
theorem dX9_method_10 : decode cX9_method 10 = .ok (.bipush 6, 2) := by decide +kernel
theorem dX9_method_12 : decode cX9_method 12 = .ok (.invokestatic 343, 3) := by decide +kernel
theorem dX9_method_15 : decode cX9_method 15 = .ok (.ifCond .ne 5, 3) := by decide +kernel
theorem dX9_method_18 : decode cX9_method 18 = .ok (.iconst (-1), 1) := by decide +kernel
theorem dX9_method_19 : decode cX9_method 19 = .ok (.ireturn, 1) := by decide +kernel
theorem dX9_method_20 : decode cX9_method 20 = .ok (.iload_n 2, 1) := by decide +kernel
theorem dX9_method_21 : decode cX9_method 21 = .ok (.bipush 6, 2) := by decide +kernel
theorem dX9_method_23 : decode cX9_method 23 = .ok (.if_icmp .ne 23, 3) := by decide +kernel
theorem dX9_method_26 : decode cX9_method 26 = .ok (.aload_n 0, 1) := by decide +kernel
theorem dX9_method_27 : decode cX9_method 27 = .ok (.getfield 9, 3) := by decide +kernel
theorem dX9_method_30 : decode cX9_method 30 = .ok (.aload_n 0, 1) := by decide +kernel
theorem dX9_method_31 : decode cX9_method 31 = .ok (.getfield 52, 3) := by decide +kernel
theorem dX9_method_34 : decode cX9_method 34 = .ok (.iload_n 1, 1) := by decide +kernel
theorem dX9_method_35 : decode cX9_method 35 = .ok (.iaload, 1) := by decide +kernel
theorem dX9_method_36 : decode cX9_method 36 = .ok (.iaload, 1) := by decide +kernel
theorem dX9_method_37 : decode cX9_method 37 = .ok (.iconst 2, 1) := by decide +kernel
theorem dX9_method_38 : decode cX9_method 38 = .ok (.irem, 1) := by decide +kernel
theorem dX9_method_39 : decode cX9_method 39 = .ok (.iconst 1, 1) := by decide +kernel
theorem dX9_method_40 : decode cX9_method 40 = .ok (.if_icmp .ne 6, 3) := by decide +kernel
theorem dX9_method_43 : decode cX9_method 43 = .ok (.bipush (-2), 2) := by decide +kernel
theorem dX9_method_45 : decode cX9_method 45 = .ok (.ireturn, 1) := by decide +kernel
theorem dX9_method_46 : decode cX9_method 46 = .ok (.aload_n 0, 1) := by decide +kernel
theorem dX9_method_47 : decode cX9_method 47 = .ok (.getfield 55, 3) := by decide +kernel
theorem dX9_method_50 : decode cX9_method 50 = .ok (.iload_n 1, 1) := by decide +kernel
theorem dX9_method_51 : decode cX9_method 51 = .ok (.iload_n 2, 1) := by decide +kernel
theorem dX9_method_52 : decode cX9_method 52 = .ok (.iastore, 1) := by decide +kernel
theorem dX9_method_53 : decode cX9_method 53 = .ok (.iconst 1, 1) := by decide +kernel
theorem dX9_method_54 : decode cX9_method 54 = .ok (.ireturn, 1) := by decide +kernel
theorem dX9_length_0 : decode cX9_length 0 = .ok (.aload_n 0, 1) := by decide +kernel
theorem dX9_length_1 : decode cX9_length 1 = .ok (.iload_n 1, 1) := by decide +kernel
theorem dX9_length_2 : decode cX9_length 2 = .ok (.invokevirtual 366, 3) := by decide +kernel
theorem dX9_length_5 : decode cX9_length 5 = .ok (.ifCond .eq 14, 3) := by decide +kernel
theorem dX9_length_8 : decode cX9_length 8 = .ok (.iload 4, 2) := by decide +kernel
theorem dX9_length_10 : decode cX9_length 10 = .ok (.iconst 0, 1) := by decide +kernel
theorem dX9_length_11 : decode cX9_length 11 = .ok (.bipush 30, 2) := by decide +kernel
theorem dX9_length_13 : decode cX9_length 13 = .ok (.invokestatic 343, 3) := by decide +kernel
theorem dX9_length_16 : decode cX9_length 16 = .ok (.ifCond .ne 5, 3) := by decide +kernel
theorem dX9_length_19 : decode cX9_length 19 = .ok (.iconst (-1), 1) := by decide +kernel
theorem dX9_length_20 : decode cX9_length 20 = .ok (.ireturn, 1) := by decide +kernel
theorem dX9_length_21 : decode cX9_length 21 = .ok (.lload_n 2, 1) := by decide +kernel
theorem dX9_length_22 : decode cX9_length 22 = .ok (.iload 4, 2) := by decide +kernel
theorem dX9_length_24 : decode cX9_length 24 = .ok (.invokestatic 354, 3) := by decide +kernel
theorem dX9_length_27 : decode cX9_length 27 = .ok (.dstore 5, 2) := by decide +kernel
theorem dX9_length_29 : decode cX9_length 29 = .ok (.dload 5, 2) := by decide +kernel
theorem dX9_length_31 : decode cX9_length 31 = .ok (.invokestatic 221, 3) := by decide +kernel
theorem dX9_length_34 : decode cX9_length 34 = .ok (.ldc2_w 309, 3) := by decide +kernel
theorem dX9_length_37 : decode cX9_length 37 = .ok (.dcmp .g, 1) := by decide +kernel
theorem dX9_length_38 : decode cX9_length 38 = .ok (.ifCond .lt 15, 3) := by decide +kernel
theorem dX9_length_41 : decode cX9_length 41 = .ok (.dload 5, 2) := by decide +kernel
theorem dX9_length_43 : decode cX9_length 43 = .ok (.invokestatic 221, 3) := by decide +kernel
theorem dX9_length_46 : decode cX9_length 46 = .ok (.ldc2_w 326, 3) := by decide +kernel
theorem dX9_length_49 : decode cX9_length 49 = .ok (.dcmp .l, 1) := by decide +kernel
theorem dX9_length_50 : decode cX9_length 50 = .ok (.ifCond .le 5, 3) := by decide +kernel
theorem dX9_length_53 : decode cX9_length 53 = .ok (.iconst (-1), 1) := by decide +kernel
theorem dX9_length_54 : decode cX9_length 54 = .ok (.ireturn, 1) := by decide +kernel
theorem dX9_length_55 : decode cX9_length 55 = .ok (.aload_n 0, 1) := by decide +kernel
theorem dX9_length_56 : decode cX9_length 56 = .ok (.getfield 86, 3) := by decide +kernel
theorem dX9_length_59 : decode cX9_length 59 = .ok (.iload_n 1, 1) := by decide +kernel
theorem dX9_length_60 : decode cX9_length 60 = .ok (.dload 5, 2) := by decide +kernel
theorem dX9_length_62 : decode cX9_length 62 = .ok (.dastore, 1) := by decide +kernel
theorem dX9_length_63 : decode cX9_length 63 = .ok (.iconst 1, 1) := by decide +kernel
theorem dX9_length_64 : decode cX9_length 64 = .ok (.ireturn, 1) := by decide +kernel
theorem dX9_tolerance_0 : decode cX9_tolerance 0 = .ok (.aload_n 0, 1) := by decide +kernel
theorem dX9_tolerance_1 : decode cX9_tolerance 1 = .ok (.iload_n 1, 1) := by decide +kernel
theorem dX9_tolerance_2 : decode cX9_tolerance 2 = .ok (.invokevirtual 366, 3) := by decide +kernel
theorem dX9_tolerance_5 : decode cX9_tolerance 5 = .ok (.ifCond .eq 27, 3) := by decide +kernel
theorem dX9_tolerance_8 : decode cX9_tolerance 8 = .ok (.iload 6, 2) := by decide +kernel
theorem dX9_tolerance_10 : decode cX9_tolerance 10 = .ok (.iconst 0, 1) := by decide +kernel
theorem dX9_tolerance_11 : decode cX9_tolerance 11 = .ok (.bipush 30, 2) := by decide +kernel
theorem dX9_tolerance_13 : decode cX9_tolerance 13 = .ok (.invokestatic 343, 3) := by decide +kernel
theorem dX9_tolerance_16 : decode cX9_tolerance 16 = .ok (.ifCond .eq 16, 3) := by decide +kernel
theorem dX9_tolerance_19 : decode cX9_tolerance 19 = .ok (.lload_n 2, 1) := by decide +kernel
theorem dX9_tolerance_20 : decode cX9_tolerance 20 = .ok (.lconst 1, 1) := by decide +kernel
theorem dX9_tolerance_21 : decode cX9_tolerance 21 = .ok (.lcmp, 1) := by decide +kernel
theorem dX9_tolerance_22 : decode cX9_tolerance 22 = .ok (.ifCond .lt 10, 3) := by decide +kernel
theorem dX9_tolerance_25 : decode cX9_tolerance 25 = .ok (.lload 4, 2) := by decide +kernel
theorem dX9_tolerance_27 : decode cX9_tolerance 27 = .ok (.lconst 0, 1) := by decide +kernel
theorem dX9_tolerance_28 : decode cX9_tolerance 28 = .ok (.lcmp, 1) := by decide +kernel
theorem dX9_tolerance_29 : decode cX9_tolerance 29 = .ok (.ifCond .ge 5, 3) := by decide +kernel
theorem dX9_tolerance_32 : decode cX9_tolerance 32 = .ok (.iconst (-1), 1) := by decide +kernel
theorem dX9_tolerance_33 : decode cX9_tolerance 33 = .ok (.ireturn, 1) := by decide +kernel
theorem dX9_tolerance_34 : decode cX9_tolerance 34 = .ok (.aload_n 0, 1) := by decide +kernel
theorem dX9_tolerance_35 : decode cX9_tolerance 35 = .ok (.getfield 89, 3) := by decide +kernel
theorem dX9_tolerance_38 : decode cX9_tolerance 38 = .ok (.iload_n 1, 1) := by decide +kernel
theorem dX9_tolerance_39 : decode cX9_tolerance 39 = .ok (.lload_n 2, 1) := by decide +kernel
theorem dX9_tolerance_40 : decode cX9_tolerance 40 = .ok (.iload 6, 2) := by decide +kernel
theorem dX9_tolerance_42 : decode cX9_tolerance 42 = .ok (.invokestatic 354, 3) := by decide +kernel
theorem dX9_tolerance_45 : decode cX9_tolerance 45 = .ok (.dastore, 1) := by decide +kernel
theorem dX9_tolerance_46 : decode cX9_tolerance 46 = .ok (.aload_n 0, 1) := by decide +kernel
theorem dX9_tolerance_47 : decode cX9_tolerance 47 = .ok (.getfield 92, 3) := by decide +kernel
theorem dX9_tolerance_50 : decode cX9_tolerance 50 = .ok (.iload_n 1, 1) := by decide +kernel
theorem dX9_tolerance_51 : decode cX9_tolerance 51 = .ok (.lload 4, 2) := by decide +kernel
theorem dX9_tolerance_53 : decode cX9_tolerance 53 = .ok (.iload 6, 2) := by decide +kernel
theorem dX9_tolerance_55 : decode cX9_tolerance 55 = .ok (.invokestatic 354, 3) := by decide +kernel
theorem dX9_tolerance_58 : decode cX9_tolerance 58 = .ok (.dastore, 1) := by decide +kernel
theorem dX9_tolerance_59 : decode cX9_tolerance 59 = .ok (.iconst 1, 1) := by decide +kernel
theorem dX9_tolerance_60 : decode cX9_tolerance 60 = .ok (.ireturn, 1) := by decide +kernel
theorem dX9_event_0 : decode cX9_event 0 = .ok (.aload_n 0, 1) := by decide +kernel
theorem dX9_event_1 : decode cX9_event 1 = .ok (.iload_n 1, 1) := by decide +kernel
theorem dX9_event_2 : decode cX9_event 2 = .ok (.invokevirtual 366, 3) := by decide +kernel
theorem dX9_event_5 : decode cX9_event 5 = .ok (.ifCond .eq 43, 3) := by decide +kernel
theorem dX9_event_8 : decode cX9_event 8 = .ok (.iload_n 2, 1) := by decide +kernel
theorem dX9_event_9 : decode cX9_event 9 = .ok (.iconst 0, 1) := by decide +kernel
theorem dX9_event_10 : decode cX9_event 10 = .ok (.aload_n 0, 1) := by decide +kernel
theorem dX9_event_11 : decode cX9_event 11 = .ok (.getfield 18, 3) := by decide +kernel
theorem dX9_event_14 : decode cX9_event 14 = .ok (.aload_n 0, 1) := by decide +kernel
theorem dX9_event_15 : decode cX9_event 15 = .ok (.getfield 52, 3) := by decide +kernel
theorem dX9_event_18 : decode cX9_event 18 = .ok (.iload_n 1, 1) := by decide +kernel
theorem dX9_event_19 : decode cX9_event 19 = .ok (.iaload, 1) := by decide +kernel
theorem dX9_event_20 : decode cX9_event 20 = .ok (.iaload, 1) := by decide +kernel
