theorem dX8_faultReason_71 : decode cX8_faultReason 71 = .ok (.aload_n 0, 1) := by decide +kernel
theorem dX8_faultReason_72 : decode cX8_faultReason 72 = .ok (.getfield 29, 3) := by decide +kernel
theorem dX8_faultReason_75 : decode cX8_faultReason 75 = .ok (.getfield 213, 3) := by decide +kernel
theorem dX8_faultReason_78 : decode cX8_faultReason 78 = .ok (.invokevirtual 216, 3) := by decide +kernel
theorem dX8_faultReason_81 : decode cX8_faultReason 81 = .ok (.aload_n 0, 1) := by decide +kernel
theorem dX8_faultReason_82 : decode cX8_faultReason 82 = .ok (.getfield 43, 3) := by decide +kernel
theorem dX8_faultReason_85 : decode cX8_faultReason 85 = .ok (.getfield 84, 3) := by decide +kernel
theorem dX8_faultReason_88 : decode cX8_faultReason 88 = .ok (.if_icmp .ge 7, 3) := by decide +kernel
theorem dX8_faultReason_91 : decode cX8_faultReason 91 = .ok (.iconst 3, 1) := by decide +kernel
theorem dX8_faultReason_92 : decode cX8_faultReason 92 = .ok (.goto 4, 3) := by decide +kernel
theorem dX8_faultReason_95 : decode cX8_faultReason 95 = .ok (.iconst 0, 1) := by decide +kernel
theorem dX8_faultReason_96 : decode cX8_faultReason 96 = .ok (.ireturn, 1) := by decide +kernel
theorem dX8_faultPlace_0 : decode cX8_faultPlace 0 = .ok (.iload_n 1, 1) := by decide +kernel
theorem dX8_faultPlace_1 : decode cX8_faultPlace 1 = .ok (.iconst 1, 1) := by decide +kernel
theorem dX8_faultPlace_2 : decode cX8_faultPlace 2 = .ok (.if_icmp .ne 11, 3) := by decide +kernel
theorem dX8_faultPlace_5 : decode cX8_faultPlace 5 = .ok (.aload_n 0, 1) := by decide +kernel
theorem dX8_faultPlace_6 : decode cX8_faultPlace 6 = .ok (.getfield 36, 3) := by decide +kernel
theorem dX8_faultPlace_9 : decode cX8_faultPlace 9 = .ok (.invokevirtual 207, 3) := by decide +kernel
theorem dX8_faultPlace_12 : decode cX8_faultPlace 12 = .ok (.ireturn, 1) := by decide +kernel
theorem dX8_faultPlace_13 : decode cX8_faultPlace 13 = .ok (.iload_n 1, 1) := by decide +kernel
theorem dX8_faultPlace_14 : decode cX8_faultPlace 14 = .ok (.iconst 3, 1) := by decide +kernel
theorem dX8_faultPlace_15 : decode cX8_faultPlace 15 = .ok (.if_icmp .ne 18, 3) := by decide +kernel
theorem dX8_faultPlace_18 : decode cX8_faultPlace 18 = .ok (.aload_n 0, 1) := by decide +kernel
theorem dX8_faultPlace_19 : decode cX8_faultPlace 19 = .ok (.getfield 43, 3) := by decide +kernel
theorem dX8_faultPlace_22 : decode cX8_faultPlace 22 = .ok (.aload_n 0, 1) := by decide +kernel
theorem dX8_faultPlace_23 : decode cX8_faultPlace 23 = .ok (.getfield 29, 3) := by decide +kernel
theorem dX8_faultPlace_26 : decode cX8_faultPlace 26 = .ok (.getfield 213, 3) := by decide +kernel
theorem dX8_faultPlace_29 : decode cX8_faultPlace 29 = .ok (.invokevirtual 216, 3) := by decide +kernel
theorem dX8_faultPlace_32 : decode cX8_faultPlace 32 = .ok (.ireturn, 1) := by decide +kernel
theorem dX8_faultPlace_33 : decode cX8_faultPlace 33 = .ok (.aload_n 0, 1) := by decide +kernel
theorem dX8_faultPlace_34 : decode cX8_faultPlace 34 = .ok (.getfield 36, 3) := by decide +kernel
theorem dX8_faultPlace_37 : decode cX8_faultPlace 37 = .ok (.getfield 154, 3) := by decide +kernel
theorem dX8_faultPlace_40 : decode cX8_faultPlace 40 = .ok (.ireturn, 1) := by decide +kernel
theorem dL_cell_0 : decode cL_cell 0 = .ok (.iload_n 1, 1) := by decide +kernel
theorem dL_cell_1 : decode cL_cell 1 = .ok (.aload_n 0, 1) := by decide +kernel
theorem dL_cell_2 : decode cL_cell 2 = .ok (.arraylength, 1) := by decide +kernel
theorem dL_cell_3 : decode cL_cell 3 = .ok (.if_icmp .ge 9, 3) := by decide +kernel
theorem dL_cell_6 : decode cL_cell 6 = .ok (.aload_n 0, 1) := by decide +kernel
theorem dL_cell_7 : decode cL_cell 7 = .ok (.iload_n 1, 1) := by decide +kernel
theorem dL_cell_8 : decode cL_cell 8 = .ok (.iaload, 1) := by decide +kernel
theorem dL_cell_9 : decode cL_cell 9 = .ok (.goto 11, 3) := by decide +kernel
theorem dL_cell_12 : decode cL_cell 12 = .ok (.ldc 7, 2) := by decide +kernel
theorem dL_cell_14 : decode cL_cell 14 = .ok (.iload_n 1, 1) := by decide +kernel
theorem dL_cell_15 : decode cL_cell 15 = .ok (.sipush 911, 3) := by decide +kernel
theorem dL_cell_18 : decode cL_cell 18 = .ok (.iadd, 1) := by decide +kernel
theorem dL_cell_19 : decode cL_cell 19 = .ok (.imul, 1) := by decide +kernel
theorem dL_cell_20 : decode cL_cell 20 = .ok (.ireturn, 1) := by decide +kernel
theorem dL_up_0 : decode cL_up 0 = .ok (.iload_n 0, 1) := by decide +kernel
theorem dL_up_1 : decode cL_up 1 = .ok (.ldc 8, 2) := by decide +kernel
theorem dL_up_3 : decode cL_up 3 = .ok (.iand, 1) := by decide +kernel
theorem dL_up_4 : decode cL_up 4 = .ok (.iload_n 1, 1) := by decide +kernel
theorem dL_up_5 : decode cL_up 5 = .ok (.irem, 1) := by decide +kernel
theorem dL_up_6 : decode cL_up 6 = .ok (.ireturn, 1) := by decide +kernel
theorem dL_isPut_0 : decode cL_isPut 0 = .ok (.aload_n 0, 1) := by decide +kernel
theorem dL_isPut_1 : decode cL_isPut 1 = .ok (.iconst 1, 1) := by decide +kernel
theorem dL_isPut_2 : decode cL_isPut 2 = .ok (.invokevirtual 9, 3) := by decide +kernel
theorem dL_isPut_5 : decode cL_isPut 5 = .ok (.istore_n 2, 1) := by decide +kernel
theorem dL_isPut_6 : decode cL_isPut 6 = .ok (.iload_n 2, 1) := by decide +kernel
theorem dL_isPut_7 : decode cL_isPut 7 = .ok (.ifCond .ne 7, 3) := by decide +kernel
theorem dL_isPut_10 : decode cL_isPut 10 = .ok (.iconst (-1), 1) := by decide +kernel
theorem dL_isPut_11 : decode cL_isPut 11 = .ok (.goto 8, 3) := by decide +kernel
theorem dL_isPut_14 : decode cL_isPut 14 = .ok (.aload_n 0, 1) := by decide +kernel
theorem dL_isPut_15 : decode cL_isPut 15 = .ok (.iconst 0, 1) := by decide +kernel
theorem dL_isPut_16 : decode cL_isPut 16 = .ok (.invokevirtual 15, 3) := by decide +kernel
theorem dL_isPut_19 : decode cL_isPut 19 = .ok (.istore_n 3, 1) := by decide +kernel
theorem dL_isPut_20 : decode cL_isPut 20 = .ok (.iload_n 2, 1) := by decide +kernel
theorem dL_isPut_21 : decode cL_isPut 21 = .ok (.ifCond .ne 7, 3) := by decide +kernel
theorem dL_isPut_24 : decode cL_isPut 24 = .ok (.iconst (-1), 1) := by decide +kernel
theorem dL_isPut_25 : decode cL_isPut 25 = .ok (.goto 10, 3) := by decide +kernel
theorem dL_isPut_28 : decode cL_isPut 28 = .ok (.aload_n 0, 1) := by decide +kernel
theorem dL_isPut_29 : decode cL_isPut 29 = .ok (.iload_n 2, 1) := by decide +kernel
theorem dL_isPut_30 : decode cL_isPut 30 = .ok (.iconst 1, 1) := by decide +kernel
theorem dL_isPut_31 : decode cL_isPut 31 = .ok (.isub, 1) := by decide +kernel
theorem dL_isPut_32 : decode cL_isPut 32 = .ok (.invokevirtual 15, 3) := by decide +kernel
theorem dL_isPut_35 : decode cL_isPut 35 = .ok (.istore 4, 2) := by decide +kernel
theorem dL_isPut_37 : decode cL_isPut 37 = .ok (.aload_n 0, 1) := by decide +kernel
theorem dL_isPut_38 : decode cL_isPut 38 = .ok (.iload_n 1, 1) := by decide +kernel
theorem dL_isPut_39 : decode cL_isPut 39 = .ok (.iconst 3, 1) := by decide +kernel
theorem dL_isPut_40 : decode cL_isPut 40 = .ok (.invokevirtual 18, 3) := by decide +kernel
theorem dL_isPut_43 : decode cL_isPut 43 = .ok (.istore 5, 2) := by decide +kernel
theorem dL_isPut_45 : decode cL_isPut 45 = .ok (.aload_n 0, 1) := by decide +kernel
theorem dL_isPut_46 : decode cL_isPut 46 = .ok (.iload_n 1, 1) := by decide +kernel
theorem dL_isPut_47 : decode cL_isPut 47 = .ok (.iconst 0, 1) := by decide +kernel
theorem dL_isPut_48 : decode cL_isPut 48 = .ok (.invokevirtual 18, 3) := by decide +kernel
theorem dL_isPut_51 : decode cL_isPut 51 = .ok (.istore 6, 2) := by decide +kernel
theorem dL_isPut_53 : decode cL_isPut 53 = .ok (.aload_n 0, 1) := by decide +kernel
theorem dL_isPut_54 : decode cL_isPut 54 = .ok (.bipush 6, 2) := by decide +kernel
theorem dL_isPut_56 : decode cL_isPut 56 = .ok (.invokevirtual 9, 3) := by decide +kernel
theorem dL_isPut_59 : decode cL_isPut 59 = .ok (.istore 7, 2) := by decide +kernel
theorem dL_isPut_61 : decode cL_isPut 61 = .ok (.aload_n 0, 1) := by decide +kernel
theorem dL_isPut_62 : decode cL_isPut 62 = .ok (.iconst 0, 1) := by decide +kernel
theorem dL_isPut_63 : decode cL_isPut 63 = .ok (.invokevirtual 9, 3) := by decide +kernel
theorem dL_isPut_66 : decode cL_isPut 66 = .ok (.istore 8, 2) := by decide +kernel
theorem dL_isPut_68 : decode cL_isPut 68 = .ok (.aload_n 0, 1) := by decide +kernel
theorem dL_isPut_69 : decode cL_isPut 69 = .ok (.iload_n 1, 1) := by decide +kernel
theorem dL_isPut_70 : decode cL_isPut 70 = .ok (.invokevirtual 22, 3) := by decide +kernel
theorem dL_isPut_73 : decode cL_isPut 73 = .ok (.istore 9, 2) := by decide +kernel
theorem dL_isPut_75 : decode cL_isPut 75 = .ok (.iload 9, 2) := by decide +kernel
theorem dL_isPut_77 : decode cL_isPut 77 = .ok (.ifCond .ge 48, 3) := by decide +kernel
theorem dL_isPut_80 : decode cL_isPut 80 = .ok (.aload_n 0, 1) := by decide +kernel
theorem dL_isPut_81 : decode cL_isPut 81 = .ok (.bipush 7, 2) := by decide +kernel
theorem dL_isPut_83 : decode cL_isPut 83 = .ok (.invokevirtual 9, 3) := by decide +kernel
theorem dL_isPut_86 : decode cL_isPut 86 = .ok (.iconst 1, 1) := by decide +kernel
theorem dL_isPut_87 : decode cL_isPut 87 = .ok (.if_icmp .ne 18, 3) := by decide +kernel
theorem dL_isPut_90 : decode cL_isPut 90 = .ok (.iload 9, 2) := by decide +kernel
theorem dL_isPut_92 : decode cL_isPut 92 = .ok (.bipush (-2), 2) := by decide +kernel
theorem dL_isPut_94 : decode cL_isPut 94 = .ok (.if_icmp .ne 7, 3) := by decide +kernel
theorem dL_isPut_97 : decode cL_isPut 97 = .ok (.iconst 1, 1) := by decide +kernel
theorem dL_isPut_98 : decode cL_isPut 98 = .ok (.goto 26, 3) := by decide +kernel
theorem dL_isPut_101 : decode cL_isPut 101 = .ok (.iconst 0, 1) := by decide +kernel
theorem dL_isPut_102 : decode cL_isPut 102 = .ok (.goto 22, 3) := by decide +kernel
theorem dL_isPut_105 : decode cL_isPut 105 = .ok (.iload 9, 2) := by decide +kernel
theorem dL_isPut_107 : decode cL_isPut 107 = .ok (.bipush (-3), 2) := by decide +kernel
theorem dL_isPut_109 : decode cL_isPut 109 = .ok (.if_icmp .ne 14, 3) := by decide +kernel
theorem dL_isPut_112 : decode cL_isPut 112 = .ok (.iload 8, 2) := by decide +kernel
theorem dL_isPut_114 : decode cL_isPut 114 = .ok (.bipush 40, 2) := by decide +kernel
theorem dL_isPut_116 : decode cL_isPut 116 = .ok (.if_icmp .ne 7, 3) := by decide +kernel
theorem dL_isPut_119 : decode cL_isPut 119 = .ok (.iconst 1, 1) := by decide +kernel
theorem dL_isPut_120 : decode cL_isPut 120 = .ok (.goto 4, 3) := by decide +kernel
theorem dL_isPut_123 : decode cL_isPut 123 = .ok (.iconst 0, 1) := by decide +kernel
theorem dL_isPut_124 : decode cL_isPut 124 = .ok (.ireturn, 1) := by decide +kernel
theorem dL_isPut_125 : decode cL_isPut 125 = .ok (.iload 9, 2) := by decide +kernel
theorem dL_isPut_127 : decode cL_isPut 127 = .ok (.iload 5, 2) := by decide +kernel
theorem dL_isPut_129 : decode cL_isPut 129 = .ok (.if_icmp .ne 123, 3) := by decide +kernel
theorem dL_isPut_132 : decode cL_isPut 132 = .ok (.aload_n 0, 1) := by decide +kernel
theorem dL_isPut_133 : decode cL_isPut 133 = .ok (.iconst 1, 1) := by decide +kernel
theorem dL_isPut_134 : decode cL_isPut 134 = .ok (.invokevirtual 9, 3) := by decide +kernel
theorem dL_isPut_137 : decode cL_isPut 137 = .ok (.iload_n 2, 1) := by decide +kernel
theorem dL_isPut_138 : decode cL_isPut 138 = .ok (.iload 9, 2) := by decide +kernel
theorem dL_isPut_140 : decode cL_isPut 140 = .ok (.iadd, 1) := by decide +kernel
theorem dL_isPut_141 : decode cL_isPut 141 = .ok (.if_icmp .ne 111, 3) := by decide +kernel
theorem dL_isPut_144 : decode cL_isPut 144 = .ok (.aload_n 0, 1) := by decide +kernel
theorem dL_isPut_145 : decode cL_isPut 145 = .ok (.iload 8, 2) := by decide +kernel
theorem dL_isPut_147 : decode cL_isPut 147 = .ok (.invokevirtual 25, 3) := by decide +kernel
theorem dL_isPut_150 : decode cL_isPut 150 = .ok (.iload 9, 2) := by decide +kernel
theorem dL_isPut_152 : decode cL_isPut 152 = .ok (.if_icmp .ne 100, 3) := by decide +kernel
theorem dL_isPut_155 : decode cL_isPut 155 = .ok (.aload_n 0, 1) := by decide +kernel
theorem dL_isPut_156 : decode cL_isPut 156 = .ok (.iload 8, 2) := by decide +kernel
theorem dL_isPut_158 : decode cL_isPut 158 = .ok (.invokevirtual 28, 3) := by decide +kernel
theorem dL_isPut_161 : decode cL_isPut 161 = .ok (.iload_n 1, 1) := by decide +kernel
theorem dL_isPut_162 : decode cL_isPut 162 = .ok (.if_icmp .ne 90, 3) := by decide +kernel
theorem dL_isPut_165 : decode cL_isPut 165 = .ok (.iload_n 2, 1) := by decide +kernel
theorem dL_isPut_166 : decode cL_isPut 166 = .ok (.ifCond .eq 24, 3) := by decide +kernel
theorem dL_isPut_169 : decode cL_isPut 169 = .ok (.aload_n 0, 1) := by decide +kernel
theorem dL_isPut_170 : decode cL_isPut 170 = .ok (.iconst 0, 1) := by decide +kernel
theorem dL_isPut_171 : decode cL_isPut 171 = .ok (.invokevirtual 15, 3) := by decide +kernel
theorem dL_isPut_174 : decode cL_isPut 174 = .ok (.iload_n 3, 1) := by decide +kernel
theorem dL_isPut_175 : decode cL_isPut 175 = .ok (.if_icmp .ne 77, 3) := by decide +kernel
theorem dL_isPut_178 : decode cL_isPut 178 = .ok (.aload_n 0, 1) := by decide +kernel
theorem dL_isPut_179 : decode cL_isPut 179 = .ok (.iload_n 2, 1) := by decide +kernel
theorem dL_isPut_180 : decode cL_isPut 180 = .ok (.iconst 1, 1) := by decide +kernel
theorem dL_isPut_181 : decode cL_isPut 181 = .ok (.isub, 1) := by decide +kernel
theorem dL_isPut_182 : decode cL_isPut 182 = .ok (.invokevirtual 15, 3) := by decide +kernel
theorem dL_isPut_185 : decode cL_isPut 185 = .ok (.iload 4, 2) := by decide +kernel
theorem dL_isPut_187 : decode cL_isPut 187 = .ok (.if_icmp .ne 65, 3) := by decide +kernel
theorem dL_isPut_190 : decode cL_isPut 190 = .ok (.aload_n 0, 1) := by decide +kernel
theorem dL_isPut_191 : decode cL_isPut 191 = .ok (.iload_n 1, 1) := by decide +kernel
theorem dL_isPut_192 : decode cL_isPut 192 = .ok (.iconst 0, 1) := by decide +kernel
theorem dL_isPut_193 : decode cL_isPut 193 = .ok (.invokevirtual 18, 3) := by decide +kernel
theorem dL_isPut_196 : decode cL_isPut 196 = .ok (.aload_n 0, 1) := by decide +kernel
theorem dL_isPut_197 : decode cL_isPut 197 = .ok (.bipush 6, 2) := by decide +kernel
theorem dL_isPut_199 : decode cL_isPut 199 = .ok (.invokevirtual 9, 3) := by decide +kernel
theorem dL_isPut_202 : decode cL_isPut 202 = .ok (.iload 7, 2) := by decide +kernel
theorem dL_isPut_204 : decode cL_isPut 204 = .ok (.if_icmp .le 19, 3) := by decide +kernel
theorem dL_isPut_207 : decode cL_isPut 207 = .ok (.iload 6, 2) := by decide +kernel
theorem dL_isPut_209 : decode cL_isPut 209 = .ok (.aload_n 0, 1) := by decide +kernel
theorem dL_isPut_210 : decode cL_isPut 210 = .ok (.bipush 10, 2) := by decide +kernel
theorem dL_isPut_212 : decode cL_isPut 212 = .ok (.invokevirtual 9, 3) := by decide +kernel
theorem dL_isPut_215 : decode cL_isPut 215 = .ok (.iadd, 1) := by decide +kernel
theorem dL_isPut_216 : decode cL_isPut 216 = .ok (.iconst 1, 1) := by decide +kernel
theorem dL_isPut_217 : decode cL_isPut 217 = .ok (.iadd, 1) := by decide +kernel
theorem dL_isPut_218 : decode cL_isPut 218 = .ok (.iconst 2, 1) := by decide +kernel
theorem dL_isPut_219 : decode cL_isPut 219 = .ok (.idiv, 1) := by decide +kernel
theorem dL_isPut_220 : decode cL_isPut 220 = .ok (.goto 12, 3) := by decide +kernel
theorem dL_isPut_223 : decode cL_isPut 223 = .ok (.iload 6, 2) := by decide +kernel
theorem dL_isPut_225 : decode cL_isPut 225 = .ok (.aload_n 0, 1) := by decide +kernel
theorem dL_isPut_226 : decode cL_isPut 226 = .ok (.bipush 10, 2) := by decide +kernel
theorem dL_isPut_228 : decode cL_isPut 228 = .ok (.invokevirtual 9, 3) := by decide +kernel
theorem dL_isPut_231 : decode cL_isPut 231 = .ok (.iadd, 1) := by decide +kernel
theorem dL_isPut_232 : decode cL_isPut 232 = .ok (.if_icmp .ne 20, 3) := by decide +kernel
theorem dL_isPut_235 : decode cL_isPut 235 = .ok (.aload_n 0, 1) := by decide +kernel
theorem dL_isPut_236 : decode cL_isPut 236 = .ok (.bipush 6, 2) := by decide +kernel
theorem dL_isPut_238 : decode cL_isPut 238 = .ok (.invokevirtual 9, 3) := by decide +kernel
theorem dL_isPut_241 : decode cL_isPut 241 = .ok (.iload 7, 2) := by decide +kernel
theorem dL_isPut_243 : decode cL_isPut 243 = .ok (.iconst 1, 1) := by decide +kernel
theorem dL_isPut_244 : decode cL_isPut 244 = .ok (.iadd, 1) := by decide +kernel
theorem dL_isPut_245 : decode cL_isPut 245 = .ok (.if_icmp .gt 7, 3) := by decide +kernel
theorem dL_isPut_248 : decode cL_isPut 248 = .ok (.iconst 1, 1) := by decide +kernel
theorem dL_isPut_249 : decode cL_isPut 249 = .ok (.goto 4, 3) := by decide +kernel
theorem dL_isPut_252 : decode cL_isPut 252 = .ok (.iconst 0, 1) := by decide +kernel
theorem dL_isPut_253 : decode cL_isPut 253 = .ok (.ireturn, 1) := by decide +kernel
theorem dL_isStep_0 : decode cL_isStep 0 = .ok (.iload_n 1, 1) := by decide +kernel
theorem dL_isStep_1 : decode cL_isStep 1 = .ok (.iconst 4, 1) := by decide +kernel
theorem dL_isStep_2 : decode cL_isStep 2 = .ok (.ishr, 1) := by decide +kernel
theorem dL_isStep_3 : decode cL_isStep 3 = .ok (.istore_n 2, 1) := by decide +kernel
theorem dL_isStep_4 : decode cL_isStep 4 = .ok (.aload_n 0, 1) := by decide +kernel
theorem dL_isStep_5 : decode cL_isStep 5 = .ok (.iconst 0, 1) := by decide +kernel
theorem dL_isStep_6 : decode cL_isStep 6 = .ok (.invokevirtual 9, 3) := by decide +kernel
theorem dL_isStep_9 : decode cL_isStep 9 = .ok (.istore_n 3, 1) := by decide +kernel
theorem dL_isStep_10 : decode cL_isStep 10 = .ok (.iload_n 1, 1) := by decide +kernel
theorem dL_isStep_11 : decode cL_isStep 11 = .ok (.bipush 20, 2) := by decide +kernel
theorem dL_isStep_13 : decode cL_isStep 13 = .ok (.invokestatic 31, 3) := by decide +kernel
theorem dL_isStep_16 : decode cL_isStep 16 = .ok (.tableswitch 458 0 3 #[32, 159, 234, 324], 32) := by decide +kernel
theorem dL_isStep_48 : decode cL_isStep 48 = .ok (.aload_n 0, 1) := by decide +kernel
theorem dL_isStep_49 : decode cL_isStep 49 = .ok (.iconst 1, 1) := by decide +kernel
theorem dL_isStep_50 : decode cL_isStep 50 = .ok (.invokevirtual 9, 3) := by decide +kernel
theorem dL_isStep_53 : decode cL_isStep 53 = .ok (.istore 4, 2) := by decide +kernel
theorem dL_isStep_55 : decode cL_isStep 55 = .ok (.aload_n 0, 1) := by decide +kernel
theorem dL_isStep_56 : decode cL_isStep 56 = .ok (.bipush 8, 2) := by decide +kernel
theorem dL_isStep_58 : decode cL_isStep 58 = .ok (.iconst 3, 1) := by decide +kernel
theorem dL_isStep_59 : decode cL_isStep 59 = .ok (.invokevirtual 18, 3) := by decide +kernel
theorem dL_isStep_62 : decode cL_isStep 62 = .ok (.istore 5, 2) := by decide +kernel
theorem dL_isStep_64 : decode cL_isStep 64 = .ok (.aload_n 0, 1) := by decide +kernel
theorem dL_isStep_65 : decode cL_isStep 65 = .ok (.bipush 7, 2) := by decide +kernel
theorem dL_isStep_67 : decode cL_isStep 67 = .ok (.invokevirtual 9, 3) := by decide +kernel
theorem dL_isStep_70 : decode cL_isStep 70 = .ok (.iconst 1, 1) := by decide +kernel
theorem dL_isStep_71 : decode cL_isStep 71 = .ok (.if_icmp .ne 7, 3) := by decide +kernel
theorem dL_isStep_74 : decode cL_isStep 74 = .ok (.iconst 1, 1) := by decide +kernel
theorem dL_isStep_75 : decode cL_isStep 75 = .ok (.goto 4, 3) := by decide +kernel
theorem dL_isStep_78 : decode cL_isStep 78 = .ok (.iconst 0, 1) := by decide +kernel
theorem dL_isStep_79 : decode cL_isStep 79 = .ok (.istore 6, 2) := by decide +kernel
theorem dL_isStep_81 : decode cL_isStep 81 = .ok (.aload_n 0, 1) := by decide +kernel
theorem dL_isStep_82 : decode cL_isStep 82 = .ok (.invokevirtual 36, 3) := by decide +kernel
theorem dL_isStep_85 : decode cL_isStep 85 = .ok (.istore 7, 2) := by decide +kernel
theorem dL_isStep_87 : decode cL_isStep 87 = .ok (.iload 6, 2) := by decide +kernel
theorem dL_isStep_89 : decode cL_isStep 89 = .ok (.ifCond .eq 25, 3) := by decide +kernel
theorem dL_isStep_92 : decode cL_isStep 92 = .ok (.iload 7, 2) := by decide +kernel
theorem dL_isStep_94 : decode cL_isStep 94 = .ok (.bipush (-2), 2) := by decide +kernel
theorem dL_isStep_96 : decode cL_isStep 96 = .ok (.if_icmp .ne 14, 3) := by decide +kernel
theorem dL_isStep_99 : decode cL_isStep 99 = .ok (.iload 5, 2) := by decide +kernel
theorem dL_isStep_101 : decode cL_isStep 101 = .ok (.iload 7, 2) := by decide +kernel
theorem dL_isStep_103 : decode cL_isStep 103 = .ok (.if_icmp .ne 7, 3) := by decide +kernel
theorem dL_isStep_106 : decode cL_isStep 106 = .ok (.iconst 1, 1) := by decide +kernel
theorem dL_isStep_107 : decode cL_isStep 107 = .ok (.goto 67, 3) := by decide +kernel
theorem dL_isStep_110 : decode cL_isStep 110 = .ok (.iconst 0, 1) := by decide +kernel
theorem dL_isStep_111 : decode cL_isStep 111 = .ok (.goto 63, 3) := by decide +kernel
theorem dL_isStep_114 : decode cL_isStep 114 = .ok (.iload 7, 2) := by decide +kernel
theorem dL_isStep_116 : decode cL_isStep 116 = .ok (.iload 4, 2) := by decide +kernel
theorem dL_isStep_118 : decode cL_isStep 118 = .ok (.iload 5, 2) := by decide +kernel
theorem dL_isStep_120 : decode cL_isStep 120 = .ok (.iadd, 1) := by decide +kernel
theorem dL_isStep_121 : decode cL_isStep 121 = .ok (.if_icmp .ne 52, 3) := by decide +kernel
theorem dL_isStep_124 : decode cL_isStep 124 = .ok (.aload_n 0, 1) := by decide +kernel
theorem dL_isStep_125 : decode cL_isStep 125 = .ok (.bipush 7, 2) := by decide +kernel
theorem dL_isStep_127 : decode cL_isStep 127 = .ok (.invokevirtual 9, 3) := by decide +kernel
theorem dL_isStep_130 : decode cL_isStep 130 = .ok (.iconst 1, 1) := by decide +kernel
theorem dL_isStep_131 : decode cL_isStep 131 = .ok (.if_icmp .ne 42, 3) := by decide +kernel
theorem dL_isStep_134 : decode cL_isStep 134 = .ok (.aload_n 0, 1) := by decide +kernel
theorem dL_isStep_135 : decode cL_isStep 135 = .ok (.iconst 2, 1) := by decide +kernel
theorem dL_isStep_136 : decode cL_isStep 136 = .ok (.invokevirtual 9, 3) := by decide +kernel
theorem dL_isStep_139 : decode cL_isStep 139 = .ok (.ifCond .ne 34, 3) := by decide +kernel
theorem dL_isStep_142 : decode cL_isStep 142 = .ok (.aload_n 0, 1) := by decide +kernel
theorem dL_isStep_143 : decode cL_isStep 143 = .ok (.iconst 0, 1) := by decide +kernel
theorem dL_isStep_144 : decode cL_isStep 144 = .ok (.invokevirtual 40, 3) := by decide +kernel
theorem dL_isStep_147 : decode cL_isStep 147 = .ok (.iload_n 3, 1) := by decide +kernel
theorem dL_isStep_148 : decode cL_isStep 148 = .ok (.if_icmp .ne 25, 3) := by decide +kernel
theorem dL_isStep_151 : decode cL_isStep 151 = .ok (.aload_n 0, 1) := by decide +kernel
theorem dL_isStep_152 : decode cL_isStep 152 = .ok (.iconst 1, 1) := by decide +kernel
theorem dL_isStep_153 : decode cL_isStep 153 = .ok (.invokevirtual 40, 3) := by decide +kernel
theorem dL_isStep_156 : decode cL_isStep 156 = .ok (.iconst 1, 1) := by decide +kernel
theorem dL_isStep_157 : decode cL_isStep 157 = .ok (.if_icmp .ne 16, 3) := by decide +kernel
theorem dL_isStep_160 : decode cL_isStep 160 = .ok (.aload_n 0, 1) := by decide +kernel
theorem dL_isStep_161 : decode cL_isStep 161 = .ok (.iconst 2, 1) := by decide +kernel
theorem dL_isStep_162 : decode cL_isStep 162 = .ok (.invokevirtual 40, 3) := by decide +kernel
theorem dL_isStep_165 : decode cL_isStep 165 = .ok (.iload_n 3, 1) := by decide +kernel
theorem dL_isStep_166 : decode cL_isStep 166 = .ok (.if_icmp .ne 7, 3) := by decide +kernel
theorem dL_isStep_169 : decode cL_isStep 169 = .ok (.iconst 1, 1) := by decide +kernel
theorem dL_isStep_170 : decode cL_isStep 170 = .ok (.goto 4, 3) := by decide +kernel
theorem dL_isStep_173 : decode cL_isStep 173 = .ok (.iconst 0, 1) := by decide +kernel
theorem dL_isStep_174 : decode cL_isStep 174 = .ok (.ireturn, 1) := by decide +kernel
theorem dL_isStep_175 : decode cL_isStep 175 = .ok (.iconst 1, 1) := by decide +kernel
theorem dL_isStep_176 : decode cL_isStep 176 = .ok (.iload_n 2, 1) := by decide +kernel
theorem dL_isStep_177 : decode cL_isStep 177 = .ok (.iconst 4, 1) := by decide +kernel
theorem dL_isStep_178 : decode cL_isStep 178 = .ok (.invokestatic 31, 3) := by decide +kernel
theorem dL_isStep_181 : decode cL_isStep 181 = .ok (.iadd, 1) := by decide +kernel
theorem dL_isStep_182 : decode cL_isStep 182 = .ok (.istore 4, 2) := by decide +kernel
theorem dL_isStep_184 : decode cL_isStep 184 = .ok (.aload_n 0, 1) := by decide +kernel
theorem dL_isStep_185 : decode cL_isStep 185 = .ok (.iload 4, 2) := by decide +kernel
theorem dL_isStep_187 : decode cL_isStep 187 = .ok (.invokevirtual 43, 3) := by decide +kernel
theorem dL_isStep_190 : decode cL_isStep 190 = .ok (.istore 5, 2) := by decide +kernel
theorem dL_isStep_192 : decode cL_isStep 192 = .ok (.iload 4, 2) := by decide +kernel
theorem dL_isStep_194 : decode cL_isStep 194 = .ok (.iload_n 3, 1) := by decide +kernel
theorem dL_isStep_195 : decode cL_isStep 195 = .ok (.if_icmp .le 18, 3) := by decide +kernel
theorem dL_isStep_198 : decode cL_isStep 198 = .ok (.iload 5, 2) := by decide +kernel
theorem dL_isStep_200 : decode cL_isStep 200 = .ok (.bipush (-2), 2) := by decide +kernel
theorem dL_isStep_202 : decode cL_isStep 202 = .ok (.if_icmp .ne 7, 3) := by decide +kernel
theorem dL_isStep_205 : decode cL_isStep 205 = .ok (.iconst 1, 1) := by decide +kernel
theorem dL_isStep_206 : decode cL_isStep 206 = .ok (.goto 43, 3) := by decide +kernel
theorem dL_isStep_209 : decode cL_isStep 209 = .ok (.iconst 0, 1) := by decide +kernel
theorem dL_isStep_210 : decode cL_isStep 210 = .ok (.goto 39, 3) := by decide +kernel
theorem dL_isStep_213 : decode cL_isStep 213 = .ok (.iload 5, 2) := by decide +kernel
theorem dL_isStep_215 : decode cL_isStep 215 = .ok (.aload_n 0, 1) := by decide +kernel
theorem dL_isStep_216 : decode cL_isStep 216 = .ok (.iconst 1, 1) := by decide +kernel
theorem dL_isStep_217 : decode cL_isStep 217 = .ok (.invokevirtual 9, 3) := by decide +kernel
theorem dL_isStep_220 : decode cL_isStep 220 = .ok (.if_icmp .ne 28, 3) := by decide +kernel
theorem dL_isStep_223 : decode cL_isStep 223 = .ok (.aload_n 0, 1) := by decide +kernel
theorem dL_isStep_224 : decode cL_isStep 224 = .ok (.iconst 0, 1) := by decide +kernel
theorem dL_isStep_225 : decode cL_isStep 225 = .ok (.invokevirtual 9, 3) := by decide +kernel
theorem dL_isStep_228 : decode cL_isStep 228 = .ok (.iload_n 3, 1) := by decide +kernel
theorem dL_isStep_229 : decode cL_isStep 229 = .ok (.iload 4, 2) := by decide +kernel
theorem dL_isStep_231 : decode cL_isStep 231 = .ok (.isub, 1) := by decide +kernel
theorem dL_isStep_232 : decode cL_isStep 232 = .ok (.if_icmp .ne 16, 3) := by decide +kernel
theorem dL_isStep_235 : decode cL_isStep 235 = .ok (.aload_n 0, 1) := by decide +kernel
theorem dL_isStep_236 : decode cL_isStep 236 = .ok (.bipush 7, 2) := by decide +kernel
theorem dL_isStep_238 : decode cL_isStep 238 = .ok (.invokevirtual 9, 3) := by decide +kernel
theorem dL_isStep_241 : decode cL_isStep 241 = .ok (.ifCond .ne 7, 3) := by decide +kernel
theorem dL_isStep_244 : decode cL_isStep 244 = .ok (.iconst 1, 1) := by decide +kernel
theorem dL_isStep_245 : decode cL_isStep 245 = .ok (.goto 4, 3) := by decide +kernel
theorem dL_isStep_248 : decode cL_isStep 248 = .ok (.iconst 0, 1) := by decide +kernel
theorem dL_isStep_249 : decode cL_isStep 249 = .ok (.ireturn, 1) := by decide +kernel
theorem dL_isStep_250 : decode cL_isStep 250 = .ok (.iload_n 2, 1) := by decide +kernel
theorem dL_isStep_251 : decode cL_isStep 251 = .ok (.iload_n 3, 1) := by decide +kernel
theorem dL_isStep_252 : decode cL_isStep 252 = .ok (.iconst 1, 1) := by decide +kernel
theorem dL_isStep_253 : decode cL_isStep 253 = .ok (.iadd, 1) := by decide +kernel
theorem dL_isStep_254 : decode cL_isStep 254 = .ok (.invokestatic 31, 3) := by decide +kernel
theorem dL_isStep_257 : decode cL_isStep 257 = .ok (.istore 4, 2) := by decide +kernel
theorem dL_isStep_259 : decode cL_isStep 259 = .ok (.aload_n 0, 1) := by decide +kernel
theorem dL_isStep_260 : decode cL_isStep 260 = .ok (.iload 4, 2) := by decide +kernel
theorem dL_isStep_262 : decode cL_isStep 262 = .ok (.iload_n 2, 1) := by decide +kernel
theorem dL_isStep_263 : decode cL_isStep 263 = .ok (.bipush 6, 2) := by decide +kernel
theorem dL_isStep_265 : decode cL_isStep 265 = .ok (.ishr, 1) := by decide +kernel
theorem dL_isStep_266 : decode cL_isStep 266 = .ok (.bipush 8, 2) := by decide +kernel
theorem dL_isStep_268 : decode cL_isStep 268 = .ok (.invokestatic 31, 3) := by decide +kernel
theorem dL_isStep_271 : decode cL_isStep 271 = .ok (.invokevirtual 46, 3) := by decide +kernel
theorem dL_isStep_274 : decode cL_isStep 274 = .ok (.istore 5, 2) := by decide +kernel
theorem dL_isStep_276 : decode cL_isStep 276 = .ok (.iload 4, 2) := by decide +kernel
theorem dL_isStep_278 : decode cL_isStep 278 = .ok (.iload_n 3, 1) := by decide +kernel
theorem dL_isStep_279 : decode cL_isStep 279 = .ok (.if_icmp .ne 18, 3) := by decide +kernel
theorem dL_isStep_282 : decode cL_isStep 282 = .ok (.iload 5, 2) := by decide +kernel
theorem dL_isStep_284 : decode cL_isStep 284 = .ok (.bipush (-2), 2) := by decide +kernel
theorem dL_isStep_286 : decode cL_isStep 286 = .ok (.if_icmp .ne 7, 3) := by decide +kernel
theorem dL_isStep_289 : decode cL_isStep 289 = .ok (.iconst 1, 1) := by decide +kernel
theorem dL_isStep_290 : decode cL_isStep 290 = .ok (.goto 49, 3) := by decide +kernel
theorem dL_isStep_293 : decode cL_isStep 293 = .ok (.iconst 0, 1) := by decide +kernel
theorem dL_isStep_294 : decode cL_isStep 294 = .ok (.goto 45, 3) := by decide +kernel
theorem dL_isStep_297 : decode cL_isStep 297 = .ok (.iload 5, 2) := by decide +kernel
theorem dL_isStep_299 : decode cL_isStep 299 = .ok (.aload_n 0, 1) := by decide +kernel
theorem dL_isStep_300 : decode cL_isStep 300 = .ok (.iconst 1, 1) := by decide +kernel
theorem dL_isStep_301 : decode cL_isStep 301 = .ok (.invokevirtual 9, 3) := by decide +kernel
theorem dL_isStep_304 : decode cL_isStep 304 = .ok (.if_icmp .ne 34, 3) := by decide +kernel
theorem dL_isStep_307 : decode cL_isStep 307 = .ok (.aload_n 0, 1) := by decide +kernel
theorem dL_isStep_308 : decode cL_isStep 308 = .ok (.iload 4, 2) := by decide +kernel
theorem dL_isStep_310 : decode cL_isStep 310 = .ok (.invokevirtual 28, 3) := by decide +kernel
theorem dL_isStep_313 : decode cL_isStep 313 = .ok (.iload_n 2, 1) := by decide +kernel
theorem dL_isStep_314 : decode cL_isStep 314 = .ok (.bipush 6, 2) := by decide +kernel
theorem dL_isStep_316 : decode cL_isStep 316 = .ok (.ishr, 1) := by decide +kernel
theorem dL_isStep_317 : decode cL_isStep 317 = .ok (.bipush 8, 2) := by decide +kernel
theorem dL_isStep_319 : decode cL_isStep 319 = .ok (.invokestatic 31, 3) := by decide +kernel
theorem dL_isStep_322 : decode cL_isStep 322 = .ok (.if_icmp .ne 16, 3) := by decide +kernel
theorem dL_isStep_325 : decode cL_isStep 325 = .ok (.aload_n 0, 1) := by decide +kernel
theorem dL_isStep_326 : decode cL_isStep 326 = .ok (.iconst 0, 1) := by decide +kernel
theorem dL_isStep_327 : decode cL_isStep 327 = .ok (.invokevirtual 9, 3) := by decide +kernel
theorem dL_isStep_330 : decode cL_isStep 330 = .ok (.iload_n 3, 1) := by decide +kernel
theorem dL_isStep_331 : decode cL_isStep 331 = .ok (.if_icmp .ne 7, 3) := by decide +kernel
theorem dL_isStep_334 : decode cL_isStep 334 = .ok (.iconst 1, 1) := by decide +kernel
theorem dL_isStep_335 : decode cL_isStep 335 = .ok (.goto 4, 3) := by decide +kernel
theorem dL_isStep_338 : decode cL_isStep 338 = .ok (.iconst 0, 1) := by decide +kernel
theorem dL_isStep_339 : decode cL_isStep 339 = .ok (.ireturn, 1) := by decide +kernel
theorem dL_isStep_340 : decode cL_isStep 340 = .ok (.iload_n 2, 1) := by decide +kernel
theorem dL_isStep_341 : decode cL_isStep 341 = .ok (.iconst 4, 1) := by decide +kernel
theorem dL_isStep_342 : decode cL_isStep 342 = .ok (.invokestatic 31, 3) := by decide +kernel
theorem dL_isStep_345 : decode cL_isStep 345 = .ok (.ifCond .le 44, 3) := by decide +kernel
theorem dL_isStep_348 : decode cL_isStep 348 = .ok (.aload_n 0, 1) := by decide +kernel
theorem dL_isStep_349 : decode cL_isStep 349 = .ok (.invokevirtual 49, 3) := by decide +kernel
theorem dL_isStep_352 : decode cL_isStep 352 = .ok (.aload_n 0, 1) := by decide +kernel
theorem dL_isStep_353 : decode cL_isStep 353 = .ok (.bipush 8, 2) := by decide +kernel
theorem dL_isStep_355 : decode cL_isStep 355 = .ok (.invokevirtual 9, 3) := by decide +kernel
theorem dL_isStep_358 : decode cL_isStep 358 = .ok (.ifCond .lt 12, 3) := by decide +kernel
theorem dL_isStep_361 : decode cL_isStep 361 = .ok (.aload_n 0, 1) := by decide +kernel
theorem dL_isStep_362 : decode cL_isStep 362 = .ok (.bipush 8, 2) := by decide +kernel
theorem dL_isStep_364 : decode cL_isStep 364 = .ok (.invokevirtual 9, 3) := by decide +kernel
theorem dL_isStep_367 : decode cL_isStep 367 = .ok (.goto 4, 3) := by decide +kernel
theorem dL_isStep_370 : decode cL_isStep 370 = .ok (.iconst (-1), 1) := by decide +kernel
theorem dL_isStep_371 : decode cL_isStep 371 = .ok (.if_icmp .eq 12, 3) := by decide +kernel
theorem dL_isStep_374 : decode cL_isStep 374 = .ok (.aload_n 0, 1) := by decide +kernel
theorem dL_isStep_375 : decode cL_isStep 375 = .ok (.bipush 8, 2) := by decide +kernel
theorem dL_isStep_377 : decode cL_isStep 377 = .ok (.invokevirtual 9, 3) := by decide +kernel
theorem dL_isStep_380 : decode cL_isStep 380 = .ok (.ifCond .ne 7, 3) := by decide +kernel
theorem dL_isStep_383 : decode cL_isStep 383 = .ok (.iconst 1, 1) := by decide +kernel
theorem dL_isStep_384 : decode cL_isStep 384 = .ok (.goto 4, 3) := by decide +kernel
theorem dL_isStep_387 : decode cL_isStep 387 = .ok (.iconst 0, 1) := by decide +kernel
theorem dL_isStep_388 : decode cL_isStep 388 = .ok (.ireturn, 1) := by decide +kernel
theorem dL_isStep_389 : decode cL_isStep 389 = .ok (.iload_n 2, 1) := by decide +kernel
theorem dL_isStep_390 : decode cL_isStep 390 = .ok (.iconst 2, 1) := by decide +kernel
theorem dL_isStep_391 : decode cL_isStep 391 = .ok (.ishr, 1) := by decide +kernel
theorem dL_isStep_392 : decode cL_isStep 392 = .ok (.iconst 2, 1) := by decide +kernel
theorem dL_isStep_393 : decode cL_isStep 393 = .ok (.invokestatic 31, 3) := by decide +kernel
theorem dL_isStep_396 : decode cL_isStep 396 = .ok (.istore 4, 2) := by decide +kernel
theorem dL_isStep_398 : decode cL_isStep 398 = .ok (.aload_n 0, 1) := by decide +kernel
theorem dL_isStep_399 : decode cL_isStep 399 = .ok (.bipush 10, 2) := by decide +kernel
theorem dL_isStep_401 : decode cL_isStep 401 = .ok (.iload 4, 2) := by decide +kernel
theorem dL_isStep_403 : decode cL_isStep 403 = .ok (.iadd, 1) := by decide +kernel
theorem dL_isStep_404 : decode cL_isStep 404 = .ok (.invokevirtual 9, 3) := by decide +kernel
theorem dL_isStep_407 : decode cL_isStep 407 = .ok (.istore 5, 2) := by decide +kernel
theorem dL_isStep_409 : decode cL_isStep 409 = .ok (.aload_n 0, 1) := by decide +kernel
theorem dL_isStep_410 : decode cL_isStep 410 = .ok (.iload 4, 2) := by decide +kernel
theorem dL_isStep_412 : decode cL_isStep 412 = .ok (.iload 4, 2) := by decide +kernel
theorem dL_isStep_414 : decode cL_isStep 414 = .ok (.ifCond .ne 16, 3) := by decide +kernel
theorem dL_isStep_417 : decode cL_isStep 417 = .ok (.iconst 1, 1) := by decide +kernel
theorem dL_isStep_418 : decode cL_isStep 418 = .ok (.iload_n 2, 1) := by decide +kernel
theorem dL_isStep_419 : decode cL_isStep 419 = .ok (.iconst 3, 1) := by decide +kernel
theorem dL_isStep_420 : decode cL_isStep 420 = .ok (.ishr, 1) := by decide +kernel
theorem dL_isStep_421 : decode cL_isStep 421 = .ok (.bipush 64, 2) := by decide +kernel
theorem dL_isStep_423 : decode cL_isStep 423 = .ok (.invokestatic 31, 3) := by decide +kernel
theorem dL_isStep_426 : decode cL_isStep 426 = .ok (.iadd, 1) := by decide +kernel
theorem dL_isStep_427 : decode cL_isStep 427 = .ok (.goto 15, 3) := by decide +kernel
theorem dL_isStep_430 : decode cL_isStep 430 = .ok (.bipush 32, 2) := by decide +kernel
theorem dL_isStep_432 : decode cL_isStep 432 = .ok (.iload_n 2, 1) := by decide +kernel
theorem dL_isStep_433 : decode cL_isStep 433 = .ok (.iconst 3, 1) := by decide +kernel
theorem dL_isStep_434 : decode cL_isStep 434 = .ok (.ishr, 1) := by decide +kernel
theorem dL_isStep_435 : decode cL_isStep 435 = .ok (.sipush 600, 3) := by decide +kernel
theorem dL_isStep_438 : decode cL_isStep 438 = .ok (.invokestatic 31, 3) := by decide +kernel
theorem dL_isStep_441 : decode cL_isStep 441 = .ok (.iadd, 1) := by decide +kernel
theorem dL_isStep_442 : decode cL_isStep 442 = .ok (.invokevirtual 52, 3) := by decide +kernel
theorem dL_isStep_445 : decode cL_isStep 445 = .ok (.iload 5, 2) := by decide +kernel
theorem dL_isStep_447 : decode cL_isStep 447 = .ok (.if_icmp .ne 25, 3) := by decide +kernel
theorem dL_isStep_450 : decode cL_isStep 450 = .ok (.aload_n 0, 1) := by decide +kernel
theorem dL_isStep_451 : decode cL_isStep 451 = .ok (.iconst 0, 1) := by decide +kernel
theorem dL_isStep_452 : decode cL_isStep 452 = .ok (.invokevirtual 9, 3) := by decide +kernel
theorem dL_isStep_455 : decode cL_isStep 455 = .ok (.ifCond .ne 17, 3) := by decide +kernel
theorem dL_isStep_458 : decode cL_isStep 458 = .ok (.aload_n 0, 1) := by decide +kernel
theorem dL_isStep_459 : decode cL_isStep 459 = .ok (.iconst 5, 1) := by decide +kernel
theorem dL_isStep_460 : decode cL_isStep 460 = .ok (.invokevirtual 9, 3) := by decide +kernel
theorem dL_isStep_463 : decode cL_isStep 463 = .ok (.bipush 9, 2) := by decide +kernel
theorem dL_isStep_465 : decode cL_isStep 465 = .ok (.if_icmp .ne 7, 3) := by decide +kernel
theorem dL_isStep_468 : decode cL_isStep 468 = .ok (.iconst 1, 1) := by decide +kernel
theorem dL_isStep_469 : decode cL_isStep 469 = .ok (.goto 4, 3) := by decide +kernel
theorem dL_isStep_472 : decode cL_isStep 472 = .ok (.iconst 0, 1) := by decide +kernel
theorem dL_isStep_473 : decode cL_isStep 473 = .ok (.ireturn, 1) := by decide +kernel
theorem dL_isStep_474 : decode cL_isStep 474 = .ok (.aload_n 0, 1) := by decide +kernel
theorem dL_isStep_475 : decode cL_isStep 475 = .ok (.iload_n 2, 1) := by decide +kernel
theorem dL_isStep_476 : decode cL_isStep 476 = .ok (.iconst 4, 1) := by decide +kernel
theorem dL_isStep_477 : decode cL_isStep 477 = .ok (.invokestatic 31, 3) := by decide +kernel
theorem dL_isStep_480 : decode cL_isStep 480 = .ok (.ifCond .le 13, 3) := by decide +kernel
theorem dL_isStep_483 : decode cL_isStep 483 = .ok (.iload_n 2, 1) := by decide +kernel
theorem dL_isStep_484 : decode cL_isStep 484 = .ok (.iconst 2, 1) := by decide +kernel
theorem dL_isStep_485 : decode cL_isStep 485 = .ok (.ishr, 1) := by decide +kernel
theorem dL_isStep_486 : decode cL_isStep 486 = .ok (.iconst 3, 1) := by decide +kernel
theorem dL_isStep_487 : decode cL_isStep 487 = .ok (.invokestatic 31, 3) := by decide +kernel
theorem dL_isStep_490 : decode cL_isStep 490 = .ok (.goto 11, 3) := by decide +kernel
theorem dL_isStep_493 : decode cL_isStep 493 = .ok (.iload_n 2, 1) := by decide +kernel
theorem dL_isStep_494 : decode cL_isStep 494 = .ok (.iconst 2, 1) := by decide +kernel
theorem dL_isStep_495 : decode cL_isStep 495 = .ok (.ishr, 1) := by decide +kernel
theorem dL_isStep_496 : decode cL_isStep 496 = .ok (.bipush 8, 2) := by decide +kernel
theorem dL_isStep_498 : decode cL_isStep 498 = .ok (.invokestatic 31, 3) := by decide +kernel
theorem dL_isStep_501 : decode cL_isStep 501 = .ok (.invokestatic 55, 3) := by decide +kernel
theorem dL_isStep_504 : decode cL_isStep 504 = .ok (.ireturn, 1) := by decide +kernel
theorem dL_isWell_0 : decode cL_isWell 0 = .ok (.aload_n 0, 1) := by decide +kernel
theorem dL_isWell_1 : decode cL_isWell 1 = .ok (.iconst 0, 1) := by decide +kernel
theorem dL_isWell_2 : decode cL_isWell 2 = .ok (.invokevirtual 9, 3) := by decide +kernel
theorem dL_isWell_5 : decode cL_isWell 5 = .ok (.istore_n 1, 1) := by decide +kernel
theorem dL_isWell_6 : decode cL_isWell 6 = .ok (.aload_n 0, 1) := by decide +kernel
theorem dL_isWell_7 : decode cL_isWell 7 = .ok (.iconst 3, 1) := by decide +kernel
theorem dL_isWell_8 : decode cL_isWell 8 = .ok (.invokevirtual 9, 3) := by decide +kernel
theorem dL_isWell_11 : decode cL_isWell 11 = .ok (.istore_n 2, 1) := by decide +kernel
theorem dL_isWell_12 : decode cL_isWell 12 = .ok (.aload_n 0, 1) := by decide +kernel
theorem dL_isWell_13 : decode cL_isWell 13 = .ok (.iconst 4, 1) := by decide +kernel
theorem dL_isWell_14 : decode cL_isWell 14 = .ok (.invokevirtual 9, 3) := by decide +kernel
theorem dL_isWell_17 : decode cL_isWell 17 = .ok (.istore_n 3, 1) := by decide +kernel
theorem dL_isWell_18 : decode cL_isWell 18 = .ok (.iconst 0, 1) := by decide +kernel
theorem dL_isWell_19 : decode cL_isWell 19 = .ok (.istore 4, 2) := by decide +kernel
theorem dL_isWell_21 : decode cL_isWell 21 = .ok (.iconst 0, 1) := by decide +kernel
theorem dL_isWell_22 : decode cL_isWell 22 = .ok (.istore 5, 2) := by decide +kernel
theorem dL_isWell_24 : decode cL_isWell 24 = .ok (.iconst 0, 1) := by decide +kernel
theorem dL_isWell_25 : decode cL_isWell 25 = .ok (.istore 6, 2) := by decide +kernel
theorem dL_isWell_27 : decode cL_isWell 27 = .ok (.iconst 0, 1) := by decide +kernel
theorem dL_isWell_28 : decode cL_isWell 28 = .ok (.istore 7, 2) := by decide +kernel
theorem dL_isWell_30 : decode cL_isWell 30 = .ok (.iload_n 2, 1) := by decide +kernel
theorem dL_isWell_31 : decode cL_isWell 31 = .ok (.ifCond .lt 35, 3) := by decide +kernel
theorem dL_isWell_34 : decode cL_isWell 34 = .ok (.iload_n 2, 1) := by decide +kernel
theorem dL_isWell_35 : decode cL_isWell 35 = .ok (.iload_n 3, 1) := by decide +kernel
theorem dL_isWell_36 : decode cL_isWell 36 = .ok (.if_icmp .ge 30, 3) := by decide +kernel
theorem dL_isWell_39 : decode cL_isWell 39 = .ok (.iload_n 3, 1) := by decide +kernel
theorem dL_isWell_40 : decode cL_isWell 40 = .ok (.ldc 59, 2) := by decide +kernel
theorem dL_isWell_42 : decode cL_isWell 42 = .ok (.if_icmp .gt 24, 3) := by decide +kernel
theorem dL_isWell_45 : decode cL_isWell 45 = .ok (.iload_n 3, 1) := by decide +kernel
theorem dL_isWell_46 : decode cL_isWell 46 = .ok (.iload_n 2, 1) := by decide +kernel
theorem dL_isWell_47 : decode cL_isWell 47 = .ok (.isub, 1) := by decide +kernel
theorem dL_isWell_48 : decode cL_isWell 48 = .ok (.sipush 16384, 3) := by decide +kernel
theorem dL_isWell_51 : decode cL_isWell 51 = .ok (.if_icmp .lt 15, 3) := by decide +kernel
theorem dL_isWell_54 : decode cL_isWell 54 = .ok (.aload_n 0, 1) := by decide +kernel
theorem dL_isWell_55 : decode cL_isWell 55 = .ok (.iconst 2, 1) := by decide +kernel
theorem dL_isWell_56 : decode cL_isWell 56 = .ok (.invokevirtual 9, 3) := by decide +kernel
theorem dL_isWell_59 : decode cL_isWell 59 = .ok (.ifCond .lt 7, 3) := by decide +kernel
theorem dL_isWell_62 : decode cL_isWell 62 = .ok (.iconst 1, 1) := by decide +kernel
theorem dL_isWell_63 : decode cL_isWell 63 = .ok (.goto 4, 3) := by decide +kernel
theorem dL_isWell_66 : decode cL_isWell 66 = .ok (.iconst 0, 1) := by decide +kernel
theorem dL_isWell_67 : decode cL_isWell 67 = .ok (.istore 8, 2) := by decide +kernel
theorem dL_isWell_69 : decode cL_isWell 69 = .ok (.iconst 0, 1) := by decide +kernel
theorem dL_isWell_70 : decode cL_isWell 70 = .ok (.istore 9, 2) := by decide +kernel
theorem dL_isWell_72 : decode cL_isWell 72 = .ok (.iload 9, 2) := by decide +kernel
theorem dL_isWell_74 : decode cL_isWell 74 = .ok (.bipush 9, 2) := by decide +kernel
theorem dL_isWell_76 : decode cL_isWell 76 = .ok (.if_icmp .ge 91, 3) := by decide +kernel
theorem dL_isWell_79 : decode cL_isWell 79 = .ok (.aload_n 0, 1) := by decide +kernel
theorem dL_isWell_80 : decode cL_isWell 80 = .ok (.iload 9, 2) := by decide +kernel
theorem dL_isWell_82 : decode cL_isWell 82 = .ok (.iconst 0, 1) := by decide +kernel
theorem dL_isWell_83 : decode cL_isWell 83 = .ok (.invokevirtual 18, 3) := by decide +kernel
theorem dL_isWell_86 : decode cL_isWell 86 = .ok (.istore 10, 2) := by decide +kernel
theorem dL_isWell_88 : decode cL_isWell 88 = .ok (.iload 8, 2) := by decide +kernel
theorem dL_isWell_90 : decode cL_isWell 90 = .ok (.ifCond .eq 38, 3) := by decide +kernel
theorem dL_isWell_93 : decode cL_isWell 93 = .ok (.iload 10, 2) := by decide +kernel
theorem dL_isWell_95 : decode cL_isWell 95 = .ok (.iconst 1, 1) := by decide +kernel
theorem dL_isWell_96 : decode cL_isWell 96 = .ok (.if_icmp .lt 32, 3) := by decide +kernel
theorem dL_isWell_99 : decode cL_isWell 99 = .ok (.aload_n 0, 1) := by decide +kernel
theorem dL_isWell_100 : decode cL_isWell 100 = .ok (.iload 9, 2) := by decide +kernel
theorem dL_isWell_102 : decode cL_isWell 102 = .ok (.iconst 1, 1) := by decide +kernel
theorem dL_isWell_103 : decode cL_isWell 103 = .ok (.invokevirtual 18, 3) := by decide +kernel
theorem dL_isWell_106 : decode cL_isWell 106 = .ok (.iload 5, 2) := by decide +kernel
theorem dL_isWell_108 : decode cL_isWell 108 = .ok (.if_icmp .ne 20, 3) := by decide +kernel
theorem dL_isWell_111 : decode cL_isWell 111 = .ok (.iload 9, 2) := by decide +kernel
theorem dL_isWell_113 : decode cL_isWell 113 = .ok (.bipush 8, 2) := by decide +kernel
theorem dL_isWell_115 : decode cL_isWell 115 = .ok (.if_icmp .lt 9, 3) := by decide +kernel
theorem dL_isWell_118 : decode cL_isWell 118 = .ok (.iload 10, 2) := by decide +kernel
theorem dL_isWell_120 : decode cL_isWell 120 = .ok (.iconst 1, 1) := by decide +kernel
theorem dL_isWell_121 : decode cL_isWell 121 = .ok (.if_icmp .ne 7, 3) := by decide +kernel
theorem dL_isWell_124 : decode cL_isWell 124 = .ok (.iconst 1, 1) := by decide +kernel
theorem dL_isWell_125 : decode cL_isWell 125 = .ok (.goto 4, 3) := by decide +kernel
theorem dL_isWell_128 : decode cL_isWell 128 = .ok (.iconst 0, 1) := by decide +kernel
theorem dL_isWell_129 : decode cL_isWell 129 = .ok (.istore 8, 2) := by decide +kernel
theorem dL_isWell_131 : decode cL_isWell 131 = .ok (.iload 5, 2) := by decide +kernel
theorem dL_isWell_133 : decode cL_isWell 133 = .ok (.iload 10, 2) := by decide +kernel
theorem dL_isWell_135 : decode cL_isWell 135 = .ok (.iadd, 1) := by decide +kernel
theorem dL_isWell_136 : decode cL_isWell 136 = .ok (.istore 5, 2) := by decide +kernel
theorem dL_isWell_138 : decode cL_isWell 138 = .ok (.iload 4, 2) := by decide +kernel
theorem dL_isWell_140 : decode cL_isWell 140 = .ok (.iload 9, 2) := by decide +kernel
theorem dL_isWell_142 : decode cL_isWell 142 = .ok (.bipush 8, 2) := by decide +kernel
theorem dL_isWell_144 : decode cL_isWell 144 = .ok (.if_icmp .ge 13, 3) := by decide +kernel
theorem dL_isWell_147 : decode cL_isWell 147 = .ok (.aload_n 0, 1) := by decide +kernel
theorem dL_isWell_148 : decode cL_isWell 148 = .ok (.iload 9, 2) := by decide +kernel
theorem dL_isWell_150 : decode cL_isWell 150 = .ok (.iconst 2, 1) := by decide +kernel
theorem dL_isWell_151 : decode cL_isWell 151 = .ok (.invokevirtual 18, 3) := by decide +kernel
theorem dL_isWell_154 : decode cL_isWell 154 = .ok (.goto 4, 3) := by decide +kernel
theorem dL_isWell_157 : decode cL_isWell 157 = .ok (.iconst 0, 1) := by decide +kernel
theorem dL_isWell_158 : decode cL_isWell 158 = .ok (.iadd, 1) := by decide +kernel
theorem dL_isWell_159 : decode cL_isWell 159 = .ok (.istore 4, 2) := by decide +kernel
theorem dL_isWell_161 : decode cL_isWell 161 = .ok (.iinc 9 1, 3) := by decide +kernel
theorem dL_isWell_164 : decode cL_isWell 164 = .ok (.goto (-92), 3) := by decide +kernel
theorem dL_isWell_167 : decode cL_isWell 167 = .ok (.iconst 0, 1) := by decide +kernel
theorem dL_isWell_168 : decode cL_isWell 168 = .ok (.istore 9, 2) := by decide +kernel
theorem dL_isWell_170 : decode cL_isWell 170 = .ok (.iload 9, 2) := by decide +kernel
theorem dL_isWell_172 : decode cL_isWell 172 = .ok (.iload_n 1, 1) := by decide +kernel
theorem dL_isWell_173 : decode cL_isWell 173 = .ok (.if_icmp .ge 44, 3) := by decide +kernel
theorem dL_isWell_176 : decode cL_isWell 176 = .ok (.iload 6, 2) := by decide +kernel
theorem dL_isWell_178 : decode cL_isWell 178 = .ok (.aload_n 0, 1) := by decide +kernel
theorem dL_isWell_179 : decode cL_isWell 179 = .ok (.iload 9, 2) := by decide +kernel
theorem dL_isWell_181 : decode cL_isWell 181 = .ok (.invokevirtual 25, 3) := by decide +kernel
theorem dL_isWell_184 : decode cL_isWell 184 = .ok (.iadd, 1) := by decide +kernel
theorem dL_isWell_185 : decode cL_isWell 185 = .ok (.istore 6, 2) := by decide +kernel
theorem dL_isWell_187 : decode cL_isWell 187 = .ok (.aload_n 0, 1) := by decide +kernel
theorem dL_isWell_188 : decode cL_isWell 188 = .ok (.iload 9, 2) := by decide +kernel
theorem dL_isWell_190 : decode cL_isWell 190 = .ok (.invokevirtual 25, 3) := by decide +kernel
theorem dL_isWell_193 : decode cL_isWell 193 = .ok (.iload 7, 2) := by decide +kernel
theorem dL_isWell_195 : decode cL_isWell 195 = .ok (.if_icmp .le 12, 3) := by decide +kernel
theorem dL_isWell_198 : decode cL_isWell 198 = .ok (.aload_n 0, 1) := by decide +kernel
theorem dL_isWell_199 : decode cL_isWell 199 = .ok (.iload 9, 2) := by decide +kernel
theorem dL_isWell_201 : decode cL_isWell 201 = .ok (.invokevirtual 25, 3) := by decide +kernel
theorem dL_isWell_204 : decode cL_isWell 204 = .ok (.goto 5, 3) := by decide +kernel
theorem dL_isWell_207 : decode cL_isWell 207 = .ok (.iload 7, 2) := by decide +kernel
theorem dL_isWell_209 : decode cL_isWell 209 = .ok (.istore 7, 2) := by decide +kernel
theorem dL_isWell_211 : decode cL_isWell 211 = .ok (.iinc 9 1, 3) := by decide +kernel
theorem dL_isWell_214 : decode cL_isWell 214 = .ok (.goto (-44), 3) := by decide +kernel
theorem dL_isWell_217 : decode cL_isWell 217 = .ok (.iload 8, 2) := by decide +kernel
theorem dL_isWell_219 : decode cL_isWell 219 = .ok (.ifCond .eq 67, 3) := by decide +kernel
theorem dL_isWell_222 : decode cL_isWell 222 = .ok (.iload 5, 2) := by decide +kernel
theorem dL_isWell_224 : decode cL_isWell 224 = .ok (.aload_n 0, 1) := by decide +kernel
theorem dL_isWell_225 : decode cL_isWell 225 = .ok (.iconst 5, 1) := by decide +kernel
theorem dL_isWell_226 : decode cL_isWell 226 = .ok (.invokevirtual 9, 3) := by decide +kernel
theorem dL_isWell_229 : decode cL_isWell 229 = .ok (.if_icmp .ne 57, 3) := by decide +kernel
theorem dL_isWell_232 : decode cL_isWell 232 = .ok (.iload 4, 2) := by decide +kernel
theorem dL_isWell_234 : decode cL_isWell 234 = .ok (.iload_n 1, 1) := by decide +kernel
theorem dL_isWell_235 : decode cL_isWell 235 = .ok (.if_icmp .ne 51, 3) := by decide +kernel
theorem dL_isWell_238 : decode cL_isWell 238 = .ok (.iload 7, 2) := by decide +kernel
theorem dL_isWell_240 : decode cL_isWell 240 = .ok (.aload_n 0, 1) := by decide +kernel
theorem dL_isWell_241 : decode cL_isWell 241 = .ok (.bipush 12, 2) := by decide +kernel
theorem dL_isWell_243 : decode cL_isWell 243 = .ok (.invokevirtual 9, 3) := by decide +kernel
theorem dL_isWell_246 : decode cL_isWell 246 = .ok (.if_icmp .ne 40, 3) := by decide +kernel
theorem dL_isWell_249 : decode cL_isWell 249 = .ok (.aload_n 0, 1) := by decide +kernel
theorem dL_isWell_250 : decode cL_isWell 250 = .ok (.bipush 7, 2) := by decide +kernel
theorem dL_isWell_252 : decode cL_isWell 252 = .ok (.invokevirtual 9, 3) := by decide +kernel
theorem dL_isWell_255 : decode cL_isWell 255 = .ok (.iconst 1, 1) := by decide +kernel
theorem dL_isWell_256 : decode cL_isWell 256 = .ok (.if_icmp .ne 16, 3) := by decide +kernel
theorem dL_isWell_259 : decode cL_isWell 259 = .ok (.iload 6, 2) := by decide +kernel
theorem dL_isWell_261 : decode cL_isWell 261 = .ok (.aload_n 0, 1) := by decide +kernel
theorem dL_isWell_262 : decode cL_isWell 262 = .ok (.iconst 1, 1) := by decide +kernel
theorem dL_isWell_263 : decode cL_isWell 263 = .ok (.invokevirtual 9, 3) := by decide +kernel
theorem dL_isWell_266 : decode cL_isWell 266 = .ok (.if_icmp .ge 20, 3) := by decide +kernel
theorem dL_isWell_269 : decode cL_isWell 269 = .ok (.goto 13, 3) := by decide +kernel
theorem dL_isWell_272 : decode cL_isWell 272 = .ok (.iload 6, 2) := by decide +kernel
theorem dL_isWell_274 : decode cL_isWell 274 = .ok (.aload_n 0, 1) := by decide +kernel
theorem dL_isWell_275 : decode cL_isWell 275 = .ok (.iconst 1, 1) := by decide +kernel
theorem dL_isWell_276 : decode cL_isWell 276 = .ok (.invokevirtual 9, 3) := by decide +kernel
theorem dL_isWell_279 : decode cL_isWell 279 = .ok (.if_icmp .ne 7, 3) := by decide +kernel
theorem dL_isWell_282 : decode cL_isWell 282 = .ok (.iconst 1, 1) := by decide +kernel
theorem dL_isWell_283 : decode cL_isWell 283 = .ok (.goto 4, 3) := by decide +kernel
theorem dL_isWell_286 : decode cL_isWell 286 = .ok (.iconst 0, 1) := by decide +kernel
theorem dL_isWell_287 : decode cL_isWell 287 = .ok (.istore 8, 2) := by decide +kernel
theorem dL_isWell_289 : decode cL_isWell 289 = .ok (.iconst 0, 1) := by decide +kernel
theorem dL_isWell_290 : decode cL_isWell 290 = .ok (.istore 9, 2) := by decide +kernel
theorem dL_isWell_292 : decode cL_isWell 292 = .ok (.iload 9, 2) := by decide +kernel
theorem dL_isWell_294 : decode cL_isWell 294 = .ok (.aload_n 0, 1) := by decide +kernel
theorem dL_isWell_295 : decode cL_isWell 295 = .ok (.iconst 1, 1) := by decide +kernel
theorem dL_isWell_296 : decode cL_isWell 296 = .ok (.invokevirtual 9, 3) := by decide +kernel
theorem dL_isWell_299 : decode cL_isWell 299 = .ok (.if_icmp .ge 40, 3) := by decide +kernel
theorem dL_isWell_302 : decode cL_isWell 302 = .ok (.iload 8, 2) := by decide +kernel
theorem dL_isWell_304 : decode cL_isWell 304 = .ok (.ifCond .eq 26, 3) := by decide +kernel
theorem dL_isWell_307 : decode cL_isWell 307 = .ok (.aload_n 0, 1) := by decide +kernel
theorem dL_isWell_308 : decode cL_isWell 308 = .ok (.iload 9, 2) := by decide +kernel
theorem dL_isWell_310 : decode cL_isWell 310 = .ok (.invokevirtual 15, 3) := by decide +kernel
theorem dL_isWell_313 : decode cL_isWell 313 = .ok (.ifCond .eq 13, 3) := by decide +kernel
theorem dL_isWell_316 : decode cL_isWell 316 = .ok (.aload_n 0, 1) := by decide +kernel
theorem dL_isWell_317 : decode cL_isWell 317 = .ok (.iload 9, 2) := by decide +kernel
theorem dL_isWell_319 : decode cL_isWell 319 = .ok (.invokevirtual 15, 3) := by decide +kernel
theorem dL_isWell_322 : decode cL_isWell 322 = .ok (.iconst 1, 1) := by decide +kernel
theorem dL_isWell_323 : decode cL_isWell 323 = .ok (.if_icmp .ne 7, 3) := by decide +kernel
theorem dL_isWell_326 : decode cL_isWell 326 = .ok (.iconst 1, 1) := by decide +kernel
theorem dL_isWell_327 : decode cL_isWell 327 = .ok (.goto 4, 3) := by decide +kernel
theorem dL_isWell_330 : decode cL_isWell 330 = .ok (.iconst 0, 1) := by decide +kernel
theorem dL_isWell_331 : decode cL_isWell 331 = .ok (.istore 8, 2) := by decide +kernel
theorem dL_isWell_333 : decode cL_isWell 333 = .ok (.iinc 9 1, 3) := by decide +kernel
theorem dL_isWell_336 : decode cL_isWell 336 = .ok (.goto (-44), 3) := by decide +kernel
theorem dL_isWell_339 : decode cL_isWell 339 = .ok (.iload 8, 2) := by decide +kernel
theorem dL_isWell_341 : decode cL_isWell 341 = .ok (.ifCond .eq 76, 3) := by decide +kernel
theorem dL_isWell_344 : decode cL_isWell 344 = .ok (.aload_n 0, 1) := by decide +kernel
theorem dL_isWell_345 : decode cL_isWell 345 = .ok (.aload_n 0, 1) := by decide +kernel
theorem dL_isWell_346 : decode cL_isWell 346 = .ok (.iconst 1, 1) := by decide +kernel
theorem dL_isWell_347 : decode cL_isWell 347 = .ok (.invokevirtual 9, 3) := by decide +kernel
theorem dL_isWell_350 : decode cL_isWell 350 = .ok (.invokevirtual 15, 3) := by decide +kernel
theorem dL_isWell_353 : decode cL_isWell 353 = .ok (.bipush (-4), 2) := by decide +kernel
theorem dL_isWell_355 : decode cL_isWell 355 = .ok (.if_icmp .ne 62, 3) := by decide +kernel
theorem dL_isWell_358 : decode cL_isWell 358 = .ok (.aload_n 0, 1) := by decide +kernel
theorem dL_isWell_359 : decode cL_isWell 359 = .ok (.iconst 0, 1) := by decide +kernel
theorem dL_isWell_360 : decode cL_isWell 360 = .ok (.invokevirtual 40, 3) := by decide +kernel
theorem dL_isWell_363 : decode cL_isWell 363 = .ok (.bipush 40, 2) := by decide +kernel
theorem dL_isWell_365 : decode cL_isWell 365 = .ok (.if_icmp .gt 52, 3) := by decide +kernel
theorem dL_isWell_368 : decode cL_isWell 368 = .ok (.aload_n 0, 1) := by decide +kernel
theorem dL_isWell_369 : decode cL_isWell 369 = .ok (.bipush 7, 2) := by decide +kernel
theorem dL_isWell_371 : decode cL_isWell 371 = .ok (.invokevirtual 9, 3) := by decide +kernel
theorem dL_isWell_374 : decode cL_isWell 374 = .ok (.ifCond .eq 39, 3) := by decide +kernel
theorem dL_isWell_377 : decode cL_isWell 377 = .ok (.aload_n 0, 1) := by decide +kernel
theorem dL_isWell_378 : decode cL_isWell 378 = .ok (.iconst 2, 1) := by decide +kernel
theorem dL_isWell_379 : decode cL_isWell 379 = .ok (.invokevirtual 40, 3) := by decide +kernel
theorem dL_isWell_382 : decode cL_isWell 382 = .ok (.iload_n 1, 1) := by decide +kernel
theorem dL_isWell_383 : decode cL_isWell 383 = .ok (.if_icmp .ne 34, 3) := by decide +kernel
theorem dL_isWell_386 : decode cL_isWell 386 = .ok (.aload_n 0, 1) := by decide +kernel
theorem dL_isWell_387 : decode cL_isWell 387 = .ok (.iconst 1, 1) := by decide +kernel
theorem dL_isWell_388 : decode cL_isWell 388 = .ok (.invokevirtual 40, 3) := by decide +kernel
theorem dL_isWell_391 : decode cL_isWell 391 = .ok (.iconst 1, 1) := by decide +kernel
theorem dL_isWell_392 : decode cL_isWell 392 = .ok (.if_icmp .ne 25, 3) := by decide +kernel
theorem dL_isWell_395 : decode cL_isWell 395 = .ok (.aload_n 0, 1) := by decide +kernel
theorem dL_isWell_396 : decode cL_isWell 396 = .ok (.aload_n 0, 1) := by decide +kernel
theorem dL_isWell_397 : decode cL_isWell 397 = .ok (.bipush 10, 2) := by decide +kernel
theorem dL_isWell_399 : decode cL_isWell 399 = .ok (.invokevirtual 9, 3) := by decide +kernel
theorem dL_isWell_402 : decode cL_isWell 402 = .ok (.invokevirtual 60, 3) := by decide +kernel
theorem dL_isWell_405 : decode cL_isWell 405 = .ok (.aload_n 0, 1) := by decide +kernel
theorem dL_isWell_406 : decode cL_isWell 406 = .ok (.iconst 1, 1) := by decide +kernel
theorem dL_isWell_407 : decode cL_isWell 407 = .ok (.invokevirtual 9, 3) := by decide +kernel
theorem dL_isWell_410 : decode cL_isWell 410 = .ok (.if_icmp .ne 7, 3) := by decide +kernel
theorem dL_isWell_413 : decode cL_isWell 413 = .ok (.iconst 1, 1) := by decide +kernel
theorem dL_isWell_414 : decode cL_isWell 414 = .ok (.goto 4, 3) := by decide +kernel
theorem dL_isWell_417 : decode cL_isWell 417 = .ok (.iconst 0, 1) := by decide +kernel
theorem dL_isWell_418 : decode cL_isWell 418 = .ok (.ireturn, 1) := by decide +kernel
theorem dL_isText_0 : decode cL_isText 0 = .ok (.aload_n 0, 1) := by decide +kernel
theorem dL_isText_1 : decode cL_isText 1 = .ok (.iconst 1, 1) := by decide +kernel
theorem dL_isText_2 : decode cL_isText 2 = .ok (.invokevirtual 9, 3) := by decide +kernel
theorem dL_isText_5 : decode cL_isText 5 = .ok (.istore_n 2, 1) := by decide +kernel
theorem dL_isText_6 : decode cL_isText 6 = .ok (.aload_n 0, 1) := by decide +kernel
theorem dL_isText_7 : decode cL_isText 7 = .ok (.iconst 0, 1) := by decide +kernel
theorem dL_isText_8 : decode cL_isText 8 = .ok (.invokevirtual 9, 3) := by decide +kernel
theorem dL_isText_11 : decode cL_isText 11 = .ok (.istore_n 3, 1) := by decide +kernel
theorem dL_isText_12 : decode cL_isText 12 = .ok (.aload_n 0, 1) := by decide +kernel
theorem dL_isText_13 : decode cL_isText 13 = .ok (.invokevirtual 63, 3) := by decide +kernel
theorem dL_isText_16 : decode cL_isText 16 = .ok (.bipush (-3), 2) := by decide +kernel
theorem dL_isText_18 : decode cL_isText 18 = .ok (.if_icmp .ne 15, 3) := by decide +kernel
theorem dL_isText_21 : decode cL_isText 21 = .ok (.iload_n 2, 1) := by decide +kernel
theorem dL_isText_22 : decode cL_isText 22 = .ok (.bipush 120, 2) := by decide +kernel
theorem dL_isText_24 : decode cL_isText 24 = .ok (.if_icmp .le 7, 3) := by decide +kernel
theorem dL_isText_27 : decode cL_isText 27 = .ok (.iconst 1, 1) := by decide +kernel
theorem dL_isText_28 : decode cL_isText 28 = .ok (.goto 4, 3) := by decide +kernel
theorem dL_isText_31 : decode cL_isText 31 = .ok (.iconst 0, 1) := by decide +kernel
theorem dL_isText_32 : decode cL_isText 32 = .ok (.ireturn, 1) := by decide +kernel
theorem dL_isText_33 : decode cL_isText 33 = .ok (.aload_n 0, 1) := by decide +kernel
theorem dL_isText_34 : decode cL_isText 34 = .ok (.bipush 7, 2) := by decide +kernel
theorem dL_isText_36 : decode cL_isText 36 = .ok (.invokevirtual 9, 3) := by decide +kernel
theorem dL_isText_39 : decode cL_isText 39 = .ok (.ifCond .ne 38, 3) := by decide +kernel
theorem dL_isText_42 : decode cL_isText 42 = .ok (.aload_n 0, 1) := by decide +kernel
theorem dL_isText_43 : decode cL_isText 43 = .ok (.bipush 9, 2) := by decide +kernel
theorem dL_isText_45 : decode cL_isText 45 = .ok (.invokevirtual 9, 3) := by decide +kernel
theorem dL_isText_48 : decode cL_isText 48 = .ok (.iload_n 2, 1) := by decide +kernel
theorem dL_isText_49 : decode cL_isText 49 = .ok (.if_icmp .ne 26, 3) := by decide +kernel
theorem dL_isText_52 : decode cL_isText 52 = .ok (.aload_n 0, 1) := by decide +kernel
theorem dL_isText_53 : decode cL_isText 53 = .ok (.iconst 1, 1) := by decide +kernel
theorem dL_isText_54 : decode cL_isText 54 = .ok (.invokevirtual 66, 3) := by decide +kernel
theorem dL_isText_57 : decode cL_isText 57 = .ok (.bipush (-4), 2) := by decide +kernel
theorem dL_isText_59 : decode cL_isText 59 = .ok (.if_icmp .eq 12, 3) := by decide +kernel
theorem dL_isText_62 : decode cL_isText 62 = .ok (.aload_n 0, 1) := by decide +kernel
theorem dL_isText_63 : decode cL_isText 63 = .ok (.iconst 1, 1) := by decide +kernel
theorem dL_isText_64 : decode cL_isText 64 = .ok (.invokevirtual 66, 3) := by decide +kernel
theorem dL_isText_67 : decode cL_isText 67 = .ok (.iconst 1, 1) := by decide +kernel
theorem dL_isText_68 : decode cL_isText 68 = .ok (.if_icmp .le 7, 3) := by decide +kernel
theorem dL_isText_71 : decode cL_isText 71 = .ok (.iconst 1, 1) := by decide +kernel
theorem dL_isText_72 : decode cL_isText 72 = .ok (.goto 4, 3) := by decide +kernel
theorem dL_isText_75 : decode cL_isText 75 = .ok (.iconst 0, 1) := by decide +kernel
theorem dL_isText_76 : decode cL_isText 76 = .ok (.ireturn, 1) := by decide +kernel
theorem dL_isText_77 : decode cL_isText 77 = .ok (.aload_n 0, 1) := by decide +kernel
theorem dL_isText_78 : decode cL_isText 78 = .ok (.iconst 1, 1) := by decide +kernel
theorem dL_isText_79 : decode cL_isText 79 = .ok (.invokevirtual 66, 3) := by decide +kernel
theorem dL_isText_82 : decode cL_isText 82 = .ok (.bipush (-4), 2) := by decide +kernel
theorem dL_isText_84 : decode cL_isText 84 = .ok (.if_icmp .ne 17, 3) := by decide +kernel
theorem dL_isText_87 : decode cL_isText 87 = .ok (.aload_n 0, 1) := by decide +kernel
theorem dL_isText_88 : decode cL_isText 88 = .ok (.iload_n 3, 1) := by decide +kernel
theorem dL_isText_89 : decode cL_isText 89 = .ok (.invokevirtual 69, 3) := by decide +kernel
theorem dL_isText_92 : decode cL_isText 92 = .ok (.bipush (-4), 2) := by decide +kernel
theorem dL_isText_94 : decode cL_isText 94 = .ok (.if_icmp .ne 7, 3) := by decide +kernel
theorem dL_isText_97 : decode cL_isText 97 = .ok (.iconst 1, 1) := by decide +kernel
theorem dL_isText_98 : decode cL_isText 98 = .ok (.goto 4, 3) := by decide +kernel
theorem dL_isText_101 : decode cL_isText 101 = .ok (.iconst 0, 1) := by decide +kernel
theorem dL_isText_102 : decode cL_isText 102 = .ok (.istore 4, 2) := by decide +kernel
theorem dL_isText_104 : decode cL_isText 104 = .ok (.iconst 0, 1) := by decide +kernel
theorem dL_isText_105 : decode cL_isText 105 = .ok (.istore 5, 2) := by decide +kernel
theorem dL_isText_107 : decode cL_isText 107 = .ok (.iload 5, 2) := by decide +kernel
theorem dL_isText_109 : decode cL_isText 109 = .ok (.iload_n 3, 1) := by decide +kernel
theorem dL_isText_110 : decode cL_isText 110 = .ok (.if_icmp .ge 36, 3) := by decide +kernel
theorem dL_isText_113 : decode cL_isText 113 = .ok (.iload 4, 2) := by decide +kernel
theorem dL_isText_115 : decode cL_isText 115 = .ok (.ifCond .eq 22, 3) := by decide +kernel
theorem dL_isText_118 : decode cL_isText 118 = .ok (.aload_n 0, 1) := by decide +kernel
theorem dL_isText_119 : decode cL_isText 119 = .ok (.iload 5, 2) := by decide +kernel
theorem dL_isText_121 : decode cL_isText 121 = .ok (.invokevirtual 69, 3) := by decide +kernel
theorem dL_isText_124 : decode cL_isText 124 = .ok (.aload_n 0, 1) := by decide +kernel
theorem dL_isText_125 : decode cL_isText 125 = .ok (.iload 5, 2) := by decide +kernel
theorem dL_isText_127 : decode cL_isText 127 = .ok (.invokevirtual 28, 3) := by decide +kernel
theorem dL_isText_130 : decode cL_isText 130 = .ok (.if_icmp .ne 7, 3) := by decide +kernel
theorem dL_isText_133 : decode cL_isText 133 = .ok (.iconst 1, 1) := by decide +kernel
theorem dL_isText_134 : decode cL_isText 134 = .ok (.goto 4, 3) := by decide +kernel
theorem dL_isText_137 : decode cL_isText 137 = .ok (.iconst 0, 1) := by decide +kernel
theorem dL_isText_138 : decode cL_isText 138 = .ok (.istore 4, 2) := by decide +kernel
theorem dL_isText_140 : decode cL_isText 140 = .ok (.iinc 5 1, 3) := by decide +kernel
theorem dL_isText_143 : decode cL_isText 143 = .ok (.goto (-36), 3) := by decide +kernel
theorem dL_isText_146 : decode cL_isText 146 = .ok (.iload_n 1, 1) := by decide +kernel
theorem dL_isText_147 : decode cL_isText 147 = .ok (.iload_n 2, 1) := by decide +kernel
theorem dL_isText_148 : decode cL_isText 148 = .ok (.invokestatic 31, 3) := by decide +kernel
theorem dL_isText_151 : decode cL_isText 151 = .ok (.istore 5, 2) := by decide +kernel
theorem dL_isText_153 : decode cL_isText 153 = .ok (.iload 4, 2) := by decide +kernel
theorem dL_isText_155 : decode cL_isText 155 = .ok (.ifCond .eq 15, 3) := by decide +kernel
theorem dL_isText_158 : decode cL_isText 158 = .ok (.aload_n 0, 1) := by decide +kernel
theorem dL_isText_159 : decode cL_isText 159 = .ok (.invokevirtual 72, 3) := by decide +kernel
theorem dL_isText_162 : decode cL_isText 162 = .ok (.iload_n 2, 1) := by decide +kernel
theorem dL_isText_163 : decode cL_isText 163 = .ok (.if_icmp .ne 7, 3) := by decide +kernel
theorem dL_isText_166 : decode cL_isText 166 = .ok (.iconst 1, 1) := by decide +kernel
theorem dL_isText_167 : decode cL_isText 167 = .ok (.goto 4, 3) := by decide +kernel
theorem dL_isText_170 : decode cL_isText 170 = .ok (.iconst 0, 1) := by decide +kernel
theorem dL_isText_171 : decode cL_isText 171 = .ok (.istore 4, 2) := by decide +kernel
theorem dL_isText_173 : decode cL_isText 173 = .ok (.iconst 0, 1) := by decide +kernel
theorem dL_isText_174 : decode cL_isText 174 = .ok (.istore 6, 2) := by decide +kernel
theorem dL_isText_176 : decode cL_isText 176 = .ok (.iload 6, 2) := by decide +kernel
theorem dL_isText_178 : decode cL_isText 178 = .ok (.iload_n 2, 1) := by decide +kernel
theorem dL_isText_179 : decode cL_isText 179 = .ok (.if_icmp .ge 59, 3) := by decide +kernel
theorem dL_isText_182 : decode cL_isText 182 = .ok (.iload 4, 2) := by decide +kernel
theorem dL_isText_184 : decode cL_isText 184 = .ok (.ifCond .eq 45, 3) := by decide +kernel
theorem dL_isText_187 : decode cL_isText 187 = .ok (.aload_n 0, 1) := by decide +kernel
theorem dL_isText_188 : decode cL_isText 188 = .ok (.bipush 48, 2) := by decide +kernel
theorem dL_isText_190 : decode cL_isText 190 = .ok (.iload 6, 2) := by decide +kernel
theorem dL_isText_192 : decode cL_isText 192 = .ok (.iload 5, 2) := by decide +kernel
theorem dL_isText_194 : decode cL_isText 194 = .ok (.if_icmp .ne 14, 3) := by decide +kernel
theorem dL_isText_197 : decode cL_isText 197 = .ok (.iconst 1, 1) := by decide +kernel
theorem dL_isText_198 : decode cL_isText 198 = .ok (.aload_n 0, 1) := by decide +kernel
theorem dL_isText_199 : decode cL_isText 199 = .ok (.iload 6, 2) := by decide +kernel
theorem dL_isText_201 : decode cL_isText 201 = .ok (.invokevirtual 15, 3) := by decide +kernel
theorem dL_isText_204 : decode cL_isText 204 = .ok (.isub, 1) := by decide +kernel
theorem dL_isText_205 : decode cL_isText 205 = .ok (.goto 9, 3) := by decide +kernel
theorem dL_isText_208 : decode cL_isText 208 = .ok (.aload_n 0, 1) := by decide +kernel
theorem dL_isText_209 : decode cL_isText 209 = .ok (.iload 6, 2) := by decide +kernel
theorem dL_isText_211 : decode cL_isText 211 = .ok (.invokevirtual 15, 3) := by decide +kernel
theorem dL_isText_214 : decode cL_isText 214 = .ok (.iadd, 1) := by decide +kernel
theorem dL_isText_215 : decode cL_isText 215 = .ok (.invokevirtual 75, 3) := by decide +kernel
theorem dL_isText_218 : decode cL_isText 218 = .ok (.iload 6, 2) := by decide +kernel
theorem dL_isText_220 : decode cL_isText 220 = .ok (.iconst 1, 1) := by decide +kernel
theorem dL_isText_221 : decode cL_isText 221 = .ok (.iadd, 1) := by decide +kernel
theorem dL_isText_222 : decode cL_isText 222 = .ok (.if_icmp .ne 7, 3) := by decide +kernel
theorem dL_isText_225 : decode cL_isText 225 = .ok (.iconst 1, 1) := by decide +kernel
theorem dL_isText_226 : decode cL_isText 226 = .ok (.goto 4, 3) := by decide +kernel
theorem dL_isText_229 : decode cL_isText 229 = .ok (.iconst 0, 1) := by decide +kernel
theorem dL_isText_230 : decode cL_isText 230 = .ok (.istore 4, 2) := by decide +kernel
theorem dL_isText_232 : decode cL_isText 232 = .ok (.iinc 6 1, 3) := by decide +kernel
theorem dL_isText_235 : decode cL_isText 235 = .ok (.goto (-59), 3) := by decide +kernel
theorem dL_isText_238 : decode cL_isText 238 = .ok (.aload_n 0, 1) := by decide +kernel
theorem dL_isText_239 : decode cL_isText 239 = .ok (.iconst 1, 1) := by decide +kernel
theorem dL_isText_240 : decode cL_isText 240 = .ok (.invokevirtual 66, 3) := by decide +kernel
theorem dL_isText_243 : decode cL_isText 243 = .ok (.istore 6, 2) := by decide +kernel
theorem dL_isText_245 : decode cL_isText 245 = .ok (.iload 6, 2) := by decide +kernel
theorem dL_isText_247 : decode cL_isText 247 = .ok (.ifCond .le 67, 3) := by decide +kernel
theorem dL_isText_250 : decode cL_isText 250 = .ok (.iload 4, 2) := by decide +kernel
theorem dL_isText_252 : decode cL_isText 252 = .ok (.ifCond .eq 60, 3) := by decide +kernel
theorem dL_isText_255 : decode cL_isText 255 = .ok (.iload 6, 2) := by decide +kernel
theorem dL_isText_257 : decode cL_isText 257 = .ok (.iconst 2, 1) := by decide +kernel
theorem dL_isText_258 : decode cL_isText 258 = .ok (.if_icmp .ne 15, 3) := by decide +kernel
theorem dL_isText_261 : decode cL_isText 261 = .ok (.aload_n 0, 1) := by decide +kernel
theorem dL_isText_262 : decode cL_isText 262 = .ok (.iconst 0, 1) := by decide +kernel
theorem dL_isText_263 : decode cL_isText 263 = .ok (.invokevirtual 66, 3) := by decide +kernel
theorem dL_isText_266 : decode cL_isText 266 = .ok (.iload_n 2, 1) := by decide +kernel
theorem dL_isText_267 : decode cL_isText 267 = .ok (.if_icmp .ne 45, 3) := by decide +kernel
theorem dL_isText_270 : decode cL_isText 270 = .ok (.goto 28, 3) := by decide +kernel
theorem dL_isText_273 : decode cL_isText 273 = .ok (.iload 6, 2) := by decide +kernel
theorem dL_isText_275 : decode cL_isText 275 = .ok (.iconst 3, 1) := by decide +kernel
theorem dL_isText_276 : decode cL_isText 276 = .ok (.if_icmp .ne 36, 3) := by decide +kernel
theorem dL_isText_279 : decode cL_isText 279 = .ok (.aload_n 0, 1) := by decide +kernel
theorem dL_isText_280 : decode cL_isText 280 = .ok (.iconst 0, 1) := by decide +kernel
theorem dL_isText_281 : decode cL_isText 281 = .ok (.invokevirtual 66, 3) := by decide +kernel
theorem dL_isText_284 : decode cL_isText 284 = .ok (.bipush 16, 2) := by decide +kernel
theorem dL_isText_286 : decode cL_isText 286 = .ok (.if_icmp .lt 26, 3) := by decide +kernel
theorem dL_isText_289 : decode cL_isText 289 = .ok (.aload_n 0, 1) := by decide +kernel
theorem dL_isText_290 : decode cL_isText 290 = .ok (.iconst 0, 1) := by decide +kernel
theorem dL_isText_291 : decode cL_isText 291 = .ok (.invokevirtual 66, 3) := by decide +kernel
theorem dL_isText_294 : decode cL_isText 294 = .ok (.iload_n 2, 1) := by decide +kernel
theorem dL_isText_295 : decode cL_isText 295 = .ok (.if_icmp .ge 17, 3) := by decide +kernel
theorem dL_isText_298 : decode cL_isText 298 = .ok (.aload_n 0, 1) := by decide +kernel
theorem dL_isText_299 : decode cL_isText 299 = .ok (.iconst 0, 1) := by decide +kernel
theorem dL_isText_300 : decode cL_isText 300 = .ok (.invokevirtual 69, 3) := by decide +kernel
theorem dL_isText_303 : decode cL_isText 303 = .ok (.bipush (-2), 2) := by decide +kernel
theorem dL_isText_305 : decode cL_isText 305 = .ok (.if_icmp .ne 7, 3) := by decide +kernel
theorem dL_isText_308 : decode cL_isText 308 = .ok (.iconst 1, 1) := by decide +kernel
theorem dL_isText_309 : decode cL_isText 309 = .ok (.goto 4, 3) := by decide +kernel
theorem dL_isText_312 : decode cL_isText 312 = .ok (.iconst 0, 1) := by decide +kernel
theorem dL_isText_313 : decode cL_isText 313 = .ok (.ireturn, 1) := by decide +kernel
theorem dL_isText_314 : decode cL_isText 314 = .ok (.iconst 0, 1) := by decide +kernel
theorem dL_isText_315 : decode cL_isText 315 = .ok (.istore 7, 2) := by decide +kernel
theorem dL_isText_317 : decode cL_isText 317 = .ok (.iload 7, 2) := by decide +kernel
theorem dL_isText_319 : decode cL_isText 319 = .ok (.iload_n 3, 1) := by decide +kernel
theorem dL_isText_320 : decode cL_isText 320 = .ok (.if_icmp .ge 24, 3) := by decide +kernel
theorem dL_isText_323 : decode cL_isText 323 = .ok (.aload_n 0, 1) := by decide +kernel
theorem dL_isText_324 : decode cL_isText 324 = .ok (.iload 7, 2) := by decide +kernel
theorem dL_isText_326 : decode cL_isText 326 = .ok (.invokevirtual 69, 3) := by decide +kernel
theorem dL_isText_329 : decode cL_isText 329 = .ok (.aload_n 0, 1) := by decide +kernel
theorem dL_isText_330 : decode cL_isText 330 = .ok (.iload 7, 2) := by decide +kernel
theorem dL_isText_332 : decode cL_isText 332 = .ok (.invokevirtual 28, 3) := by decide +kernel
theorem dL_isText_335 : decode cL_isText 335 = .ok (.if_icmp .ne 9, 3) := by decide +kernel
theorem dL_isText_338 : decode cL_isText 338 = .ok (.iinc 7 1, 3) := by decide +kernel
theorem dL_isText_341 : decode cL_isText 341 = .ok (.goto (-24), 3) := by decide +kernel
theorem dL_isText_344 : decode cL_isText 344 = .ok (.iload 4, 2) := by decide +kernel
theorem dL_isText_346 : decode cL_isText 346 = .ok (.ifCond .eq 38, 3) := by decide +kernel
theorem dL_isText_349 : decode cL_isText 349 = .ok (.iload 6, 2) := by decide +kernel
theorem dL_isText_351 : decode cL_isText 351 = .ok (.bipush (-4), 2) := by decide +kernel
theorem dL_isText_353 : decode cL_isText 353 = .ok (.if_icmp .ne 31, 3) := by decide +kernel
theorem dL_isText_356 : decode cL_isText 356 = .ok (.iload 7, 2) := by decide +kernel
theorem dL_isText_358 : decode cL_isText 358 = .ok (.iload_n 3, 1) := by decide +kernel
theorem dL_isText_359 : decode cL_isText 359 = .ok (.if_icmp .lt 21, 3) := by decide +kernel
theorem dL_isText_362 : decode cL_isText 362 = .ok (.aload_n 0, 1) := by decide +kernel
theorem dL_isText_363 : decode cL_isText 363 = .ok (.iload_n 3, 1) := by decide +kernel
theorem dL_isText_364 : decode cL_isText 364 = .ok (.invokevirtual 69, 3) := by decide +kernel
theorem dL_isText_367 : decode cL_isText 367 = .ok (.ifCond .ge 13, 3) := by decide +kernel
theorem dL_isText_370 : decode cL_isText 370 = .ok (.aload_n 0, 1) := by decide +kernel
theorem dL_isText_371 : decode cL_isText 371 = .ok (.iload_n 3, 1) := by decide +kernel
theorem dL_isText_372 : decode cL_isText 372 = .ok (.invokevirtual 69, 3) := by decide +kernel
theorem dL_isText_375 : decode cL_isText 375 = .ok (.bipush (-4), 2) := by decide +kernel
theorem dL_isText_377 : decode cL_isText 377 = .ok (.if_icmp .ne 7, 3) := by decide +kernel
theorem dL_isText_380 : decode cL_isText 380 = .ok (.iconst 1, 1) := by decide +kernel
theorem dL_isText_381 : decode cL_isText 381 = .ok (.goto 4, 3) := by decide +kernel
theorem dL_isText_384 : decode cL_isText 384 = .ok (.iconst 0, 1) := by decide +kernel
theorem dL_isText_385 : decode cL_isText 385 = .ok (.ireturn, 1) := by decide +kernel
theorem dL_law_0 : decode cL_law 0 = .ok (.new 10, 3) := by decide +kernel
theorem dL_law_3 : decode cL_law 3 = .ok (.dup, 1) := by decide +kernel
theorem dL_law_4 : decode cL_law 4 = .ok (.invokespecial 78, 3) := by decide +kernel
theorem dL_law_7 : decode cL_law 7 = .ok (.astore_n 1, 1) := by decide +kernel
theorem dL_law_8 : decode cL_law 8 = .ok (.iconst 1, 1) := by decide +kernel
theorem dL_law_9 : decode cL_law 9 = .ok (.istore_n 2, 1) := by decide +kernel
theorem dL_law_10 : decode cL_law 10 = .ok (.iconst 0, 1) := by decide +kernel
theorem dL_law_11 : decode cL_law 11 = .ok (.istore_n 3, 1) := by decide +kernel
theorem dL_law_12 : decode cL_law 12 = .ok (.iload_n 3, 1) := by decide +kernel
theorem dL_law_13 : decode cL_law 13 = .ok (.bipush 58, 2) := by decide +kernel
theorem dL_law_15 : decode cL_law 15 = .ok (.if_icmp .ge 45, 3) := by decide +kernel
theorem dL_law_18 : decode cL_law 18 = .ok (.iload_n 2, 1) := by decide +kernel
theorem dL_law_19 : decode cL_law 19 = .ok (.ifCond .eq 41, 3) := by decide +kernel
theorem dL_law_22 : decode cL_law 22 = .ok (.aload_n 1, 1) := by decide +kernel
theorem dL_law_23 : decode cL_law 23 = .ok (.aload_n 0, 1) := by decide +kernel
theorem dL_law_24 : decode cL_law 24 = .ok (.iload_n 3, 1) := by decide +kernel
theorem dL_law_25 : decode cL_law 25 = .ok (.invokestatic 79, 3) := by decide +kernel
theorem dL_law_28 : decode cL_law 28 = .ok (.invokestatic 83, 3) := by decide +kernel
theorem dL_law_31 : decode cL_law 31 = .ok (.ifCond .eq 21, 3) := by decide +kernel
theorem dL_law_34 : decode cL_law 34 = .ok (.iload_n 3, 1) := by decide +kernel
theorem dL_law_35 : decode cL_law 35 = .ok (.bipush 6, 2) := by decide +kernel
theorem dL_law_37 : decode cL_law 37 = .ok (.irem, 1) := by decide +kernel
theorem dL_law_38 : decode cL_law 38 = .ok (.ifCond .gt 10, 3) := by decide +kernel
theorem dL_law_41 : decode cL_law 41 = .ok (.aload_n 1, 1) := by decide +kernel
theorem dL_law_42 : decode cL_law 42 = .ok (.invokestatic 86, 3) := by decide +kernel
theorem dL_law_45 : decode cL_law 45 = .ok (.ifCond .eq 7, 3) := by decide +kernel
theorem dL_law_48 : decode cL_law 48 = .ok (.iconst 1, 1) := by decide +kernel
theorem dL_law_49 : decode cL_law 49 = .ok (.goto 4, 3) := by decide +kernel
theorem dL_law_52 : decode cL_law 52 = .ok (.iconst 0, 1) := by decide +kernel
theorem dL_law_53 : decode cL_law 53 = .ok (.istore_n 2, 1) := by decide +kernel
theorem dL_law_54 : decode cL_law 54 = .ok (.iinc 3 1, 3) := by decide +kernel
theorem dL_law_57 : decode cL_law 57 = .ok (.goto (-45), 3) := by decide +kernel
theorem dL_law_60 : decode cL_law 60 = .ok (.iload_n 2, 1) := by decide +kernel
theorem dL_law_61 : decode cL_law 61 = .ok (.ifCond .eq 27, 3) := by decide +kernel
theorem dL_law_64 : decode cL_law 64 = .ok (.aload_n 1, 1) := by decide +kernel
theorem dL_law_65 : decode cL_law 65 = .ok (.invokestatic 86, 3) := by decide +kernel
theorem dL_law_68 : decode cL_law 68 = .ok (.ifCond .eq 20, 3) := by decide +kernel
theorem dL_law_71 : decode cL_law 71 = .ok (.aload_n 1, 1) := by decide +kernel
theorem dL_law_72 : decode cL_law 72 = .ok (.aload_n 0, 1) := by decide +kernel
theorem dL_law_73 : decode cL_law 73 = .ok (.bipush 58, 2) := by decide +kernel
theorem dL_law_75 : decode cL_law 75 = .ok (.invokestatic 79, 3) := by decide +kernel
theorem dL_law_78 : decode cL_law 78 = .ok (.invokestatic 90, 3) := by decide +kernel
theorem dL_law_81 : decode cL_law 81 = .ok (.ifCond .eq 7, 3) := by decide +kernel
theorem dL_law_84 : decode cL_law 84 = .ok (.iconst 1, 1) := by decide +kernel
theorem dL_law_85 : decode cL_law 85 = .ok (.goto 4, 3) := by decide +kernel
theorem dL_law_88 : decode cL_law 88 = .ok (.iconst 0, 1) := by decide +kernel
theorem dL_law_89 : decode cL_law 89 = .ok (.istore_n 2, 1) := by decide +kernel
theorem dL_law_90 : decode cL_law 90 = .ok (.iload_n 2, 1) := by decide +kernel
theorem dL_law_91 : decode cL_law 91 = .ok (.ifCond .eq 44, 3) := by decide +kernel
theorem dL_law_94 : decode cL_law 94 = .ok (.aload_n 1, 1) := by decide +kernel
theorem dL_law_95 : decode cL_law 95 = .ok (.bipush 7, 2) := by decide +kernel
theorem dL_law_97 : decode cL_law 97 = .ok (.invokevirtual 9, 3) := by decide +kernel
theorem dL_law_100 : decode cL_law 100 = .ok (.iconst 1, 1) := by decide +kernel
theorem dL_law_101 : decode cL_law 101 = .ok (.if_icmp .eq 10, 3) := by decide +kernel
theorem dL_law_104 : decode cL_law 104 = .ok (.aload_n 1, 1) := by decide +kernel
theorem dL_law_105 : decode cL_law 105 = .ok (.invokevirtual 36, 3) := by decide +kernel
theorem dL_law_108 : decode cL_law 108 = .ok (.ifCond .le 27, 3) := by decide +kernel
theorem dL_law_111 : decode cL_law 111 = .ok (.aload_n 1, 1) := by decide +kernel
theorem dL_law_112 : decode cL_law 112 = .ok (.invokestatic 86, 3) := by decide +kernel
theorem dL_law_115 : decode cL_law 115 = .ok (.ifCond .eq 20, 3) := by decide +kernel
theorem dL_law_118 : decode cL_law 118 = .ok (.aload_n 1, 1) := by decide +kernel
theorem dL_law_119 : decode cL_law 119 = .ok (.aload_n 0, 1) := by decide +kernel
theorem dL_law_120 : decode cL_law 120 = .ok (.bipush 59, 2) := by decide +kernel
theorem dL_law_122 : decode cL_law 122 = .ok (.invokestatic 79, 3) := by decide +kernel
theorem dL_law_125 : decode cL_law 125 = .ok (.invokestatic 90, 3) := by decide +kernel
theorem dL_law_128 : decode cL_law 128 = .ok (.ifCond .eq 7, 3) := by decide +kernel
theorem dL_law_131 : decode cL_law 131 = .ok (.iconst 1, 1) := by decide +kernel
theorem dL_law_132 : decode cL_law 132 = .ok (.goto 4, 3) := by decide +kernel
theorem dL_law_135 : decode cL_law 135 = .ok (.iconst 0, 1) := by decide +kernel
theorem dL_law_136 : decode cL_law 136 = .ok (.istore_n 2, 1) := by decide +kernel
theorem dL_law_137 : decode cL_law 137 = .ok (.iload_n 2, 1) := by decide +kernel
theorem dL_law_138 : decode cL_law 138 = .ok (.ifCond .eq 23, 3) := by decide +kernel
theorem dL_law_141 : decode cL_law 141 = .ok (.aload_n 1, 1) := by decide +kernel
theorem dL_law_142 : decode cL_law 142 = .ok (.aload_n 1, 1) := by decide +kernel
theorem dL_law_143 : decode cL_law 143 = .ok (.invokevirtual 93, 3) := by decide +kernel
theorem dL_law_146 : decode cL_law 146 = .ok (.invokevirtual 60, 3) := by decide +kernel
theorem dL_law_149 : decode cL_law 149 = .ok (.aload_n 1, 1) := by decide +kernel
theorem dL_law_150 : decode cL_law 150 = .ok (.iconst 1, 1) := by decide +kernel
theorem dL_law_151 : decode cL_law 151 = .ok (.invokevirtual 9, 3) := by decide +kernel
theorem dL_law_154 : decode cL_law 154 = .ok (.if_icmp .gt 7, 3) := by decide +kernel
theorem dL_law_157 : decode cL_law 157 = .ok (.iconst 1, 1) := by decide +kernel
theorem dL_law_158 : decode cL_law 158 = .ok (.goto 4, 3) := by decide +kernel
theorem dL_law_161 : decode cL_law 161 = .ok (.iconst 0, 1) := by decide +kernel
theorem dL_law_162 : decode cL_law 162 = .ok (.ireturn, 1) := by decide +kernel
