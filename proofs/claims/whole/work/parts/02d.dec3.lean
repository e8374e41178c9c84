theorem dX12_run_0 : decode cX12_run 0 = .ok (.aload_n 0, 1) := by decide +kernel
theorem dX12_run_1 : decode cX12_run 1 = .ok (.iconst 0, 1) := by decide +kernel
theorem dX12_run_2 : decode cX12_run 2 = .ok (.putfield 106, 3) := by decide +kernel
theorem dX12_run_5 : decode cX12_run 5 = .ok (.aload_n 0, 1) := by decide +kernel
theorem dX12_run_6 : decode cX12_run 6 = .ok (.invokevirtual 203, 3) := by decide +kernel
theorem dX12_run_9 : decode cX12_run 9 = .ok (.aload_n 0, 1) := by decide +kernel
theorem dX12_run_10 : decode cX12_run 10 = .ok (.invokevirtual 206, 3) := by decide +kernel
theorem dX12_run_13 : decode cX12_run 13 = .ok (.iconst 0, 1) := by decide +kernel
theorem dX12_run_14 : decode cX12_run 14 = .ok (.istore_n 1, 1) := by decide +kernel
theorem dX12_run_15 : decode cX12_run 15 = .ok (.iload_n 1, 1) := by decide +kernel
theorem dX12_run_16 : decode cX12_run 16 = .ok (.aload_n 0, 1) := by decide +kernel
theorem dX12_run_17 : decode cX12_run 17 = .ok (.getfield 157, 3) := by decide +kernel
theorem dX12_run_20 : decode cX12_run 20 = .ok (.if_icmp .ge 23, 3) := by decide +kernel
theorem dX12_run_23 : decode cX12_run 23 = .ok (.aload_n 0, 1) := by decide +kernel
theorem dX12_run_24 : decode cX12_run 24 = .ok (.getfield 47, 3) := by decide +kernel
theorem dX12_run_27 : decode cX12_run 27 = .ok (.iload_n 1, 1) := by decide +kernel
theorem dX12_run_28 : decode cX12_run 28 = .ok (.baload, 1) := by decide +kernel
theorem dX12_run_29 : decode cX12_run 29 = .ok (.ifCond .ne 8, 3) := by decide +kernel
theorem dX12_run_32 : decode cX12_run 32 = .ok (.aload_n 0, 1) := by decide +kernel
theorem dX12_run_33 : decode cX12_run 33 = .ok (.iload_n 1, 1) := by decide +kernel
theorem dX12_run_34 : decode cX12_run 34 = .ok (.invokevirtual 209, 3) := by decide +kernel
theorem dX12_run_37 : decode cX12_run 37 = .ok (.iinc 1 1, 3) := by decide +kernel
theorem dX12_run_40 : decode cX12_run 40 = .ok (.goto (-25), 3) := by decide +kernel
theorem dX12_run_43 : decode cX12_run 43 = .ok (.aload_n 0, 1) := by decide +kernel
theorem dX12_run_44 : decode cX12_run 44 = .ok (.invokevirtual 212, 3) := by decide +kernel
theorem dX12_run_47 : decode cX12_run 47 = .ok (.aload_n 0, 1) := by decide +kernel
theorem dX12_run_48 : decode cX12_run 48 = .ok (.iconst 1, 1) := by decide +kernel
theorem dX12_run_49 : decode cX12_run 49 = .ok (.putfield 125, 3) := by decide +kernel
theorem dX12_run_52 : decode cX12_run 52 = .ok (.aload_n 0, 1) := by decide +kernel
theorem dX12_run_53 : decode cX12_run 53 = .ok (.getfield 196, 3) := by decide +kernel
theorem dX12_run_56 : decode cX12_run 56 = .ok (.ireturn, 1) := by decide +kernel
theorem dX12_say_0 : decode cX12_say 0 = .ok (.aload_n 0, 1) := by decide +kernel
theorem dX12_say_1 : decode cX12_say 1 = .ok (.getfield 84, 3) := by decide +kernel
theorem dX12_say_4 : decode cX12_say 4 = .ok (.aload_n 0, 1) := by decide +kernel
theorem dX12_say_5 : decode cX12_say 5 = .ok (.getfield 288, 3) := by decide +kernel
theorem dX12_say_8 : decode cX12_say 8 = .ok (.iload_n 1, 1) := by decide +kernel
theorem dX12_say_9 : decode cX12_say 9 = .ok (.i2c, 1) := by decide +kernel
theorem dX12_say_10 : decode cX12_say 10 = .ok (.castore, 1) := by decide +kernel
theorem dX12_say_11 : decode cX12_say 11 = .ok (.aload_n 0, 1) := by decide +kernel
theorem dX12_say_12 : decode cX12_say 12 = .ok (.dup, 1) := by decide +kernel
theorem dX12_say_13 : decode cX12_say 13 = .ok (.getfield 288, 3) := by decide +kernel
theorem dX12_say_16 : decode cX12_say 16 = .ok (.iconst 1, 1) := by decide +kernel
theorem dX12_say_17 : decode cX12_say 17 = .ok (.iadd, 1) := by decide +kernel
theorem dX12_say_18 : decode cX12_say 18 = .ok (.putfield 288, 3) := by decide +kernel
theorem dX12_say_21 : decode cX12_say 21 = .ok (.return_, 1) := by decide +kernel
theorem dX12_sayNumber_0 : decode cX12_sayNumber 0 = .ok (.aload_n 0, 1) := by decide +kernel
theorem dX12_sayNumber_1 : decode cX12_sayNumber 1 = .ok (.bipush 32, 2) := by decide +kernel
theorem dX12_sayNumber_3 : decode cX12_sayNumber 3 = .ok (.invokevirtual 291, 3) := by decide +kernel
theorem dX12_sayNumber_6 : decode cX12_sayNumber 6 = .ok (.iload_n 1, 1) := by decide +kernel
theorem dX12_sayNumber_7 : decode cX12_sayNumber 7 = .ok (.ifCond .ge 9, 3) := by decide +kernel
theorem dX12_sayNumber_10 : decode cX12_sayNumber 10 = .ok (.aload_n 0, 1) := by decide +kernel
theorem dX12_sayNumber_11 : decode cX12_sayNumber 11 = .ok (.bipush 45, 2) := by decide +kernel
theorem dX12_sayNumber_13 : decode cX12_sayNumber 13 = .ok (.invokevirtual 291, 3) := by decide +kernel
theorem dX12_sayNumber_16 : decode cX12_sayNumber 16 = .ok (.iload_n 1, 1) := by decide +kernel
theorem dX12_sayNumber_17 : decode cX12_sayNumber 17 = .ok (.ifCond .ge 8, 3) := by decide +kernel
theorem dX12_sayNumber_20 : decode cX12_sayNumber 20 = .ok (.iload_n 1, 1) := by decide +kernel
theorem dX12_sayNumber_21 : decode cX12_sayNumber 21 = .ok (.ineg, 1) := by decide +kernel
theorem dX12_sayNumber_22 : decode cX12_sayNumber 22 = .ok (.goto 4, 3) := by decide +kernel
theorem dX12_sayNumber_25 : decode cX12_sayNumber 25 = .ok (.iload_n 1, 1) := by decide +kernel
theorem dX12_sayNumber_26 : decode cX12_sayNumber 26 = .ok (.istore_n 2, 1) := by decide +kernel
theorem dX12_sayNumber_27 : decode cX12_sayNumber 27 = .ok (.iconst 1, 1) := by decide +kernel
theorem dX12_sayNumber_28 : decode cX12_sayNumber 28 = .ok (.istore_n 3, 1) := by decide +kernel
theorem dX12_sayNumber_29 : decode cX12_sayNumber 29 = .ok (.iload_n 2, 1) := by decide +kernel
theorem dX12_sayNumber_30 : decode cX12_sayNumber 30 = .ok (.iload_n 3, 1) := by decide +kernel
theorem dX12_sayNumber_31 : decode cX12_sayNumber 31 = .ok (.idiv, 1) := by decide +kernel
theorem dX12_sayNumber_32 : decode cX12_sayNumber 32 = .ok (.bipush 9, 2) := by decide +kernel
theorem dX12_sayNumber_34 : decode cX12_sayNumber 34 = .ok (.if_icmp .le 11, 3) := by decide +kernel
theorem dX12_sayNumber_37 : decode cX12_sayNumber 37 = .ok (.iload_n 3, 1) := by decide +kernel
theorem dX12_sayNumber_38 : decode cX12_sayNumber 38 = .ok (.bipush 10, 2) := by decide +kernel
theorem dX12_sayNumber_40 : decode cX12_sayNumber 40 = .ok (.imul, 1) := by decide +kernel
theorem dX12_sayNumber_41 : decode cX12_sayNumber 41 = .ok (.istore_n 3, 1) := by decide +kernel
theorem dX12_sayNumber_42 : decode cX12_sayNumber 42 = .ok (.goto (-13), 3) := by decide +kernel
theorem dX12_sayNumber_45 : decode cX12_sayNumber 45 = .ok (.iload_n 3, 1) := by decide +kernel
theorem dX12_sayNumber_46 : decode cX12_sayNumber 46 = .ok (.ifCond .le 24, 3) := by decide +kernel
theorem dX12_sayNumber_49 : decode cX12_sayNumber 49 = .ok (.aload_n 0, 1) := by decide +kernel
theorem dX12_sayNumber_50 : decode cX12_sayNumber 50 = .ok (.bipush 48, 2) := by decide +kernel
theorem dX12_sayNumber_52 : decode cX12_sayNumber 52 = .ok (.iload_n 2, 1) := by decide +kernel
theorem dX12_sayNumber_53 : decode cX12_sayNumber 53 = .ok (.iload_n 3, 1) := by decide +kernel
theorem dX12_sayNumber_54 : decode cX12_sayNumber 54 = .ok (.idiv, 1) := by decide +kernel
theorem dX12_sayNumber_55 : decode cX12_sayNumber 55 = .ok (.bipush 10, 2) := by decide +kernel
theorem dX12_sayNumber_57 : decode cX12_sayNumber 57 = .ok (.irem, 1) := by decide +kernel
theorem dX12_sayNumber_58 : decode cX12_sayNumber 58 = .ok (.iadd, 1) := by decide +kernel
theorem dX12_sayNumber_59 : decode cX12_sayNumber 59 = .ok (.invokevirtual 291, 3) := by decide +kernel
theorem dX12_sayNumber_62 : decode cX12_sayNumber 62 = .ok (.iload_n 3, 1) := by decide +kernel
theorem dX12_sayNumber_63 : decode cX12_sayNumber 63 = .ok (.bipush 10, 2) := by decide +kernel
theorem dX12_sayNumber_65 : decode cX12_sayNumber 65 = .ok (.idiv, 1) := by decide +kernel
theorem dX12_sayNumber_66 : decode cX12_sayNumber 66 = .ok (.istore_n 3, 1) := by decide +kernel
theorem dX12_sayNumber_67 : decode cX12_sayNumber 67 = .ok (.goto (-22), 3) := by decide +kernel
theorem dX12_sayNumber_70 : decode cX12_sayNumber 70 = .ok (.return_, 1) := by decide +kernel
theorem dX12_section_0 : decode cX12_section 0 = .ok (.aload_n 0, 1) := by decide +kernel
theorem dX12_section_1 : decode cX12_section 1 = .ok (.invokevirtual 219, 3) := by decide +kernel
theorem dX12_section_4 : decode cX12_section 4 = .ok (.ifCond .ne 54, 3) := by decide +kernel
theorem dX12_section_7 : decode cX12_section 7 = .ok (.aload_n 0, 1) := by decide +kernel
theorem dX12_section_8 : decode cX12_section 8 = .ok (.aload_n 0, 1) := by decide +kernel
theorem dX12_section_9 : decode cX12_section 9 = .ok (.iload_n 1, 1) := by decide +kernel
theorem dX12_section_10 : decode cX12_section 10 = .ok (.invokevirtual 129, 3) := by decide +kernel
theorem dX12_section_13 : decode cX12_section 13 = .ok (.ifCond .eq 11, 3) := by decide +kernel
theorem dX12_section_16 : decode cX12_section 16 = .ok (.aload_n 0, 1) := by decide +kernel
theorem dX12_section_17 : decode cX12_section 17 = .ok (.iload_n 2, 1) := by decide +kernel
theorem dX12_section_18 : decode cX12_section 18 = .ok (.invokevirtual 129, 3) := by decide +kernel
theorem dX12_section_21 : decode cX12_section 21 = .ok (.ifCond .ne 7, 3) := by decide +kernel
theorem dX12_section_24 : decode cX12_section 24 = .ok (.iconst 1, 1) := by decide +kernel
theorem dX12_section_25 : decode cX12_section 25 = .ok (.goto 4, 3) := by decide +kernel
theorem dX12_section_28 : decode cX12_section 28 = .ok (.iconst 0, 1) := by decide +kernel
theorem dX12_section_29 : decode cX12_section 29 = .ok (.iconst 2, 1) := by decide +kernel
theorem dX12_section_30 : decode cX12_section 30 = .ok (.invokevirtual 215, 3) := by decide +kernel
theorem dX12_section_33 : decode cX12_section 33 = .ok (.ifCond .ne 25, 3) := by decide +kernel
theorem dX12_section_36 : decode cX12_section 36 = .ok (.aload_n 0, 1) := by decide +kernel
theorem dX12_section_37 : decode cX12_section 37 = .ok (.aload_n 0, 1) := by decide +kernel
theorem dX12_section_38 : decode cX12_section 38 = .ok (.iload_n 1, 1) := by decide +kernel
theorem dX12_section_39 : decode cX12_section 39 = .ok (.iload_n 2, 1) := by decide +kernel
theorem dX12_section_40 : decode cX12_section 40 = .ok (.invokevirtual 175, 3) := by decide +kernel
theorem dX12_section_43 : decode cX12_section 43 = .ok (.ifCond .ne 7, 3) := by decide +kernel
theorem dX12_section_46 : decode cX12_section 46 = .ok (.iconst 1, 1) := by decide +kernel
theorem dX12_section_47 : decode cX12_section 47 = .ok (.goto 4, 3) := by decide +kernel
theorem dX12_section_50 : decode cX12_section 50 = .ok (.iconst 0, 1) := by decide +kernel
theorem dX12_section_51 : decode cX12_section 51 = .ok (.iconst 3, 1) := by decide +kernel
theorem dX12_section_52 : decode cX12_section 52 = .ok (.invokevirtual 215, 3) := by decide +kernel
theorem dX12_section_55 : decode cX12_section 55 = .ok (.ifCond .eq 5, 3) := by decide +kernel
theorem dX12_section_58 : decode cX12_section 58 = .ok (.iconst 0, 1) := by decide +kernel
theorem dX12_section_59 : decode cX12_section 59 = .ok (.ireturn, 1) := by decide +kernel
theorem dX12_section_60 : decode cX12_section 60 = .ok (.iconst 0, 1) := by decide +kernel
theorem dX12_section_61 : decode cX12_section 61 = .ok (.istore 5, 2) := by decide +kernel
theorem dX12_section_63 : decode cX12_section 63 = .ok (.iconst 0, 1) := by decide +kernel
theorem dX12_section_64 : decode cX12_section 64 = .ok (.istore 6, 2) := by decide +kernel
theorem dX12_section_66 : decode cX12_section 66 = .ok (.iconst 0, 1) := by decide +kernel
theorem dX12_section_67 : decode cX12_section 67 = .ok (.istore 7, 2) := by decide +kernel
theorem dX12_section_69 : decode cX12_section 69 = .ok (.iconst (-1), 1) := by decide +kernel
theorem dX12_section_70 : decode cX12_section 70 = .ok (.istore 8, 2) := by decide +kernel
theorem dX12_section_72 : decode cX12_section 72 = .ok (.iconst (-1), 1) := by decide +kernel
theorem dX12_section_73 : decode cX12_section 73 = .ok (.istore 9, 2) := by decide +kernel
theorem dX12_section_75 : decode cX12_section 75 = .ok (.iconst 0, 1) := by decide +kernel
theorem dX12_section_76 : decode cX12_section 76 = .ok (.istore 10, 2) := by decide +kernel
theorem dX12_section_78 : decode cX12_section 78 = .ok (.iload 6, 2) := by decide +kernel
theorem dX12_section_80 : decode cX12_section 80 = .ok (.aload_n 0, 1) := by decide +kernel
theorem dX12_section_81 : decode cX12_section 81 = .ok (.getfield 19, 3) := by decide +kernel
theorem dX12_section_84 : decode cX12_section 84 = .ok (.iload_n 1, 1) := by decide +kernel
theorem dX12_section_85 : decode cX12_section 85 = .ok (.iaload, 1) := by decide +kernel
theorem dX12_section_86 : decode cX12_section 86 = .ok (.if_icmp .lt 14, 3) := by decide +kernel
theorem dX12_section_89 : decode cX12_section 89 = .ok (.iload 7, 2) := by decide +kernel
theorem dX12_section_91 : decode cX12_section 91 = .ok (.aload_n 0, 1) := by decide +kernel
theorem dX12_section_92 : decode cX12_section 92 = .ok (.getfield 19, 3) := by decide +kernel
theorem dX12_section_95 : decode cX12_section 95 = .ok (.iload_n 2, 1) := by decide +kernel
theorem dX12_section_96 : decode cX12_section 96 = .ok (.iaload, 1) := by decide +kernel
theorem dX12_section_97 : decode cX12_section 97 = .ok (.if_icmp .ge 165, 3) := by decide +kernel
theorem dX12_section_100 : decode cX12_section 100 = .ok (.iload 6, 2) := by decide +kernel
theorem dX12_section_102 : decode cX12_section 102 = .ok (.aload_n 0, 1) := by decide +kernel
theorem dX12_section_103 : decode cX12_section 103 = .ok (.getfield 19, 3) := by decide +kernel
theorem dX12_section_106 : decode cX12_section 106 = .ok (.iload_n 1, 1) := by decide +kernel
theorem dX12_section_107 : decode cX12_section 107 = .ok (.iaload, 1) := by decide +kernel
theorem dX12_section_108 : decode cX12_section 108 = .ok (.if_icmp .ge 19, 3) := by decide +kernel
theorem dX12_section_111 : decode cX12_section 111 = .ok (.aload_n 0, 1) := by decide +kernel
theorem dX12_section_112 : decode cX12_section 112 = .ok (.iload_n 1, 1) := by decide +kernel
theorem dX12_section_113 : decode cX12_section 113 = .ok (.iload_n 2, 1) := by decide +kernel
theorem dX12_section_114 : decode cX12_section 114 = .ok (.iload 6, 2) := by decide +kernel
theorem dX12_section_116 : decode cX12_section 116 = .ok (.invokevirtual 223, 3) := by decide +kernel
theorem dX12_section_119 : decode cX12_section 119 = .ok (.iconst (-1), 1) := by decide +kernel
theorem dX12_section_120 : decode cX12_section 120 = .ok (.if_icmp .ne 7, 3) := by decide +kernel
theorem dX12_section_123 : decode cX12_section 123 = .ok (.iconst 1, 1) := by decide +kernel
theorem dX12_section_124 : decode cX12_section 124 = .ok (.goto 4, 3) := by decide +kernel
theorem dX12_section_127 : decode cX12_section 127 = .ok (.iconst 0, 1) := by decide +kernel
theorem dX12_section_128 : decode cX12_section 128 = .ok (.istore 11, 2) := by decide +kernel
theorem dX12_section_130 : decode cX12_section 130 = .ok (.iload 7, 2) := by decide +kernel
theorem dX12_section_132 : decode cX12_section 132 = .ok (.aload_n 0, 1) := by decide +kernel
theorem dX12_section_133 : decode cX12_section 133 = .ok (.getfield 19, 3) := by decide +kernel
theorem dX12_section_136 : decode cX12_section 136 = .ok (.iload_n 2, 1) := by decide +kernel
theorem dX12_section_137 : decode cX12_section 137 = .ok (.iaload, 1) := by decide +kernel
theorem dX12_section_138 : decode cX12_section 138 = .ok (.if_icmp .ge 19, 3) := by decide +kernel
theorem dX12_section_141 : decode cX12_section 141 = .ok (.aload_n 0, 1) := by decide +kernel
theorem dX12_section_142 : decode cX12_section 142 = .ok (.iload_n 2, 1) := by decide +kernel
theorem dX12_section_143 : decode cX12_section 143 = .ok (.iload_n 1, 1) := by decide +kernel
theorem dX12_section_144 : decode cX12_section 144 = .ok (.iload 7, 2) := by decide +kernel
theorem dX12_section_146 : decode cX12_section 146 = .ok (.invokevirtual 223, 3) := by decide +kernel
theorem dX12_section_149 : decode cX12_section 149 = .ok (.iconst (-1), 1) := by decide +kernel
theorem dX12_section_150 : decode cX12_section 150 = .ok (.if_icmp .ne 7, 3) := by decide +kernel
theorem dX12_section_153 : decode cX12_section 153 = .ok (.iconst 1, 1) := by decide +kernel
theorem dX12_section_154 : decode cX12_section 154 = .ok (.goto 4, 3) := by decide +kernel
theorem dX12_section_157 : decode cX12_section 157 = .ok (.iconst 0, 1) := by decide +kernel
theorem dX12_section_158 : decode cX12_section 158 = .ok (.istore 12, 2) := by decide +kernel
theorem dX12_section_160 : decode cX12_section 160 = .ok (.iload 11, 2) := by decide +kernel
theorem dX12_section_162 : decode cX12_section 162 = .ok (.ifCond .ne 8, 3) := by decide +kernel
theorem dX12_section_165 : decode cX12_section 165 = .ok (.iload 12, 2) := by decide +kernel
theorem dX12_section_167 : decode cX12_section 167 = .ok (.ifCond .ne 8, 3) := by decide +kernel
theorem dX12_section_170 : decode cX12_section 170 = .ok (.iload 6, 2) := by decide +kernel
theorem dX12_section_172 : decode cX12_section 172 = .ok (.goto 4, 3) := by decide +kernel
theorem dX12_section_175 : decode cX12_section 175 = .ok (.iconst (-1), 1) := by decide +kernel
theorem dX12_section_176 : decode cX12_section 176 = .ok (.istore 13, 2) := by decide +kernel
theorem dX12_section_178 : decode cX12_section 178 = .ok (.iload 11, 2) := by decide +kernel
theorem dX12_section_180 : decode cX12_section 180 = .ok (.ifCond .ne 19, 3) := by decide +kernel
theorem dX12_section_183 : decode cX12_section 183 = .ok (.iload 12, 2) := by decide +kernel
theorem dX12_section_185 : decode cX12_section 185 = .ok (.ifCond .ne 18, 3) := by decide +kernel
theorem dX12_section_188 : decode cX12_section 188 = .ok (.iload 6, 2) := by decide +kernel
theorem dX12_section_190 : decode cX12_section 190 = .ok (.aload_n 0, 1) := by decide +kernel
theorem dX12_section_191 : decode cX12_section 191 = .ok (.getfield 19, 3) := by decide +kernel
theorem dX12_section_194 : decode cX12_section 194 = .ok (.iload_n 1, 1) := by decide +kernel
theorem dX12_section_195 : decode cX12_section 195 = .ok (.iaload, 1) := by decide +kernel
theorem dX12_section_196 : decode cX12_section 196 = .ok (.if_icmp .ne 7, 3) := by decide +kernel
theorem dX12_section_199 : decode cX12_section 199 = .ok (.iconst (-1), 1) := by decide +kernel
theorem dX12_section_200 : decode cX12_section 200 = .ok (.goto 5, 3) := by decide +kernel
theorem dX12_section_203 : decode cX12_section 203 = .ok (.iload 7, 2) := by decide +kernel
theorem dX12_section_205 : decode cX12_section 205 = .ok (.istore 14, 2) := by decide +kernel
theorem dX12_section_207 : decode cX12_section 207 = .ok (.iload 5, 2) := by decide +kernel
theorem dX12_section_209 : decode cX12_section 209 = .ok (.iload_n 3, 1) := by decide +kernel
theorem dX12_section_210 : decode cX12_section 210 = .ok (.if_icmp .ne 14, 3) := by decide +kernel
theorem dX12_section_213 : decode cX12_section 213 = .ok (.iload 13, 2) := by decide +kernel
theorem dX12_section_215 : decode cX12_section 215 = .ok (.istore 8, 2) := by decide +kernel
theorem dX12_section_217 : decode cX12_section 217 = .ok (.iload 14, 2) := by decide +kernel
theorem dX12_section_219 : decode cX12_section 219 = .ok (.istore 9, 2) := by decide +kernel
theorem dX12_section_221 : decode cX12_section 221 = .ok (.iconst 1, 1) := by decide +kernel
theorem dX12_section_222 : decode cX12_section 222 = .ok (.istore 10, 2) := by decide +kernel
theorem dX12_section_224 : decode cX12_section 224 = .ok (.iload 6, 2) := by decide +kernel
theorem dX12_section_226 : decode cX12_section 226 = .ok (.iload 13, 2) := by decide +kernel
theorem dX12_section_228 : decode cX12_section 228 = .ok (.iconst (-1), 1) := by decide +kernel
theorem dX12_section_229 : decode cX12_section 229 = .ok (.if_icmp .ne 7, 3) := by decide +kernel
theorem dX12_section_232 : decode cX12_section 232 = .ok (.iconst 0, 1) := by decide +kernel
theorem dX12_section_233 : decode cX12_section 233 = .ok (.goto 4, 3) := by decide +kernel
theorem dX12_section_236 : decode cX12_section 236 = .ok (.iconst 1, 1) := by decide +kernel
theorem dX12_section_237 : decode cX12_section 237 = .ok (.iadd, 1) := by decide +kernel
theorem dX12_section_238 : decode cX12_section 238 = .ok (.istore 6, 2) := by decide +kernel
theorem dX12_section_240 : decode cX12_section 240 = .ok (.iload 7, 2) := by decide +kernel
theorem dX12_section_242 : decode cX12_section 242 = .ok (.iload 14, 2) := by decide +kernel
theorem dX12_section_244 : decode cX12_section 244 = .ok (.iconst (-1), 1) := by decide +kernel
theorem dX12_section_245 : decode cX12_section 245 = .ok (.if_icmp .ne 7, 3) := by decide +kernel
theorem dX12_section_248 : decode cX12_section 248 = .ok (.iconst 0, 1) := by decide +kernel
theorem dX12_section_249 : decode cX12_section 249 = .ok (.goto 4, 3) := by decide +kernel
theorem dX12_section_252 : decode cX12_section 252 = .ok (.iconst 1, 1) := by decide +kernel
theorem dX12_section_253 : decode cX12_section 253 = .ok (.iadd, 1) := by decide +kernel
theorem dX12_section_254 : decode cX12_section 254 = .ok (.istore 7, 2) := by decide +kernel
theorem dX12_section_256 : decode cX12_section 256 = .ok (.iinc 5 1, 3) := by decide +kernel
theorem dX12_section_259 : decode cX12_section 259 = .ok (.goto (-181), 3) := by decide +kernel
theorem dX12_section_262 : decode cX12_section 262 = .ok (.aload_n 0, 1) := by decide +kernel
theorem dX12_section_263 : decode cX12_section 263 = .ok (.iload 10, 2) := by decide +kernel
theorem dX12_section_265 : decode cX12_section 265 = .ok (.ifCond .ne 7, 3) := by decide +kernel
theorem dX12_section_268 : decode cX12_section 268 = .ok (.iconst 1, 1) := by decide +kernel
theorem dX12_section_269 : decode cX12_section 269 = .ok (.goto 4, 3) := by decide +kernel
theorem dX12_section_272 : decode cX12_section 272 = .ok (.iconst 0, 1) := by decide +kernel
theorem dX12_section_273 : decode cX12_section 273 = .ok (.iconst 2, 1) := by decide +kernel
theorem dX12_section_274 : decode cX12_section 274 = .ok (.invokevirtual 215, 3) := by decide +kernel
theorem dX12_section_277 : decode cX12_section 277 = .ok (.ifCond .ne 26, 3) := by decide +kernel
theorem dX12_section_280 : decode cX12_section 280 = .ok (.aload_n 0, 1) := by decide +kernel
theorem dX12_section_281 : decode cX12_section 281 = .ok (.iload 4, 2) := by decide +kernel
theorem dX12_section_283 : decode cX12_section 283 = .ok (.iconst 0, 1) := by decide +kernel
theorem dX12_section_284 : decode cX12_section 284 = .ok (.iconst 1, 1) := by decide +kernel
theorem dX12_section_285 : decode cX12_section 285 = .ok (.invokestatic 109, 3) := by decide +kernel
theorem dX12_section_288 : decode cX12_section 288 = .ok (.ifCond .ne 7, 3) := by decide +kernel
theorem dX12_section_291 : decode cX12_section 291 = .ok (.iconst 1, 1) := by decide +kernel
theorem dX12_section_292 : decode cX12_section 292 = .ok (.goto 4, 3) := by decide +kernel
theorem dX12_section_295 : decode cX12_section 295 = .ok (.iconst 0, 1) := by decide +kernel
theorem dX12_section_296 : decode cX12_section 296 = .ok (.iconst 3, 1) := by decide +kernel
theorem dX12_section_297 : decode cX12_section 297 = .ok (.invokevirtual 215, 3) := by decide +kernel
theorem dX12_section_300 : decode cX12_section 300 = .ok (.ifCond .eq 5, 3) := by decide +kernel
theorem dX12_section_303 : decode cX12_section 303 = .ok (.iconst 0, 1) := by decide +kernel
theorem dX12_section_304 : decode cX12_section 304 = .ok (.ireturn, 1) := by decide +kernel
theorem dX12_section_305 : decode cX12_section 305 = .ok (.iload 4, 2) := by decide +kernel
theorem dX12_section_307 : decode cX12_section 307 = .ok (.ifCond .ne 8, 3) := by decide +kernel
theorem dX12_section_310 : decode cX12_section 310 = .ok (.iload 8, 2) := by decide +kernel
theorem dX12_section_312 : decode cX12_section 312 = .ok (.goto 5, 3) := by decide +kernel
theorem dX12_section_315 : decode cX12_section 315 = .ok (.iload 9, 2) := by decide +kernel
theorem dX12_section_317 : decode cX12_section 317 = .ok (.ireturn, 1) := by decide +kernel
theorem dX12_side_0 : decode cX12_side 0 = .ok (.iload_n 2, 1) := by decide +kernel
theorem dX12_side_1 : decode cX12_side 1 = .ok (.iload_n 0, 1) := by decide +kernel
theorem dX12_side_2 : decode cX12_side 2 = .ok (.isub, 1) := by decide +kernel
theorem dX12_side_3 : decode cX12_side 3 = .ok (.i2l, 1) := by decide +kernel
theorem dX12_side_4 : decode cX12_side 4 = .ok (.iload_n 3, 1) := by decide +kernel
theorem dX12_side_5 : decode cX12_side 5 = .ok (.iload_n 1, 1) := by decide +kernel
theorem dX12_side_6 : decode cX12_side 6 = .ok (.isub, 1) := by decide +kernel
theorem dX12_side_7 : decode cX12_side 7 = .ok (.i2l, 1) := by decide +kernel
theorem dX12_side_8 : decode cX12_side 8 = .ok (.iload 4, 2) := by decide +kernel
theorem dX12_side_10 : decode cX12_side 10 = .ok (.iload_n 0, 1) := by decide +kernel
theorem dX12_side_11 : decode cX12_side 11 = .ok (.isub, 1) := by decide +kernel
theorem dX12_side_12 : decode cX12_side 12 = .ok (.i2l, 1) := by decide +kernel
theorem dX12_side_13 : decode cX12_side 13 = .ok (.iload 5, 2) := by decide +kernel
theorem dX12_side_15 : decode cX12_side 15 = .ok (.iload_n 1, 1) := by decide +kernel
theorem dX12_side_16 : decode cX12_side 16 = .ok (.isub, 1) := by decide +kernel
theorem dX12_side_17 : decode cX12_side 17 = .ok (.i2l, 1) := by decide +kernel
theorem dX12_side_18 : decode cX12_side 18 = .ok (.invokestatic 142, 3) := by decide +kernel
theorem dX12_side_21 : decode cX12_side 21 = .ok (.lstore 6, 2) := by decide +kernel
theorem dX12_side_23 : decode cX12_side 23 = .ok (.lload 6, 2) := by decide +kernel
theorem dX12_side_25 : decode cX12_side 25 = .ok (.lconst 0, 1) := by decide +kernel
theorem dX12_side_26 : decode cX12_side 26 = .ok (.lcmp, 1) := by decide +kernel
theorem dX12_side_27 : decode cX12_side 27 = .ok (.ifCond .le 7, 3) := by decide +kernel
theorem dX12_side_30 : decode cX12_side 30 = .ok (.iconst 1, 1) := by decide +kernel
theorem dX12_side_31 : decode cX12_side 31 = .ok (.goto 15, 3) := by decide +kernel
theorem dX12_side_34 : decode cX12_side 34 = .ok (.lload 6, 2) := by decide +kernel
theorem dX12_side_36 : decode cX12_side 36 = .ok (.lconst 0, 1) := by decide +kernel
theorem dX12_side_37 : decode cX12_side 37 = .ok (.lcmp, 1) := by decide +kernel
theorem dX12_side_38 : decode cX12_side 38 = .ok (.ifCond .ge 7, 3) := by decide +kernel
theorem dX12_side_41 : decode cX12_side 41 = .ok (.iconst (-1), 1) := by decide +kernel
theorem dX12_side_42 : decode cX12_side 42 = .ok (.goto 4, 3) := by decide +kernel
theorem dX12_side_45 : decode cX12_side 45 = .ok (.iconst 0, 1) := by decide +kernel
theorem dX12_side_46 : decode cX12_side 46 = .ok (.ireturn, 1) := by decide +kernel
theorem dX12_spread_0 : decode cX12_spread 0 = .ok (.iconst 1, 1) := by decide +kernel
theorem dX12_spread_1 : decode cX12_spread 1 = .ok (.istore_n 2, 1) := by decide +kernel
theorem dX12_spread_2 : decode cX12_spread 2 = .ok (.iload_n 2, 1) := by decide +kernel
theorem dX12_spread_3 : decode cX12_spread 3 = .ok (.ifCond .eq 159, 3) := by decide +kernel
theorem dX12_spread_6 : decode cX12_spread 6 = .ok (.iconst 0, 1) := by decide +kernel
theorem dX12_spread_7 : decode cX12_spread 7 = .ok (.istore_n 2, 1) := by decide +kernel
theorem dX12_spread_8 : decode cX12_spread 8 = .ok (.iconst 0, 1) := by decide +kernel
theorem dX12_spread_9 : decode cX12_spread 9 = .ok (.istore_n 3, 1) := by decide +kernel
theorem dX12_spread_10 : decode cX12_spread 10 = .ok (.iload_n 3, 1) := by decide +kernel
theorem dX12_spread_11 : decode cX12_spread 11 = .ok (.aload_n 0, 1) := by decide +kernel
theorem dX12_spread_12 : decode cX12_spread 12 = .ok (.getfield 157, 3) := by decide +kernel
theorem dX12_spread_15 : decode cX12_spread 15 = .ok (.if_icmp .ge 144, 3) := by decide +kernel
theorem dX12_spread_18 : decode cX12_spread 18 = .ok (.iconst 0, 1) := by decide +kernel
theorem dX12_spread_19 : decode cX12_spread 19 = .ok (.istore 4, 2) := by decide +kernel
theorem dX12_spread_21 : decode cX12_spread 21 = .ok (.iload 4, 2) := by decide +kernel
theorem dX12_spread_23 : decode cX12_spread 23 = .ok (.aload_n 0, 1) := by decide +kernel
theorem dX12_spread_24 : decode cX12_spread 24 = .ok (.getfield 19, 3) := by decide +kernel
theorem dX12_spread_27 : decode cX12_spread 27 = .ok (.aload_n 0, 1) := by decide +kernel
theorem dX12_spread_28 : decode cX12_spread 28 = .ok (.getfield 41, 3) := by decide +kernel
theorem dX12_spread_31 : decode cX12_spread 31 = .ok (.iload_n 3, 1) := by decide +kernel
theorem dX12_spread_32 : decode cX12_spread 32 = .ok (.iaload, 1) := by decide +kernel
theorem dX12_spread_33 : decode cX12_spread 33 = .ok (.iaload, 1) := by decide +kernel
theorem dX12_spread_34 : decode cX12_spread 34 = .ok (.if_icmp .ge 119, 3) := by decide +kernel
theorem dX12_spread_37 : decode cX12_spread 37 = .ok (.aload_n 0, 1) := by decide +kernel
theorem dX12_spread_38 : decode cX12_spread 38 = .ok (.getfield 47, 3) := by decide +kernel
theorem dX12_spread_41 : decode cX12_spread 41 = .ok (.iload_n 3, 1) := by decide +kernel
theorem dX12_spread_42 : decode cX12_spread 42 = .ok (.baload, 1) := by decide +kernel
theorem dX12_spread_43 : decode cX12_spread 43 = .ok (.ifCond .ne 110, 3) := by decide +kernel
theorem dX12_spread_46 : decode cX12_spread 46 = .ok (.aload_n 0, 1) := by decide +kernel
theorem dX12_spread_47 : decode cX12_spread 47 = .ok (.getfield 54, 3) := by decide +kernel
theorem dX12_spread_50 : decode cX12_spread 50 = .ok (.bipush 12, 2) := by decide +kernel
theorem dX12_spread_52 : decode cX12_spread 52 = .ok (.iload_n 3, 1) := by decide +kernel
theorem dX12_spread_53 : decode cX12_spread 53 = .ok (.imul, 1) := by decide +kernel
theorem dX12_spread_54 : decode cX12_spread 54 = .ok (.iload 4, 2) := by decide +kernel
theorem dX12_spread_56 : decode cX12_spread 56 = .ok (.iadd, 1) := by decide +kernel
theorem dX12_spread_57 : decode cX12_spread 57 = .ok (.iaload, 1) := by decide +kernel
theorem dX12_spread_58 : decode cX12_spread 58 = .ok (.istore 5, 2) := by decide +kernel
theorem dX12_spread_60 : decode cX12_spread 60 = .ok (.bipush 12, 2) := by decide +kernel
theorem dX12_spread_62 : decode cX12_spread 62 = .ok (.aload_n 0, 1) := by decide +kernel
theorem dX12_spread_63 : decode cX12_spread 63 = .ok (.getfield 41, 3) := by decide +kernel
theorem dX12_spread_66 : decode cX12_spread 66 = .ok (.iload_n 3, 1) := by decide +kernel
theorem dX12_spread_67 : decode cX12_spread 67 = .ok (.iaload, 1) := by decide +kernel
theorem dX12_spread_68 : decode cX12_spread 68 = .ok (.imul, 1) := by decide +kernel
theorem dX12_spread_69 : decode cX12_spread 69 = .ok (.iload 4, 2) := by decide +kernel
theorem dX12_spread_71 : decode cX12_spread 71 = .ok (.iadd, 1) := by decide +kernel
theorem dX12_spread_72 : decode cX12_spread 72 = .ok (.istore 6, 2) := by decide +kernel
theorem dX12_spread_74 : decode cX12_spread 74 = .ok (.bipush 12, 2) := by decide +kernel
theorem dX12_spread_76 : decode cX12_spread 76 = .ok (.aload_n 0, 1) := by decide +kernel
theorem dX12_spread_77 : decode cX12_spread 77 = .ok (.getfield 44, 3) := by decide +kernel
theorem dX12_spread_80 : decode cX12_spread 80 = .ok (.iload_n 3, 1) := by decide +kernel
theorem dX12_spread_81 : decode cX12_spread 81 = .ok (.iaload, 1) := by decide +kernel
theorem dX12_spread_82 : decode cX12_spread 82 = .ok (.imul, 1) := by decide +kernel
theorem dX12_spread_83 : decode cX12_spread 83 = .ok (.iload 5, 2) := by decide +kernel
theorem dX12_spread_85 : decode cX12_spread 85 = .ok (.iadd, 1) := by decide +kernel
theorem dX12_spread_86 : decode cX12_spread 86 = .ok (.istore 7, 2) := by decide +kernel
theorem dX12_spread_88 : decode cX12_spread 88 = .ok (.iload 5, 2) := by decide +kernel
theorem dX12_spread_90 : decode cX12_spread 90 = .ok (.iconst (-1), 1) := by decide +kernel
theorem dX12_spread_91 : decode cX12_spread 91 = .ok (.if_icmp .eq 56, 3) := by decide +kernel
theorem dX12_spread_94 : decode cX12_spread 94 = .ok (.aload_n 0, 1) := by decide +kernel
theorem dX12_spread_95 : decode cX12_spread 95 = .ok (.getfield 63, 3) := by decide +kernel
theorem dX12_spread_98 : decode cX12_spread 98 = .ok (.iload 6, 2) := by decide +kernel
theorem dX12_spread_100 : decode cX12_spread 100 = .ok (.iaload, 1) := by decide +kernel
theorem dX12_spread_101 : decode cX12_spread 101 = .ok (.iload_n 1, 1) := by decide +kernel
theorem dX12_spread_102 : decode cX12_spread 102 = .ok (.if_icmp .ne 7, 3) := by decide +kernel
theorem dX12_spread_105 : decode cX12_spread 105 = .ok (.iconst 1, 1) := by decide +kernel
theorem dX12_spread_106 : decode cX12_spread 106 = .ok (.goto 4, 3) := by decide +kernel
theorem dX12_spread_109 : decode cX12_spread 109 = .ok (.iconst 0, 1) := by decide +kernel
theorem dX12_spread_110 : decode cX12_spread 110 = .ok (.aload_n 0, 1) := by decide +kernel
theorem dX12_spread_111 : decode cX12_spread 111 = .ok (.getfield 63, 3) := by decide +kernel
theorem dX12_spread_114 : decode cX12_spread 114 = .ok (.iload 7, 2) := by decide +kernel
theorem dX12_spread_116 : decode cX12_spread 116 = .ok (.iaload, 1) := by decide +kernel
theorem dX12_spread_117 : decode cX12_spread 117 = .ok (.iload_n 1, 1) := by decide +kernel
theorem dX12_spread_118 : decode cX12_spread 118 = .ok (.if_icmp .ne 7, 3) := by decide +kernel
theorem dX12_spread_121 : decode cX12_spread 121 = .ok (.iconst 1, 1) := by decide +kernel
theorem dX12_spread_122 : decode cX12_spread 122 = .ok (.goto 4, 3) := by decide +kernel
theorem dX12_spread_125 : decode cX12_spread 125 = .ok (.iconst 0, 1) := by decide +kernel
theorem dX12_spread_126 : decode cX12_spread 126 = .ok (.if_icmp .eq 21, 3) := by decide +kernel
theorem dX12_spread_129 : decode cX12_spread 129 = .ok (.aload_n 0, 1) := by decide +kernel
theorem dX12_spread_130 : decode cX12_spread 130 = .ok (.getfield 63, 3) := by decide +kernel
theorem dX12_spread_133 : decode cX12_spread 133 = .ok (.iload 6, 2) := by decide +kernel
theorem dX12_spread_135 : decode cX12_spread 135 = .ok (.iload_n 1, 1) := by decide +kernel
theorem dX12_spread_136 : decode cX12_spread 136 = .ok (.iastore, 1) := by decide +kernel
theorem dX12_spread_137 : decode cX12_spread 137 = .ok (.aload_n 0, 1) := by decide +kernel
theorem dX12_spread_138 : decode cX12_spread 138 = .ok (.getfield 63, 3) := by decide +kernel
theorem dX12_spread_141 : decode cX12_spread 141 = .ok (.iload 7, 2) := by decide +kernel
theorem dX12_spread_143 : decode cX12_spread 143 = .ok (.iload_n 1, 1) := by decide +kernel
theorem dX12_spread_144 : decode cX12_spread 144 = .ok (.iastore, 1) := by decide +kernel
theorem dX12_spread_145 : decode cX12_spread 145 = .ok (.iconst 1, 1) := by decide +kernel
theorem dX12_spread_146 : decode cX12_spread 146 = .ok (.istore_n 2, 1) := by decide +kernel
theorem dX12_spread_147 : decode cX12_spread 147 = .ok (.iinc 4 1, 3) := by decide +kernel
theorem dX12_spread_150 : decode cX12_spread 150 = .ok (.goto (-129), 3) := by decide +kernel
theorem dX12_spread_153 : decode cX12_spread 153 = .ok (.iinc 3 1, 3) := by decide +kernel
theorem dX12_spread_156 : decode cX12_spread 156 = .ok (.goto (-146), 3) := by decide +kernel
theorem dX12_spread_159 : decode cX12_spread 159 = .ok (.goto (-157), 3) := by decide +kernel
theorem dX12_spread_162 : decode cX12_spread 162 = .ok (.return_, 1) := by decide +kernel
theorem dX12_square_0 : decode cX12_square 0 = .ok (.aload_n 0, 1) := by decide +kernel
theorem dX12_square_1 : decode cX12_square 1 = .ok (.getfield 7, 3) := by decide +kernel
theorem dX12_square_4 : decode cX12_square 4 = .ok (.iload_n 1, 1) := by decide +kernel
theorem dX12_square_5 : decode cX12_square 5 = .ok (.iaload, 1) := by decide +kernel
theorem dX12_square_6 : decode cX12_square 6 = .ok (.aload_n 0, 1) := by decide +kernel
theorem dX12_square_7 : decode cX12_square 7 = .ok (.getfield 7, 3) := by decide +kernel
theorem dX12_square_10 : decode cX12_square 10 = .ok (.iload_n 2, 1) := by decide +kernel
theorem dX12_square_11 : decode cX12_square 11 = .ok (.iaload, 1) := by decide +kernel
theorem dX12_square_12 : decode cX12_square 12 = .ok (.isub, 1) := by decide +kernel
theorem dX12_square_13 : decode cX12_square 13 = .ok (.aload_n 0, 1) := by decide +kernel
theorem dX12_square_14 : decode cX12_square 14 = .ok (.getfield 7, 3) := by decide +kernel
theorem dX12_square_17 : decode cX12_square 17 = .ok (.iload_n 1, 1) := by decide +kernel
theorem dX12_square_18 : decode cX12_square 18 = .ok (.iaload, 1) := by decide +kernel
theorem dX12_square_19 : decode cX12_square 19 = .ok (.aload_n 0, 1) := by decide +kernel
theorem dX12_square_20 : decode cX12_square 20 = .ok (.getfield 7, 3) := by decide +kernel
theorem dX12_square_23 : decode cX12_square 23 = .ok (.iload_n 2, 1) := by decide +kernel
theorem dX12_square_24 : decode cX12_square 24 = .ok (.iaload, 1) := by decide +kernel
theorem dX12_square_25 : decode cX12_square 25 = .ok (.isub, 1) := by decide +kernel
theorem dX12_square_26 : decode cX12_square 26 = .ok (.imul, 1) := by decide +kernel
theorem dX12_square_27 : decode cX12_square 27 = .ok (.aload_n 0, 1) := by decide +kernel
theorem dX12_square_28 : decode cX12_square 28 = .ok (.getfield 13, 3) := by decide +kernel
theorem dX12_square_31 : decode cX12_square 31 = .ok (.iload_n 1, 1) := by decide +kernel
theorem dX12_square_32 : decode cX12_square 32 = .ok (.iaload, 1) := by decide +kernel
theorem dX12_square_33 : decode cX12_square 33 = .ok (.aload_n 0, 1) := by decide +kernel
theorem dX12_square_34 : decode cX12_square 34 = .ok (.getfield 13, 3) := by decide +kernel
theorem dX12_square_37 : decode cX12_square 37 = .ok (.iload_n 2, 1) := by decide +kernel
theorem dX12_square_38 : decode cX12_square 38 = .ok (.iaload, 1) := by decide +kernel
theorem dX12_square_39 : decode cX12_square 39 = .ok (.isub, 1) := by decide +kernel
theorem dX12_square_40 : decode cX12_square 40 = .ok (.aload_n 0, 1) := by decide +kernel
theorem dX12_square_41 : decode cX12_square 41 = .ok (.getfield 13, 3) := by decide +kernel
theorem dX12_square_44 : decode cX12_square 44 = .ok (.iload_n 1, 1) := by decide +kernel
theorem dX12_square_45 : decode cX12_square 45 = .ok (.iaload, 1) := by decide +kernel
theorem dX12_square_46 : decode cX12_square 46 = .ok (.aload_n 0, 1) := by decide +kernel
theorem dX12_square_47 : decode cX12_square 47 = .ok (.getfield 13, 3) := by decide +kernel
theorem dX12_square_50 : decode cX12_square 50 = .ok (.iload_n 2, 1) := by decide +kernel
theorem dX12_square_51 : decode cX12_square 51 = .ok (.iaload, 1) := by decide +kernel
theorem dX12_square_52 : decode cX12_square 52 = .ok (.isub, 1) := by decide +kernel
theorem dX12_square_53 : decode cX12_square 53 = .ok (.imul, 1) := by decide +kernel
theorem dX12_square_54 : decode cX12_square 54 = .ok (.iadd, 1) := by decide +kernel
theorem dX12_square_55 : decode cX12_square 55 = .ok (.ireturn, 1) := by decide +kernel
theorem dX12_sum_0 : decode cX12_sum 0 = .ok (.aload_n 0, 1) := by decide +kernel
theorem dX12_sum_1 : decode cX12_sum 1 = .ok (.invokevirtual 219, 3) := by decide +kernel
theorem dX12_sum_4 : decode cX12_sum 4 = .ok (.ifCond .ne 54, 3) := by decide +kernel
theorem dX12_sum_7 : decode cX12_sum 7 = .ok (.aload_n 0, 1) := by decide +kernel
theorem dX12_sum_8 : decode cX12_sum 8 = .ok (.aload_n 0, 1) := by decide +kernel
theorem dX12_sum_9 : decode cX12_sum 9 = .ok (.iload_n 1, 1) := by decide +kernel
theorem dX12_sum_10 : decode cX12_sum 10 = .ok (.invokevirtual 129, 3) := by decide +kernel
theorem dX12_sum_13 : decode cX12_sum 13 = .ok (.ifCond .eq 11, 3) := by decide +kernel
theorem dX12_sum_16 : decode cX12_sum 16 = .ok (.aload_n 0, 1) := by decide +kernel
theorem dX12_sum_17 : decode cX12_sum 17 = .ok (.iload_n 2, 1) := by decide +kernel
theorem dX12_sum_18 : decode cX12_sum 18 = .ok (.invokevirtual 129, 3) := by decide +kernel
theorem dX12_sum_21 : decode cX12_sum 21 = .ok (.ifCond .ne 7, 3) := by decide +kernel
theorem dX12_sum_24 : decode cX12_sum 24 = .ok (.iconst 1, 1) := by decide +kernel
theorem dX12_sum_25 : decode cX12_sum 25 = .ok (.goto 4, 3) := by decide +kernel
theorem dX12_sum_28 : decode cX12_sum 28 = .ok (.iconst 0, 1) := by decide +kernel
theorem dX12_sum_29 : decode cX12_sum 29 = .ok (.iconst 2, 1) := by decide +kernel
theorem dX12_sum_30 : decode cX12_sum 30 = .ok (.invokevirtual 215, 3) := by decide +kernel
theorem dX12_sum_33 : decode cX12_sum 33 = .ok (.ifCond .ne 25, 3) := by decide +kernel
theorem dX12_sum_36 : decode cX12_sum 36 = .ok (.aload_n 0, 1) := by decide +kernel
theorem dX12_sum_37 : decode cX12_sum 37 = .ok (.aload_n 0, 1) := by decide +kernel
theorem dX12_sum_38 : decode cX12_sum 38 = .ok (.iload_n 1, 1) := by decide +kernel
theorem dX12_sum_39 : decode cX12_sum 39 = .ok (.iload_n 2, 1) := by decide +kernel
theorem dX12_sum_40 : decode cX12_sum 40 = .ok (.invokevirtual 175, 3) := by decide +kernel
theorem dX12_sum_43 : decode cX12_sum 43 = .ok (.ifCond .ne 7, 3) := by decide +kernel
theorem dX12_sum_46 : decode cX12_sum 46 = .ok (.iconst 1, 1) := by decide +kernel
theorem dX12_sum_47 : decode cX12_sum 47 = .ok (.goto 4, 3) := by decide +kernel
theorem dX12_sum_50 : decode cX12_sum 50 = .ok (.iconst 0, 1) := by decide +kernel
theorem dX12_sum_51 : decode cX12_sum 51 = .ok (.iconst 3, 1) := by decide +kernel
theorem dX12_sum_52 : decode cX12_sum 52 = .ok (.invokevirtual 215, 3) := by decide +kernel
theorem dX12_sum_55 : decode cX12_sum 55 = .ok (.ifCond .eq 5, 3) := by decide +kernel
theorem dX12_sum_58 : decode cX12_sum 58 = .ok (.iconst 0, 1) := by decide +kernel
theorem dX12_sum_59 : decode cX12_sum 59 = .ok (.ireturn, 1) := by decide +kernel
theorem dX12_sum_60 : decode cX12_sum 60 = .ok (.aload_n 0, 1) := by decide +kernel
theorem dX12_sum_61 : decode cX12_sum 61 = .ok (.getfield 57, 3) := by decide +kernel
theorem dX12_sum_64 : decode cX12_sum 64 = .ok (.aload_n 0, 1) := by decide +kernel
theorem dX12_sum_65 : decode cX12_sum 65 = .ok (.getfield 51, 3) := by decide +kernel
theorem dX12_sum_68 : decode cX12_sum 68 = .ok (.bipush 16, 2) := by decide +kernel
theorem dX12_sum_70 : decode cX12_sum 70 = .ok (.iload_n 1, 1) := by decide +kernel
theorem dX12_sum_71 : decode cX12_sum 71 = .ok (.imul, 1) := by decide +kernel
theorem dX12_sum_72 : decode cX12_sum 72 = .ok (.iload_n 2, 1) := by decide +kernel
theorem dX12_sum_73 : decode cX12_sum 73 = .ok (.iadd, 1) := by decide +kernel
theorem dX12_sum_74 : decode cX12_sum 74 = .ok (.iaload, 1) := by decide +kernel
theorem dX12_sum_75 : decode cX12_sum 75 = .ok (.iaload, 1) := by decide +kernel
theorem dX12_sum_76 : decode cX12_sum 76 = .ok (.ireturn, 1) := by decide +kernel
theorem dX12_takeEdge_0 : decode cX12_takeEdge 0 = .ok (.iconst 0, 1) := by decide +kernel
theorem dX12_takeEdge_1 : decode cX12_takeEdge 1 = .ok (.istore_n 3, 1) := by decide +kernel
theorem dX12_takeEdge_2 : decode cX12_takeEdge 2 = .ok (.iconst 0, 1) := by decide +kernel
theorem dX12_takeEdge_3 : decode cX12_takeEdge 3 = .ok (.istore 4, 2) := by decide +kernel
theorem dX12_takeEdge_5 : decode cX12_takeEdge 5 = .ok (.iload 4, 2) := by decide +kernel
theorem dX12_takeEdge_7 : decode cX12_takeEdge 7 = .ok (.aload_n 0, 1) := by decide +kernel
theorem dX12_takeEdge_8 : decode cX12_takeEdge 8 = .ok (.getfield 133, 3) := by decide +kernel
theorem dX12_takeEdge_11 : decode cX12_takeEdge 11 = .ok (.if_icmp .ge 91, 3) := by decide +kernel
theorem dX12_takeEdge_14 : decode cX12_takeEdge 14 = .ok (.iload_n 3, 1) := by decide +kernel
theorem dX12_takeEdge_15 : decode cX12_takeEdge 15 = .ok (.ifCond .ne 75, 3) := by decide +kernel
theorem dX12_takeEdge_18 : decode cX12_takeEdge 18 = .ok (.aload_n 0, 1) := by decide +kernel
theorem dX12_takeEdge_19 : decode cX12_takeEdge 19 = .ok (.getfield 7, 3) := by decide +kernel
theorem dX12_takeEdge_22 : decode cX12_takeEdge 22 = .ok (.iload_n 1, 1) := by decide +kernel
theorem dX12_takeEdge_23 : decode cX12_takeEdge 23 = .ok (.iaload, 1) := by decide +kernel
theorem dX12_takeEdge_24 : decode cX12_takeEdge 24 = .ok (.aload_n 0, 1) := by decide +kernel
theorem dX12_takeEdge_25 : decode cX12_takeEdge 25 = .ok (.getfield 13, 3) := by decide +kernel
theorem dX12_takeEdge_28 : decode cX12_takeEdge 28 = .ok (.iload_n 1, 1) := by decide +kernel
theorem dX12_takeEdge_29 : decode cX12_takeEdge 29 = .ok (.iaload, 1) := by decide +kernel
theorem dX12_takeEdge_30 : decode cX12_takeEdge 30 = .ok (.aload_n 0, 1) := by decide +kernel
theorem dX12_takeEdge_31 : decode cX12_takeEdge 31 = .ok (.getfield 7, 3) := by decide +kernel
theorem dX12_takeEdge_34 : decode cX12_takeEdge 34 = .ok (.iload_n 2, 1) := by decide +kernel
theorem dX12_takeEdge_35 : decode cX12_takeEdge 35 = .ok (.iaload, 1) := by decide +kernel
theorem dX12_takeEdge_36 : decode cX12_takeEdge 36 = .ok (.aload_n 0, 1) := by decide +kernel
theorem dX12_takeEdge_37 : decode cX12_takeEdge 37 = .ok (.getfield 13, 3) := by decide +kernel
theorem dX12_takeEdge_40 : decode cX12_takeEdge 40 = .ok (.iload_n 2, 1) := by decide +kernel
theorem dX12_takeEdge_41 : decode cX12_takeEdge 41 = .ok (.iaload, 1) := by decide +kernel
theorem dX12_takeEdge_42 : decode cX12_takeEdge 42 = .ok (.aload_n 0, 1) := by decide +kernel
theorem dX12_takeEdge_43 : decode cX12_takeEdge 43 = .ok (.getfield 31, 3) := by decide +kernel
theorem dX12_takeEdge_46 : decode cX12_takeEdge 46 = .ok (.iconst 4, 1) := by decide +kernel
theorem dX12_takeEdge_47 : decode cX12_takeEdge 47 = .ok (.iload 4, 2) := by decide +kernel
theorem dX12_takeEdge_49 : decode cX12_takeEdge 49 = .ok (.imul, 1) := by decide +kernel
theorem dX12_takeEdge_50 : decode cX12_takeEdge 50 = .ok (.iaload, 1) := by decide +kernel
theorem dX12_takeEdge_51 : decode cX12_takeEdge 51 = .ok (.aload_n 0, 1) := by decide +kernel
theorem dX12_takeEdge_52 : decode cX12_takeEdge 52 = .ok (.getfield 31, 3) := by decide +kernel
theorem dX12_takeEdge_55 : decode cX12_takeEdge 55 = .ok (.iconst 4, 1) := by decide +kernel
theorem dX12_takeEdge_56 : decode cX12_takeEdge 56 = .ok (.iload 4, 2) := by decide +kernel
theorem dX12_takeEdge_58 : decode cX12_takeEdge 58 = .ok (.imul, 1) := by decide +kernel
theorem dX12_takeEdge_59 : decode cX12_takeEdge 59 = .ok (.iconst 1, 1) := by decide +kernel
theorem dX12_takeEdge_60 : decode cX12_takeEdge 60 = .ok (.iadd, 1) := by decide +kernel
theorem dX12_takeEdge_61 : decode cX12_takeEdge 61 = .ok (.iaload, 1) := by decide +kernel
theorem dX12_takeEdge_62 : decode cX12_takeEdge 62 = .ok (.aload_n 0, 1) := by decide +kernel
theorem dX12_takeEdge_63 : decode cX12_takeEdge 63 = .ok (.getfield 31, 3) := by decide +kernel
theorem dX12_takeEdge_66 : decode cX12_takeEdge 66 = .ok (.iconst 4, 1) := by decide +kernel
theorem dX12_takeEdge_67 : decode cX12_takeEdge 67 = .ok (.iload 4, 2) := by decide +kernel
theorem dX12_takeEdge_69 : decode cX12_takeEdge 69 = .ok (.imul, 1) := by decide +kernel
theorem dX12_takeEdge_70 : decode cX12_takeEdge 70 = .ok (.iconst 2, 1) := by decide +kernel
theorem dX12_takeEdge_71 : decode cX12_takeEdge 71 = .ok (.iadd, 1) := by decide +kernel
theorem dX12_takeEdge_72 : decode cX12_takeEdge 72 = .ok (.iaload, 1) := by decide +kernel
theorem dX12_takeEdge_73 : decode cX12_takeEdge 73 = .ok (.aload_n 0, 1) := by decide +kernel
theorem dX12_takeEdge_74 : decode cX12_takeEdge 74 = .ok (.getfield 31, 3) := by decide +kernel
theorem dX12_takeEdge_77 : decode cX12_takeEdge 77 = .ok (.iconst 4, 1) := by decide +kernel
theorem dX12_takeEdge_78 : decode cX12_takeEdge 78 = .ok (.iload 4, 2) := by decide +kernel
theorem dX12_takeEdge_80 : decode cX12_takeEdge 80 = .ok (.imul, 1) := by decide +kernel
theorem dX12_takeEdge_81 : decode cX12_takeEdge 81 = .ok (.iconst 3, 1) := by decide +kernel
theorem dX12_takeEdge_82 : decode cX12_takeEdge 82 = .ok (.iadd, 1) := by decide +kernel
theorem dX12_takeEdge_83 : decode cX12_takeEdge 83 = .ok (.iaload, 1) := by decide +kernel
theorem dX12_takeEdge_84 : decode cX12_takeEdge 84 = .ok (.invokestatic 160, 3) := by decide +kernel
theorem dX12_takeEdge_87 : decode cX12_takeEdge 87 = .ok (.ifCond .eq 7, 3) := by decide +kernel
theorem dX12_takeEdge_90 : decode cX12_takeEdge 90 = .ok (.iconst 1, 1) := by decide +kernel
theorem dX12_takeEdge_91 : decode cX12_takeEdge 91 = .ok (.goto 4, 3) := by decide +kernel
theorem dX12_takeEdge_94 : decode cX12_takeEdge 94 = .ok (.iconst 0, 1) := by decide +kernel
theorem dX12_takeEdge_95 : decode cX12_takeEdge 95 = .ok (.istore_n 3, 1) := by decide +kernel
theorem dX12_takeEdge_96 : decode cX12_takeEdge 96 = .ok (.iinc 4 1, 3) := by decide +kernel
theorem dX12_takeEdge_99 : decode cX12_takeEdge 99 = .ok (.goto (-94), 3) := by decide +kernel
theorem dX12_takeEdge_102 : decode cX12_takeEdge 102 = .ok (.aload_n 0, 1) := by decide +kernel
theorem dX12_takeEdge_103 : decode cX12_takeEdge 103 = .ok (.getfield 41, 3) := by decide +kernel
theorem dX12_takeEdge_106 : decode cX12_takeEdge 106 = .ok (.aload_n 0, 1) := by decide +kernel
theorem dX12_takeEdge_107 : decode cX12_takeEdge 107 = .ok (.getfield 157, 3) := by decide +kernel
theorem dX12_takeEdge_110 : decode cX12_takeEdge 110 = .ok (.iload_n 1, 1) := by decide +kernel
theorem dX12_takeEdge_111 : decode cX12_takeEdge 111 = .ok (.iastore, 1) := by decide +kernel
theorem dX12_takeEdge_112 : decode cX12_takeEdge 112 = .ok (.aload_n 0, 1) := by decide +kernel
theorem dX12_takeEdge_113 : decode cX12_takeEdge 113 = .ok (.getfield 44, 3) := by decide +kernel
theorem dX12_takeEdge_116 : decode cX12_takeEdge 116 = .ok (.aload_n 0, 1) := by decide +kernel
theorem dX12_takeEdge_117 : decode cX12_takeEdge 117 = .ok (.getfield 157, 3) := by decide +kernel
theorem dX12_takeEdge_120 : decode cX12_takeEdge 120 = .ok (.iload_n 2, 1) := by decide +kernel
theorem dX12_takeEdge_121 : decode cX12_takeEdge 121 = .ok (.iastore, 1) := by decide +kernel
theorem dX12_takeEdge_122 : decode cX12_takeEdge 122 = .ok (.aload_n 0, 1) := by decide +kernel
theorem dX12_takeEdge_123 : decode cX12_takeEdge 123 = .ok (.getfield 47, 3) := by decide +kernel
theorem dX12_takeEdge_126 : decode cX12_takeEdge 126 = .ok (.aload_n 0, 1) := by decide +kernel
theorem dX12_takeEdge_127 : decode cX12_takeEdge 127 = .ok (.getfield 157, 3) := by decide +kernel
theorem dX12_takeEdge_130 : decode cX12_takeEdge 130 = .ok (.iload_n 3, 1) := by decide +kernel
theorem dX12_takeEdge_131 : decode cX12_takeEdge 131 = .ok (.bastore, 1) := by decide +kernel
theorem dX12_takeEdge_132 : decode cX12_takeEdge 132 = .ok (.aload_n 0, 1) := by decide +kernel
theorem dX12_takeEdge_133 : decode cX12_takeEdge 133 = .ok (.getfield 51, 3) := by decide +kernel
theorem dX12_takeEdge_136 : decode cX12_takeEdge 136 = .ok (.bipush 16, 2) := by decide +kernel
theorem dX12_takeEdge_138 : decode cX12_takeEdge 138 = .ok (.iload_n 1, 1) := by decide +kernel
theorem dX12_takeEdge_139 : decode cX12_takeEdge 139 = .ok (.imul, 1) := by decide +kernel
theorem dX12_takeEdge_140 : decode cX12_takeEdge 140 = .ok (.iload_n 2, 1) := by decide +kernel
theorem dX12_takeEdge_141 : decode cX12_takeEdge 141 = .ok (.iadd, 1) := by decide +kernel
theorem dX12_takeEdge_142 : decode cX12_takeEdge 142 = .ok (.aload_n 0, 1) := by decide +kernel
theorem dX12_takeEdge_143 : decode cX12_takeEdge 143 = .ok (.getfield 157, 3) := by decide +kernel
theorem dX12_takeEdge_146 : decode cX12_takeEdge 146 = .ok (.iastore, 1) := by decide +kernel
theorem dX12_takeEdge_147 : decode cX12_takeEdge 147 = .ok (.aload_n 0, 1) := by decide +kernel
theorem dX12_takeEdge_148 : decode cX12_takeEdge 148 = .ok (.getfield 51, 3) := by decide +kernel
theorem dX12_takeEdge_151 : decode cX12_takeEdge 151 = .ok (.bipush 16, 2) := by decide +kernel
theorem dX12_takeEdge_153 : decode cX12_takeEdge 153 = .ok (.iload_n 2, 1) := by decide +kernel
theorem dX12_takeEdge_154 : decode cX12_takeEdge 154 = .ok (.imul, 1) := by decide +kernel
theorem dX12_takeEdge_155 : decode cX12_takeEdge 155 = .ok (.iload_n 1, 1) := by decide +kernel
theorem dX12_takeEdge_156 : decode cX12_takeEdge 156 = .ok (.iadd, 1) := by decide +kernel
theorem dX12_takeEdge_157 : decode cX12_takeEdge 157 = .ok (.aload_n 0, 1) := by decide +kernel
theorem dX12_takeEdge_158 : decode cX12_takeEdge 158 = .ok (.getfield 157, 3) := by decide +kernel
theorem dX12_takeEdge_161 : decode cX12_takeEdge 161 = .ok (.iastore, 1) := by decide +kernel
theorem dX12_takeEdge_162 : decode cX12_takeEdge 162 = .ok (.aload_n 0, 1) := by decide +kernel
theorem dX12_takeEdge_163 : decode cX12_takeEdge 163 = .ok (.dup, 1) := by decide +kernel
theorem dX12_takeEdge_164 : decode cX12_takeEdge 164 = .ok (.getfield 157, 3) := by decide +kernel
theorem dX12_takeEdge_167 : decode cX12_takeEdge 167 = .ok (.iconst 1, 1) := by decide +kernel
theorem dX12_takeEdge_168 : decode cX12_takeEdge 168 = .ok (.iadd, 1) := by decide +kernel
theorem dX12_takeEdge_169 : decode cX12_takeEdge 169 = .ok (.putfield 157, 3) := by decide +kernel
theorem dX12_takeEdge_172 : decode cX12_takeEdge 172 = .ok (.return_, 1) := by decide +kernel
theorem dX12_tell_0 : decode cX12_tell 0 = .ok (.lload_n 1, 1) := by decide +kernel
theorem dX12_tell_1 : decode cX12_tell 1 = .ok (.lconst 0, 1) := by decide +kernel
theorem dX12_tell_2 : decode cX12_tell 2 = .ok (.lcmp, 1) := by decide +kernel
theorem dX12_tell_3 : decode cX12_tell 3 = .ok (.ifCond .ge 8, 3) := by decide +kernel
theorem dX12_tell_6 : decode cX12_tell 6 = .ok (.lload_n 1, 1) := by decide +kernel
theorem dX12_tell_7 : decode cX12_tell 7 = .ok (.lneg, 1) := by decide +kernel
theorem dX12_tell_8 : decode cX12_tell 8 = .ok (.goto 4, 3) := by decide +kernel
theorem dX12_tell_11 : decode cX12_tell 11 = .ok (.lload_n 1, 1) := by decide +kernel
theorem dX12_tell_12 : decode cX12_tell 12 = .ok (.lstore 5, 2) := by decide +kernel
theorem dX12_tell_14 : decode cX12_tell 14 = .ok (.lload_n 3, 1) := by decide +kernel
theorem dX12_tell_15 : decode cX12_tell 15 = .ok (.lconst 0, 1) := by decide +kernel
theorem dX12_tell_16 : decode cX12_tell 16 = .ok (.lcmp, 1) := by decide +kernel
theorem dX12_tell_17 : decode cX12_tell 17 = .ok (.ifCond .ge 8, 3) := by decide +kernel
theorem dX12_tell_20 : decode cX12_tell 20 = .ok (.lload_n 3, 1) := by decide +kernel
theorem dX12_tell_21 : decode cX12_tell 21 = .ok (.lneg, 1) := by decide +kernel
theorem dX12_tell_22 : decode cX12_tell 22 = .ok (.goto 4, 3) := by decide +kernel
theorem dX12_tell_25 : decode cX12_tell 25 = .ok (.lload_n 3, 1) := by decide +kernel
theorem dX12_tell_26 : decode cX12_tell 26 = .ok (.lstore 7, 2) := by decide +kernel
theorem dX12_tell_28 : decode cX12_tell 28 = .ok (.lload 7, 2) := by decide +kernel
theorem dX12_tell_30 : decode cX12_tell 30 = .ok (.lconst 0, 1) := by decide +kernel
theorem dX12_tell_31 : decode cX12_tell 31 = .ok (.lcmp, 1) := by decide +kernel
theorem dX12_tell_32 : decode cX12_tell 32 = .ok (.ifCond .eq 21, 3) := by decide +kernel
theorem dX12_tell_35 : decode cX12_tell 35 = .ok (.lload 5, 2) := by decide +kernel
theorem dX12_tell_37 : decode cX12_tell 37 = .ok (.lload 7, 2) := by decide +kernel
theorem dX12_tell_39 : decode cX12_tell 39 = .ok (.lrem, 1) := by decide +kernel
theorem dX12_tell_40 : decode cX12_tell 40 = .ok (.lstore 9, 2) := by decide +kernel
theorem dX12_tell_42 : decode cX12_tell 42 = .ok (.lload 7, 2) := by decide +kernel
theorem dX12_tell_44 : decode cX12_tell 44 = .ok (.lstore 5, 2) := by decide +kernel
theorem dX12_tell_46 : decode cX12_tell 46 = .ok (.lload 9, 2) := by decide +kernel
theorem dX12_tell_48 : decode cX12_tell 48 = .ok (.lstore 7, 2) := by decide +kernel
theorem dX12_tell_50 : decode cX12_tell 50 = .ok (.goto (-22), 3) := by decide +kernel
theorem dX12_tell_53 : decode cX12_tell 53 = .ok (.lload_n 3, 1) := by decide +kernel
theorem dX12_tell_54 : decode cX12_tell 54 = .ok (.lconst 0, 1) := by decide +kernel
theorem dX12_tell_55 : decode cX12_tell 55 = .ok (.lcmp, 1) := by decide +kernel
theorem dX12_tell_56 : decode cX12_tell 56 = .ok (.ifCond .ge 9, 3) := by decide +kernel
theorem dX12_tell_59 : decode cX12_tell 59 = .ok (.lload 5, 2) := by decide +kernel
theorem dX12_tell_61 : decode cX12_tell 61 = .ok (.lneg, 1) := by decide +kernel
theorem dX12_tell_62 : decode cX12_tell 62 = .ok (.goto 5, 3) := by decide +kernel
theorem dX12_tell_65 : decode cX12_tell 65 = .ok (.lload 5, 2) := by decide +kernel
theorem dX12_tell_67 : decode cX12_tell 67 = .ok (.lstore 5, 2) := by decide +kernel
theorem dX12_tell_69 : decode cX12_tell 69 = .ok (.aload_n 0, 1) := by decide +kernel
theorem dX12_tell_70 : decode cX12_tell 70 = .ok (.lload_n 1, 1) := by decide +kernel
theorem dX12_tell_71 : decode cX12_tell 71 = .ok (.lload 5, 2) := by decide +kernel
theorem dX12_tell_73 : decode cX12_tell 73 = .ok (.ldiv, 1) := by decide +kernel
theorem dX12_tell_74 : decode cX12_tell 74 = .ok (.putfield 227, 3) := by decide +kernel
theorem dX12_tell_77 : decode cX12_tell 77 = .ok (.aload_n 0, 1) := by decide +kernel
theorem dX12_tell_78 : decode cX12_tell 78 = .ok (.lload_n 3, 1) := by decide +kernel
theorem dX12_tell_79 : decode cX12_tell 79 = .ok (.lload 5, 2) := by decide +kernel
theorem dX12_tell_81 : decode cX12_tell 81 = .ok (.ldiv, 1) := by decide +kernel
theorem dX12_tell_82 : decode cX12_tell 82 = .ok (.putfield 231, 3) := by decide +kernel
theorem dX12_tell_85 : decode cX12_tell 85 = .ok (.return_, 1) := by decide +kernel
theorem dX12_thickness_0 : decode cX12_thickness 0 = .ok (.lconst 0, 1) := by decide +kernel
theorem dX12_thickness_1 : decode cX12_thickness 1 = .ok (.lstore_n 3, 1) := by decide +kernel
theorem dX12_thickness_2 : decode cX12_thickness 2 = .ok (.iconst 0, 1) := by decide +kernel
theorem dX12_thickness_3 : decode cX12_thickness 3 = .ok (.istore 5, 2) := by decide +kernel
theorem dX12_thickness_5 : decode cX12_thickness 5 = .ok (.iload 5, 2) := by decide +kernel
theorem dX12_thickness_7 : decode cX12_thickness 7 = .ok (.aload_n 0, 1) := by decide +kernel
theorem dX12_thickness_8 : decode cX12_thickness 8 = .ok (.getfield 19, 3) := by decide +kernel
theorem dX12_thickness_11 : decode cX12_thickness 11 = .ok (.iload_n 2, 1) := by decide +kernel
theorem dX12_thickness_12 : decode cX12_thickness 12 = .ok (.iaload, 1) := by decide +kernel
theorem dX12_thickness_13 : decode cX12_thickness 13 = .ok (.if_icmp .ge 45, 3) := by decide +kernel
theorem dX12_thickness_16 : decode cX12_thickness 16 = .ok (.lload_n 3, 1) := by decide +kernel
theorem dX12_thickness_17 : decode cX12_thickness 17 = .ok (.aload_n 0, 1) := by decide +kernel
theorem dX12_thickness_18 : decode cX12_thickness 18 = .ok (.getfield 63, 3) := by decide +kernel
theorem dX12_thickness_21 : decode cX12_thickness 21 = .ok (.bipush 12, 2) := by decide +kernel
theorem dX12_thickness_23 : decode cX12_thickness 23 = .ok (.iload_n 2, 1) := by decide +kernel
theorem dX12_thickness_24 : decode cX12_thickness 24 = .ok (.imul, 1) := by decide +kernel
theorem dX12_thickness_25 : decode cX12_thickness 25 = .ok (.iload 5, 2) := by decide +kernel
theorem dX12_thickness_27 : decode cX12_thickness 27 = .ok (.iadd, 1) := by decide +kernel
theorem dX12_thickness_28 : decode cX12_thickness 28 = .ok (.iaload, 1) := by decide +kernel
theorem dX12_thickness_29 : decode cX12_thickness 29 = .ok (.iload_n 1, 1) := by decide +kernel
theorem dX12_thickness_30 : decode cX12_thickness 30 = .ok (.if_icmp .ne 19, 3) := by decide +kernel
theorem dX12_thickness_33 : decode cX12_thickness 33 = .ok (.aload_n 0, 1) := by decide +kernel
theorem dX12_thickness_34 : decode cX12_thickness 34 = .ok (.getfield 25, 3) := by decide +kernel
theorem dX12_thickness_37 : decode cX12_thickness 37 = .ok (.bipush 12, 2) := by decide +kernel
theorem dX12_thickness_39 : decode cX12_thickness 39 = .ok (.iload_n 2, 1) := by decide +kernel
theorem dX12_thickness_40 : decode cX12_thickness 40 = .ok (.imul, 1) := by decide +kernel
theorem dX12_thickness_41 : decode cX12_thickness 41 = .ok (.iload 5, 2) := by decide +kernel
theorem dX12_thickness_43 : decode cX12_thickness 43 = .ok (.iadd, 1) := by decide +kernel
theorem dX12_thickness_44 : decode cX12_thickness 44 = .ok (.iaload, 1) := by decide +kernel
theorem dX12_thickness_45 : decode cX12_thickness 45 = .ok (.i2l, 1) := by decide +kernel
theorem dX12_thickness_46 : decode cX12_thickness 46 = .ok (.goto 4, 3) := by decide +kernel
theorem dX12_thickness_49 : decode cX12_thickness 49 = .ok (.lconst 0, 1) := by decide +kernel
theorem dX12_thickness_50 : decode cX12_thickness 50 = .ok (.ladd, 1) := by decide +kernel
theorem dX12_thickness_51 : decode cX12_thickness 51 = .ok (.lstore_n 3, 1) := by decide +kernel
theorem dX12_thickness_52 : decode cX12_thickness 52 = .ok (.iinc 5 1, 3) := by decide +kernel
theorem dX12_thickness_55 : decode cX12_thickness 55 = .ok (.goto (-50), 3) := by decide +kernel
theorem dX12_thickness_58 : decode cX12_thickness 58 = .ok (.lload_n 3, 1) := by decide +kernel
theorem dX12_thickness_59 : decode cX12_thickness 59 = .ok (.lreturn, 1) := by decide +kernel
theorem dX12_thrown_0 : decode cX12_thrown 0 = .ok (.aload_n 0, 1) := by decide +kernel
theorem dX12_thrown_1 : decode cX12_thrown 1 = .ok (.getfield 106, 3) := by decide +kernel
theorem dX12_thrown_4 : decode cX12_thrown 4 = .ok (.ireturn, 1) := by decide +kernel
theorem dX12_triangle_0 : decode cX12_triangle 0 = .ok (.aload_n 0, 1) := by decide +kernel
theorem dX12_triangle_1 : decode cX12_triangle 1 = .ok (.invokevirtual 219, 3) := by decide +kernel
theorem dX12_triangle_4 : decode cX12_triangle 4 = .ok (.ifCond .ne 52, 3) := by decide +kernel
theorem dX12_triangle_7 : decode cX12_triangle 7 = .ok (.aload_n 0, 1) := by decide +kernel
theorem dX12_triangle_8 : decode cX12_triangle 8 = .ok (.iload_n 1, 1) := by decide +kernel
theorem dX12_triangle_9 : decode cX12_triangle 9 = .ok (.iconst 0, 1) := by decide +kernel
theorem dX12_triangle_10 : decode cX12_triangle 10 = .ok (.aload_n 0, 1) := by decide +kernel
theorem dX12_triangle_11 : decode cX12_triangle 11 = .ok (.getfield 182, 3) := by decide +kernel
theorem dX12_triangle_14 : decode cX12_triangle 14 = .ok (.iconst 1, 1) := by decide +kernel
theorem dX12_triangle_15 : decode cX12_triangle 15 = .ok (.isub, 1) := by decide +kernel
theorem dX12_triangle_16 : decode cX12_triangle 16 = .ok (.invokestatic 109, 3) := by decide +kernel
theorem dX12_triangle_19 : decode cX12_triangle 19 = .ok (.ifCond .ne 7, 3) := by decide +kernel
theorem dX12_triangle_22 : decode cX12_triangle 22 = .ok (.iconst 1, 1) := by decide +kernel
theorem dX12_triangle_23 : decode cX12_triangle 23 = .ok (.goto 4, 3) := by decide +kernel
theorem dX12_triangle_26 : decode cX12_triangle 26 = .ok (.iconst 0, 1) := by decide +kernel
theorem dX12_triangle_27 : decode cX12_triangle 27 = .ok (.iconst 2, 1) := by decide +kernel
theorem dX12_triangle_28 : decode cX12_triangle 28 = .ok (.invokevirtual 215, 3) := by decide +kernel
theorem dX12_triangle_31 : decode cX12_triangle 31 = .ok (.ifCond .ne 25, 3) := by decide +kernel
theorem dX12_triangle_34 : decode cX12_triangle 34 = .ok (.aload_n 0, 1) := by decide +kernel
theorem dX12_triangle_35 : decode cX12_triangle 35 = .ok (.iload_n 2, 1) := by decide +kernel
theorem dX12_triangle_36 : decode cX12_triangle 36 = .ok (.iconst 0, 1) := by decide +kernel
theorem dX12_triangle_37 : decode cX12_triangle 37 = .ok (.iconst 2, 1) := by decide +kernel
theorem dX12_triangle_38 : decode cX12_triangle 38 = .ok (.invokestatic 109, 3) := by decide +kernel
theorem dX12_triangle_41 : decode cX12_triangle 41 = .ok (.ifCond .ne 7, 3) := by decide +kernel
theorem dX12_triangle_44 : decode cX12_triangle 44 = .ok (.iconst 1, 1) := by decide +kernel
theorem dX12_triangle_45 : decode cX12_triangle 45 = .ok (.goto 4, 3) := by decide +kernel
theorem dX12_triangle_48 : decode cX12_triangle 48 = .ok (.iconst 0, 1) := by decide +kernel
theorem dX12_triangle_49 : decode cX12_triangle 49 = .ok (.iconst 3, 1) := by decide +kernel
theorem dX12_triangle_50 : decode cX12_triangle 50 = .ok (.invokevirtual 215, 3) := by decide +kernel
theorem dX12_triangle_53 : decode cX12_triangle 53 = .ok (.ifCond .eq 5, 3) := by decide +kernel
theorem dX12_triangle_56 : decode cX12_triangle 56 = .ok (.iconst 0, 1) := by decide +kernel
theorem dX12_triangle_57 : decode cX12_triangle 57 = .ok (.ireturn, 1) := by decide +kernel
theorem dX12_triangle_58 : decode cX12_triangle 58 = .ok (.aload_n 0, 1) := by decide +kernel
theorem dX12_triangle_59 : decode cX12_triangle 59 = .ok (.getfield 60, 3) := by decide +kernel
theorem dX12_triangle_62 : decode cX12_triangle 62 = .ok (.iconst 3, 1) := by decide +kernel
theorem dX12_triangle_63 : decode cX12_triangle 63 = .ok (.iload_n 1, 1) := by decide +kernel
theorem dX12_triangle_64 : decode cX12_triangle 64 = .ok (.imul, 1) := by decide +kernel
theorem dX12_triangle_65 : decode cX12_triangle 65 = .ok (.iload_n 2, 1) := by decide +kernel
theorem dX12_triangle_66 : decode cX12_triangle 66 = .ok (.iadd, 1) := by decide +kernel
theorem dX12_triangle_67 : decode cX12_triangle 67 = .ok (.iaload, 1) := by decide +kernel
theorem dX12_triangle_68 : decode cX12_triangle 68 = .ok (.ireturn, 1) := by decide +kernel
theorem dX12_unit_0 : decode cX12_unit 0 = .ok (.aload_n 0, 1) := by decide +kernel
theorem dX12_unit_1 : decode cX12_unit 1 = .ok (.iconst 0, 1) := by decide +kernel
theorem dX12_unit_2 : decode cX12_unit 2 = .ok (.putfield 106, 3) := by decide +kernel
theorem dX12_unit_5 : decode cX12_unit 5 = .ok (.iload_n 1, 1) := by decide +kernel
theorem dX12_unit_6 : decode cX12_unit 6 = .ok (.bipush 32, 2) := by decide +kernel
theorem dX12_unit_8 : decode cX12_unit 8 = .ok (.bipush 126, 2) := by decide +kernel
theorem dX12_unit_10 : decode cX12_unit 10 = .ok (.invokestatic 109, 3) := by decide +kernel
theorem dX12_unit_13 : decode cX12_unit 13 = .ok (.ifCond .ne 9, 3) := by decide +kernel
theorem dX12_unit_16 : decode cX12_unit 16 = .ok (.iload_n 1, 1) := by decide +kernel
theorem dX12_unit_17 : decode cX12_unit 17 = .ok (.bipush 10, 2) := by decide +kernel
theorem dX12_unit_19 : decode cX12_unit 19 = .ok (.if_icmp .ne 13, 3) := by decide +kernel
theorem dX12_unit_22 : decode cX12_unit 22 = .ok (.aload_n 0, 1) := by decide +kernel
theorem dX12_unit_23 : decode cX12_unit 23 = .ok (.getfield 263, 3) := by decide +kernel
theorem dX12_unit_26 : decode cX12_unit 26 = .ok (.sipush 600, 3) := by decide +kernel
theorem dX12_unit_29 : decode cX12_unit 29 = .ok (.if_icmp .ne 5, 3) := by decide +kernel
theorem dX12_unit_32 : decode cX12_unit 32 = .ok (.iconst 0, 1) := by decide +kernel
theorem dX12_unit_33 : decode cX12_unit 33 = .ok (.ireturn, 1) := by decide +kernel
theorem dX12_unit_34 : decode cX12_unit 34 = .ok (.aload_n 0, 1) := by decide +kernel
theorem dX12_unit_35 : decode cX12_unit 35 = .ok (.getfield 72, 3) := by decide +kernel
theorem dX12_unit_38 : decode cX12_unit 38 = .ok (.aload_n 0, 1) := by decide +kernel
theorem dX12_unit_39 : decode cX12_unit 39 = .ok (.getfield 263, 3) := by decide +kernel
theorem dX12_unit_42 : decode cX12_unit 42 = .ok (.iload_n 1, 1) := by decide +kernel
theorem dX12_unit_43 : decode cX12_unit 43 = .ok (.iastore, 1) := by decide +kernel
theorem dX12_unit_44 : decode cX12_unit 44 = .ok (.aload_n 0, 1) := by decide +kernel
theorem dX12_unit_45 : decode cX12_unit 45 = .ok (.dup, 1) := by decide +kernel
theorem dX12_unit_46 : decode cX12_unit 46 = .ok (.getfield 263, 3) := by decide +kernel
theorem dX12_unit_49 : decode cX12_unit 49 = .ok (.iconst 1, 1) := by decide +kernel
theorem dX12_unit_50 : decode cX12_unit 50 = .ok (.iadd, 1) := by decide +kernel
theorem dX12_unit_51 : decode cX12_unit 51 = .ok (.putfield 263, 3) := by decide +kernel
theorem dX12_unit_54 : decode cX12_unit 54 = .ok (.iconst 1, 1) := by decide +kernel
theorem dX12_unit_55 : decode cX12_unit 55 = .ok (.ireturn, 1) := by decide +kernel
theorem dX12_volume_0 : decode cX12_volume 0 = .ok (.aload_n 0, 1) := by decide +kernel
theorem dX12_volume_1 : decode cX12_volume 1 = .ok (.invokevirtual 219, 3) := by decide +kernel
theorem dX12_volume_4 : decode cX12_volume 4 = .ok (.ifCond .ne 26, 3) := by decide +kernel
theorem dX12_volume_7 : decode cX12_volume 7 = .ok (.aload_n 0, 1) := by decide +kernel
theorem dX12_volume_8 : decode cX12_volume 8 = .ok (.iload_n 1, 1) := by decide +kernel
theorem dX12_volume_9 : decode cX12_volume 9 = .ok (.iconst 0, 1) := by decide +kernel
theorem dX12_volume_10 : decode cX12_volume 10 = .ok (.bipush 7, 2) := by decide +kernel
theorem dX12_volume_12 : decode cX12_volume 12 = .ok (.invokestatic 109, 3) := by decide +kernel
theorem dX12_volume_15 : decode cX12_volume 15 = .ok (.ifCond .ne 7, 3) := by decide +kernel
theorem dX12_volume_18 : decode cX12_volume 18 = .ok (.iconst 1, 1) := by decide +kernel
theorem dX12_volume_19 : decode cX12_volume 19 = .ok (.goto 4, 3) := by decide +kernel
theorem dX12_volume_22 : decode cX12_volume 22 = .ok (.iconst 0, 1) := by decide +kernel
theorem dX12_volume_23 : decode cX12_volume 23 = .ok (.iconst 2, 1) := by decide +kernel
theorem dX12_volume_24 : decode cX12_volume 24 = .ok (.invokevirtual 215, 3) := by decide +kernel
theorem dX12_volume_27 : decode cX12_volume 27 = .ok (.ifCond .eq 5, 3) := by decide +kernel
theorem dX12_volume_30 : decode cX12_volume 30 = .ok (.lconst 0, 1) := by decide +kernel
theorem dX12_volume_31 : decode cX12_volume 31 = .ok (.lreturn, 1) := by decide +kernel
theorem dX12_volume_32 : decode cX12_volume 32 = .ok (.lconst 0, 1) := by decide +kernel
theorem dX12_volume_33 : decode cX12_volume 33 = .ok (.lstore 6, 2) := by decide +kernel
theorem dX12_volume_35 : decode cX12_volume 35 = .ok (.iconst 0, 1) := by decide +kernel
theorem dX12_volume_36 : decode cX12_volume 36 = .ok (.istore 8, 2) := by decide +kernel
theorem dX12_volume_38 : decode cX12_volume 38 = .ok (.iload 8, 2) := by decide +kernel
theorem dX12_volume_40 : decode cX12_volume 40 = .ok (.aload_n 0, 1) := by decide +kernel
theorem dX12_volume_41 : decode cX12_volume 41 = .ok (.getfield 182, 3) := by decide +kernel
theorem dX12_volume_44 : decode cX12_volume 44 = .ok (.if_icmp .ge 414, 3) := by decide +kernel
theorem dX12_volume_47 : decode cX12_volume 47 = .ok (.iconst 1, 1) := by decide +kernel
theorem dX12_volume_48 : decode cX12_volume 48 = .ok (.istore 9, 2) := by decide +kernel
theorem dX12_volume_50 : decode cX12_volume 50 = .ok (.iconst 0, 1) := by decide +kernel
theorem dX12_volume_51 : decode cX12_volume 51 = .ok (.istore 10, 2) := by decide +kernel
theorem dX12_volume_53 : decode cX12_volume 53 = .ok (.iload 10, 2) := by decide +kernel
theorem dX12_volume_55 : decode cX12_volume 55 = .ok (.iconst 3, 1) := by decide +kernel
theorem dX12_volume_56 : decode cX12_volume 56 = .ok (.if_icmp .ge 67, 3) := by decide +kernel
theorem dX12_volume_59 : decode cX12_volume 59 = .ok (.aload_n 0, 1) := by decide +kernel
theorem dX12_volume_60 : decode cX12_volume 60 = .ok (.getfield 60, 3) := by decide +kernel
theorem dX12_volume_63 : decode cX12_volume 63 = .ok (.iconst 3, 1) := by decide +kernel
theorem dX12_volume_64 : decode cX12_volume 64 = .ok (.iload 8, 2) := by decide +kernel
theorem dX12_volume_66 : decode cX12_volume 66 = .ok (.imul, 1) := by decide +kernel
theorem dX12_volume_67 : decode cX12_volume 67 = .ok (.iload 10, 2) := by decide +kernel
theorem dX12_volume_69 : decode cX12_volume 69 = .ok (.iadd, 1) := by decide +kernel
theorem dX12_volume_70 : decode cX12_volume 70 = .ok (.iaload, 1) := by decide +kernel
theorem dX12_volume_71 : decode cX12_volume 71 = .ok (.istore 11, 2) := by decide +kernel
theorem dX12_volume_73 : decode cX12_volume 73 = .ok (.iload 9, 2) := by decide +kernel
theorem dX12_volume_75 : decode cX12_volume 75 = .ok (.ifCond .eq 39, 3) := by decide +kernel
theorem dX12_volume_78 : decode cX12_volume 78 = .ok (.aload_n 0, 1) := by decide +kernel
theorem dX12_volume_79 : decode cX12_volume 79 = .ok (.getfield 7, 3) := by decide +kernel
theorem dX12_volume_82 : decode cX12_volume 82 = .ok (.iload 11, 2) := by decide +kernel
theorem dX12_volume_84 : decode cX12_volume 84 = .ok (.iaload, 1) := by decide +kernel
theorem dX12_volume_85 : decode cX12_volume 85 = .ok (.iload_n 2, 1) := by decide +kernel
theorem dX12_volume_86 : decode cX12_volume 86 = .ok (.iload 4, 2) := by decide +kernel
theorem dX12_volume_88 : decode cX12_volume 88 = .ok (.invokestatic 109, 3) := by decide +kernel
theorem dX12_volume_91 : decode cX12_volume 91 = .ok (.ifCond .eq 23, 3) := by decide +kernel
theorem dX12_volume_94 : decode cX12_volume 94 = .ok (.aload_n 0, 1) := by decide +kernel
theorem dX12_volume_95 : decode cX12_volume 95 = .ok (.getfield 13, 3) := by decide +kernel
theorem dX12_volume_98 : decode cX12_volume 98 = .ok (.iload 11, 2) := by decide +kernel
theorem dX12_volume_100 : decode cX12_volume 100 = .ok (.iaload, 1) := by decide +kernel
theorem dX12_volume_101 : decode cX12_volume 101 = .ok (.iload_n 3, 1) := by decide +kernel
theorem dX12_volume_102 : decode cX12_volume 102 = .ok (.iload 5, 2) := by decide +kernel
theorem dX12_volume_104 : decode cX12_volume 104 = .ok (.invokestatic 109, 3) := by decide +kernel
theorem dX12_volume_107 : decode cX12_volume 107 = .ok (.ifCond .eq 7, 3) := by decide +kernel
theorem dX12_volume_110 : decode cX12_volume 110 = .ok (.iconst 1, 1) := by decide +kernel
theorem dX12_volume_111 : decode cX12_volume 111 = .ok (.goto 4, 3) := by decide +kernel
theorem dX12_volume_114 : decode cX12_volume 114 = .ok (.iconst 0, 1) := by decide +kernel
theorem dX12_volume_115 : decode cX12_volume 115 = .ok (.istore 9, 2) := by decide +kernel
theorem dX12_volume_117 : decode cX12_volume 117 = .ok (.iinc 10 1, 3) := by decide +kernel
theorem dX12_volume_120 : decode cX12_volume 120 = .ok (.goto (-67), 3) := by decide +kernel
theorem dX12_volume_123 : decode cX12_volume 123 = .ok (.aload_n 0, 1) := by decide +kernel
theorem dX12_volume_124 : decode cX12_volume 124 = .ok (.getfield 60, 3) := by decide +kernel
theorem dX12_volume_127 : decode cX12_volume 127 = .ok (.iconst 3, 1) := by decide +kernel
theorem dX12_volume_128 : decode cX12_volume 128 = .ok (.iload 8, 2) := by decide +kernel
theorem dX12_volume_130 : decode cX12_volume 130 = .ok (.imul, 1) := by decide +kernel
theorem dX12_volume_131 : decode cX12_volume 131 = .ok (.iaload, 1) := by decide +kernel
theorem dX12_volume_132 : decode cX12_volume 132 = .ok (.istore 10, 2) := by decide +kernel
theorem dX12_volume_134 : decode cX12_volume 134 = .ok (.aload_n 0, 1) := by decide +kernel
theorem dX12_volume_135 : decode cX12_volume 135 = .ok (.getfield 60, 3) := by decide +kernel
theorem dX12_volume_138 : decode cX12_volume 138 = .ok (.iconst 3, 1) := by decide +kernel
theorem dX12_volume_139 : decode cX12_volume 139 = .ok (.iload 8, 2) := by decide +kernel
theorem dX12_volume_141 : decode cX12_volume 141 = .ok (.imul, 1) := by decide +kernel
theorem dX12_volume_142 : decode cX12_volume 142 = .ok (.iconst 1, 1) := by decide +kernel
theorem dX12_volume_143 : decode cX12_volume 143 = .ok (.iadd, 1) := by decide +kernel
theorem dX12_volume_144 : decode cX12_volume 144 = .ok (.iaload, 1) := by decide +kernel
theorem dX12_volume_145 : decode cX12_volume 145 = .ok (.istore 11, 2) := by decide +kernel
theorem dX12_volume_147 : decode cX12_volume 147 = .ok (.aload_n 0, 1) := by decide +kernel
theorem dX12_volume_148 : decode cX12_volume 148 = .ok (.getfield 60, 3) := by decide +kernel
theorem dX12_volume_151 : decode cX12_volume 151 = .ok (.iconst 3, 1) := by decide +kernel
theorem dX12_volume_152 : decode cX12_volume 152 = .ok (.iload 8, 2) := by decide +kernel
theorem dX12_volume_154 : decode cX12_volume 154 = .ok (.imul, 1) := by decide +kernel
theorem dX12_volume_155 : decode cX12_volume 155 = .ok (.iconst 2, 1) := by decide +kernel
theorem dX12_volume_156 : decode cX12_volume 156 = .ok (.iadd, 1) := by decide +kernel
theorem dX12_volume_157 : decode cX12_volume 157 = .ok (.iaload, 1) := by decide +kernel
theorem dX12_volume_158 : decode cX12_volume 158 = .ok (.istore 12, 2) := by decide +kernel
theorem dX12_volume_160 : decode cX12_volume 160 = .ok (.aload_n 0, 1) := by decide +kernel
theorem dX12_volume_161 : decode cX12_volume 161 = .ok (.getfield 7, 3) := by decide +kernel
theorem dX12_volume_164 : decode cX12_volume 164 = .ok (.iload 11, 2) := by decide +kernel
theorem dX12_volume_166 : decode cX12_volume 166 = .ok (.iaload, 1) := by decide +kernel
theorem dX12_volume_167 : decode cX12_volume 167 = .ok (.aload_n 0, 1) := by decide +kernel
theorem dX12_volume_168 : decode cX12_volume 168 = .ok (.getfield 7, 3) := by decide +kernel
theorem dX12_volume_171 : decode cX12_volume 171 = .ok (.iload 10, 2) := by decide +kernel
theorem dX12_volume_173 : decode cX12_volume 173 = .ok (.iaload, 1) := by decide +kernel
theorem dX12_volume_174 : decode cX12_volume 174 = .ok (.isub, 1) := by decide +kernel
theorem dX12_volume_175 : decode cX12_volume 175 = .ok (.i2l, 1) := by decide +kernel
theorem dX12_volume_176 : decode cX12_volume 176 = .ok (.aload_n 0, 1) := by decide +kernel
theorem dX12_volume_177 : decode cX12_volume 177 = .ok (.getfield 13, 3) := by decide +kernel
theorem dX12_volume_180 : decode cX12_volume 180 = .ok (.iload 11, 2) := by decide +kernel
theorem dX12_volume_182 : decode cX12_volume 182 = .ok (.iaload, 1) := by decide +kernel
theorem dX12_volume_183 : decode cX12_volume 183 = .ok (.aload_n 0, 1) := by decide +kernel
theorem dX12_volume_184 : decode cX12_volume 184 = .ok (.getfield 13, 3) := by decide +kernel
theorem dX12_volume_187 : decode cX12_volume 187 = .ok (.iload 10, 2) := by decide +kernel
theorem dX12_volume_189 : decode cX12_volume 189 = .ok (.iaload, 1) := by decide +kernel
theorem dX12_volume_190 : decode cX12_volume 190 = .ok (.isub, 1) := by decide +kernel
theorem dX12_volume_191 : decode cX12_volume 191 = .ok (.i2l, 1) := by decide +kernel
theorem dX12_volume_192 : decode cX12_volume 192 = .ok (.aload_n 0, 1) := by decide +kernel
theorem dX12_volume_193 : decode cX12_volume 193 = .ok (.getfield 7, 3) := by decide +kernel
theorem dX12_volume_196 : decode cX12_volume 196 = .ok (.iload 12, 2) := by decide +kernel
theorem dX12_volume_198 : decode cX12_volume 198 = .ok (.iaload, 1) := by decide +kernel
theorem dX12_volume_199 : decode cX12_volume 199 = .ok (.aload_n 0, 1) := by decide +kernel
theorem dX12_volume_200 : decode cX12_volume 200 = .ok (.getfield 7, 3) := by decide +kernel
theorem dX12_volume_203 : decode cX12_volume 203 = .ok (.iload 10, 2) := by decide +kernel
theorem dX12_volume_205 : decode cX12_volume 205 = .ok (.iaload, 1) := by decide +kernel
theorem dX12_volume_206 : decode cX12_volume 206 = .ok (.isub, 1) := by decide +kernel
theorem dX12_volume_207 : decode cX12_volume 207 = .ok (.i2l, 1) := by decide +kernel
theorem dX12_volume_208 : decode cX12_volume 208 = .ok (.aload_n 0, 1) := by decide +kernel
theorem dX12_volume_209 : decode cX12_volume 209 = .ok (.getfield 13, 3) := by decide +kernel
theorem dX12_volume_212 : decode cX12_volume 212 = .ok (.iload 12, 2) := by decide +kernel
theorem dX12_volume_214 : decode cX12_volume 214 = .ok (.iaload, 1) := by decide +kernel
theorem dX12_volume_215 : decode cX12_volume 215 = .ok (.aload_n 0, 1) := by decide +kernel
theorem dX12_volume_216 : decode cX12_volume 216 = .ok (.getfield 13, 3) := by decide +kernel
theorem dX12_volume_219 : decode cX12_volume 219 = .ok (.iload 10, 2) := by decide +kernel
theorem dX12_volume_221 : decode cX12_volume 221 = .ok (.iaload, 1) := by decide +kernel
theorem dX12_volume_222 : decode cX12_volume 222 = .ok (.isub, 1) := by decide +kernel
theorem dX12_volume_223 : decode cX12_volume 223 = .ok (.i2l, 1) := by decide +kernel
theorem dX12_volume_224 : decode cX12_volume 224 = .ok (.invokestatic 142, 3) := by decide +kernel
theorem dX12_volume_227 : decode cX12_volume 227 = .ok (.lstore 13, 2) := by decide +kernel
theorem dX12_volume_229 : decode cX12_volume 229 = .ok (.lload 13, 2) := by decide +kernel
theorem dX12_volume_231 : decode cX12_volume 231 = .ok (.lconst 0, 1) := by decide +kernel
theorem dX12_volume_232 : decode cX12_volume 232 = .ok (.lcmp, 1) := by decide +kernel
theorem dX12_volume_233 : decode cX12_volume 233 = .ok (.ifCond .ge 9, 3) := by decide +kernel
theorem dX12_volume_236 : decode cX12_volume 236 = .ok (.lload 13, 2) := by decide +kernel
theorem dX12_volume_238 : decode cX12_volume 238 = .ok (.lneg, 1) := by decide +kernel
theorem dX12_volume_239 : decode cX12_volume 239 = .ok (.goto 5, 3) := by decide +kernel
theorem dX12_volume_242 : decode cX12_volume 242 = .ok (.lload 13, 2) := by decide +kernel
theorem dX12_volume_244 : decode cX12_volume 244 = .ok (.lstore 13, 2) := by decide +kernel
theorem dX12_volume_246 : decode cX12_volume 246 = .ok (.iconst 0, 1) := by decide +kernel
theorem dX12_volume_247 : decode cX12_volume 247 = .ok (.istore 15, 2) := by decide +kernel
theorem dX12_volume_249 : decode cX12_volume 249 = .ok (.iload 15, 2) := by decide +kernel
theorem dX12_volume_251 : decode cX12_volume 251 = .ok (.aload_n 0, 1) := by decide +kernel
theorem dX12_volume_252 : decode cX12_volume 252 = .ok (.getfield 196, 3) := by decide +kernel
theorem dX12_volume_255 : decode cX12_volume 255 = .ok (.if_icmp .ge 197, 3) := by decide +kernel
theorem dX12_volume_258 : decode cX12_volume 258 = .ok (.iload 9, 2) := by decide +kernel
theorem dX12_volume_260 : decode cX12_volume 260 = .ok (.ifCond .eq 192, 3) := by decide +kernel
theorem dX12_volume_263 : decode cX12_volume 263 = .ok (.aload_n 0, 1) := by decide +kernel
theorem dX12_volume_264 : decode cX12_volume 264 = .ok (.getfield 22, 3) := by decide +kernel
theorem dX12_volume_267 : decode cX12_volume 267 = .ok (.aload_n 0, 1) := by decide +kernel
theorem dX12_volume_268 : decode cX12_volume 268 = .ok (.getfield 66, 3) := by decide +kernel
theorem dX12_volume_271 : decode cX12_volume 271 = .ok (.iload 15, 2) := by decide +kernel
theorem dX12_volume_273 : decode cX12_volume 273 = .ok (.iaload, 1) := by decide +kernel
theorem dX12_volume_274 : decode cX12_volume 274 = .ok (.iaload, 1) := by decide +kernel
theorem dX12_volume_275 : decode cX12_volume 275 = .ok (.iload_n 1, 1) := by decide +kernel
theorem dX12_volume_276 : decode cX12_volume 276 = .ok (.if_icmp .eq 6, 3) := by decide +kernel
theorem dX12_volume_279 : decode cX12_volume 279 = .ok (.goto 167, 3) := by decide +kernel
theorem dX12_volume_282 : decode cX12_volume 282 = .ok (.aload_n 0, 1) := by decide +kernel
theorem dX12_volume_283 : decode cX12_volume 283 = .ok (.iload 15, 2) := by decide +kernel
theorem dX12_volume_285 : decode cX12_volume 285 = .ok (.iconst (-1), 1) := by decide +kernel
theorem dX12_volume_286 : decode cX12_volume 286 = .ok (.iload 10, 2) := by decide +kernel
theorem dX12_volume_288 : decode cX12_volume 288 = .ok (.invokevirtual 242, 3) := by decide +kernel
theorem dX12_volume_291 : decode cX12_volume 291 = .ok (.ifCond .eq 7, 3) := by decide +kernel
theorem dX12_volume_294 : decode cX12_volume 294 = .ok (.iconst 1, 1) := by decide +kernel
theorem dX12_volume_295 : decode cX12_volume 295 = .ok (.goto 4, 3) := by decide +kernel
theorem dX12_volume_298 : decode cX12_volume 298 = .ok (.iconst 0, 1) := by decide +kernel
theorem dX12_volume_299 : decode cX12_volume 299 = .ok (.aload_n 0, 1) := by decide +kernel
theorem dX12_volume_300 : decode cX12_volume 300 = .ok (.iload 15, 2) := by decide +kernel
theorem dX12_volume_302 : decode cX12_volume 302 = .ok (.iconst (-1), 1) := by decide +kernel
theorem dX12_volume_303 : decode cX12_volume 303 = .ok (.iload 11, 2) := by decide +kernel
theorem dX12_volume_305 : decode cX12_volume 305 = .ok (.invokevirtual 242, 3) := by decide +kernel
theorem dX12_volume_308 : decode cX12_volume 308 = .ok (.ifCond .eq 7, 3) := by decide +kernel
theorem dX12_volume_311 : decode cX12_volume 311 = .ok (.iconst 1, 1) := by decide +kernel
theorem dX12_volume_312 : decode cX12_volume 312 = .ok (.goto 4, 3) := by decide +kernel
theorem dX12_volume_315 : decode cX12_volume 315 = .ok (.iconst 0, 1) := by decide +kernel
theorem dX12_volume_316 : decode cX12_volume 316 = .ok (.iadd, 1) := by decide +kernel
theorem dX12_volume_317 : decode cX12_volume 317 = .ok (.aload_n 0, 1) := by decide +kernel
theorem dX12_volume_318 : decode cX12_volume 318 = .ok (.iload 15, 2) := by decide +kernel
theorem dX12_volume_320 : decode cX12_volume 320 = .ok (.iconst (-1), 1) := by decide +kernel
theorem dX12_volume_321 : decode cX12_volume 321 = .ok (.iload 12, 2) := by decide +kernel
theorem dX12_volume_323 : decode cX12_volume 323 = .ok (.invokevirtual 242, 3) := by decide +kernel
theorem dX12_volume_326 : decode cX12_volume 326 = .ok (.ifCond .eq 7, 3) := by decide +kernel
theorem dX12_volume_329 : decode cX12_volume 329 = .ok (.iconst 1, 1) := by decide +kernel
theorem dX12_volume_330 : decode cX12_volume 330 = .ok (.goto 4, 3) := by decide +kernel
theorem dX12_volume_333 : decode cX12_volume 333 = .ok (.iconst 0, 1) := by decide +kernel
theorem dX12_volume_334 : decode cX12_volume 334 = .ok (.iadd, 1) := by decide +kernel
theorem dX12_volume_335 : decode cX12_volume 335 = .ok (.istore 16, 2) := by decide +kernel
theorem dX12_volume_337 : decode cX12_volume 337 = .ok (.aload_n 0, 1) := by decide +kernel
theorem dX12_volume_338 : decode cX12_volume 338 = .ok (.iload 15, 2) := by decide +kernel
theorem dX12_volume_340 : decode cX12_volume 340 = .ok (.iload 10, 2) := by decide +kernel
theorem dX12_volume_342 : decode cX12_volume 342 = .ok (.invokevirtual 253, 3) := by decide +kernel
theorem dX12_volume_345 : decode cX12_volume 345 = .ok (.aload_n 0, 1) := by decide +kernel
theorem dX12_volume_346 : decode cX12_volume 346 = .ok (.iload 15, 2) := by decide +kernel
theorem dX12_volume_348 : decode cX12_volume 348 = .ok (.iload 11, 2) := by decide +kernel
theorem dX12_volume_350 : decode cX12_volume 350 = .ok (.invokevirtual 253, 3) := by decide +kernel
theorem dX12_volume_353 : decode cX12_volume 353 = .ok (.ladd, 1) := by decide +kernel
theorem dX12_volume_354 : decode cX12_volume 354 = .ok (.aload_n 0, 1) := by decide +kernel
theorem dX12_volume_355 : decode cX12_volume 355 = .ok (.iload 15, 2) := by decide +kernel
theorem dX12_volume_357 : decode cX12_volume 357 = .ok (.iload 12, 2) := by decide +kernel
theorem dX12_volume_359 : decode cX12_volume 359 = .ok (.invokevirtual 253, 3) := by decide +kernel
theorem dX12_volume_362 : decode cX12_volume 362 = .ok (.ladd, 1) := by decide +kernel
theorem dX12_volume_363 : decode cX12_volume 363 = .ok (.lstore 17, 2) := by decide +kernel
theorem dX12_volume_365 : decode cX12_volume 365 = .ok (.iload 16, 2) := by decide +kernel
theorem dX12_volume_367 : decode cX12_volume 367 = .ok (.iconst 3, 1) := by decide +kernel
theorem dX12_volume_368 : decode cX12_volume 368 = .ok (.if_icmp .ne 9, 3) := by decide +kernel
theorem dX12_volume_371 : decode cX12_volume 371 = .ok (.ldc2_w 257, 3) := by decide +kernel
theorem dX12_volume_374 : decode cX12_volume 374 = .ok (.goto 48, 3) := by decide +kernel
theorem dX12_volume_377 : decode cX12_volume 377 = .ok (.iload 16, 2) := by decide +kernel
theorem dX12_volume_379 : decode cX12_volume 379 = .ok (.iconst 2, 1) := by decide +kernel
theorem dX12_volume_380 : decode cX12_volume 380 = .ok (.if_icmp .ne 27, 3) := by decide +kernel
theorem dX12_volume_383 : decode cX12_volume 383 = .ok (.ldc2_w 259, 3) := by decide +kernel
theorem dX12_volume_386 : decode cX12_volume 386 = .ok (.aload_n 0, 1) := by decide +kernel
theorem dX12_volume_387 : decode cX12_volume 387 = .ok (.getfield 34, 3) := by decide +kernel
theorem dX12_volume_390 : decode cX12_volume 390 = .ok (.i2l, 1) := by decide +kernel
theorem dX12_volume_391 : decode cX12_volume 391 = .ok (.lmul, 1) := by decide +kernel
theorem dX12_volume_392 : decode cX12_volume 392 = .ok (.aload_n 0, 1) := by decide +kernel
theorem dX12_volume_393 : decode cX12_volume 393 = .ok (.getfield 34, 3) := by decide +kernel
theorem dX12_volume_396 : decode cX12_volume 396 = .ok (.i2l, 1) := by decide +kernel
theorem dX12_volume_397 : decode cX12_volume 397 = .ok (.aload_n 0, 1) := by decide +kernel
theorem dX12_volume_398 : decode cX12_volume 398 = .ok (.getfield 34, 3) := by decide +kernel
theorem dX12_volume_401 : decode cX12_volume 401 = .ok (.i2l, 1) := by decide +kernel
theorem dX12_volume_402 : decode cX12_volume 402 = .ok (.lmul, 1) := by decide +kernel
theorem dX12_volume_403 : decode cX12_volume 403 = .ok (.lsub, 1) := by decide +kernel
theorem dX12_volume_404 : decode cX12_volume 404 = .ok (.goto 18, 3) := by decide +kernel
theorem dX12_volume_407 : decode cX12_volume 407 = .ok (.ldc2_w 261, 3) := by decide +kernel
theorem dX12_volume_410 : decode cX12_volume 410 = .ok (.aload_n 0, 1) := by decide +kernel
theorem dX12_volume_411 : decode cX12_volume 411 = .ok (.getfield 34, 3) := by decide +kernel
theorem dX12_volume_414 : decode cX12_volume 414 = .ok (.i2l, 1) := by decide +kernel
theorem dX12_volume_415 : decode cX12_volume 415 = .ok (.lmul, 1) := by decide +kernel
theorem dX12_volume_416 : decode cX12_volume 416 = .ok (.aload_n 0, 1) := by decide +kernel
theorem dX12_volume_417 : decode cX12_volume 417 = .ok (.getfield 34, 3) := by decide +kernel
theorem dX12_volume_420 : decode cX12_volume 420 = .ok (.i2l, 1) := by decide +kernel
theorem dX12_volume_421 : decode cX12_volume 421 = .ok (.lmul, 1) := by decide +kernel
theorem dX12_volume_422 : decode cX12_volume 422 = .ok (.lstore 19, 2) := by decide +kernel
theorem dX12_volume_424 : decode cX12_volume 424 = .ok (.lload 6, 2) := by decide +kernel
theorem dX12_volume_426 : decode cX12_volume 426 = .ok (.iload 16, 2) := by decide +kernel
theorem dX12_volume_428 : decode cX12_volume 428 = .ok (.ifCond .ne 7, 3) := by decide +kernel
theorem dX12_volume_431 : decode cX12_volume 431 = .ok (.lconst 0, 1) := by decide +kernel
theorem dX12_volume_432 : decode cX12_volume 432 = .ok (.goto 11, 3) := by decide +kernel
theorem dX12_volume_435 : decode cX12_volume 435 = .ok (.lload 13, 2) := by decide +kernel
theorem dX12_volume_437 : decode cX12_volume 437 = .ok (.lload 17, 2) := by decide +kernel
theorem dX12_volume_439 : decode cX12_volume 439 = .ok (.lmul, 1) := by decide +kernel
theorem dX12_volume_440 : decode cX12_volume 440 = .ok (.lload 19, 2) := by decide +kernel
theorem dX12_volume_442 : decode cX12_volume 442 = .ok (.lmul, 1) := by decide +kernel
theorem dX12_volume_443 : decode cX12_volume 443 = .ok (.ladd, 1) := by decide +kernel
theorem dX12_volume_444 : decode cX12_volume 444 = .ok (.lstore 6, 2) := by decide +kernel
theorem dX12_volume_446 : decode cX12_volume 446 = .ok (.iinc 15 1, 3) := by decide +kernel
theorem dX12_volume_449 : decode cX12_volume 449 = .ok (.goto (-200), 3) := by decide +kernel
theorem dX12_volume_452 : decode cX12_volume 452 = .ok (.iinc 8 1, 3) := by decide +kernel
theorem dX12_volume_455 : decode cX12_volume 455 = .ok (.goto (-417), 3) := by decide +kernel
theorem dX12_volume_458 : decode cX12_volume 458 = .ok (.lload 6, 2) := by decide +kernel
theorem dX12_volume_460 : decode cX12_volume 460 = .ok (.lreturn, 1) := by decide +kernel
theorem dX12_water_0 : decode cX12_water 0 = .ok (.aload_n 0, 1) := by decide +kernel
theorem dX12_water_1 : decode cX12_water 1 = .ok (.iconst 0, 1) := by decide +kernel
theorem dX12_water_2 : decode cX12_water 2 = .ok (.putfield 106, 3) := by decide +kernel
theorem dX12_water_5 : decode cX12_water 5 = .ok (.aload_n 0, 1) := by decide +kernel
theorem dX12_water_6 : decode cX12_water 6 = .ok (.iload_n 1, 1) := by decide +kernel
theorem dX12_water_7 : decode cX12_water 7 = .ok (.invokevirtual 129, 3) := by decide +kernel
theorem dX12_water_10 : decode cX12_water 10 = .ok (.ifCond .eq 24, 3) := by decide +kernel
theorem dX12_water_13 : decode cX12_water 13 = .ok (.iload_n 2, 1) := by decide +kernel
theorem dX12_water_14 : decode cX12_water 14 = .ok (.iconst 0, 1) := by decide +kernel
theorem dX12_water_15 : decode cX12_water 15 = .ok (.bipush 99, 2) := by decide +kernel
theorem dX12_water_17 : decode cX12_water 17 = .ok (.invokestatic 109, 3) := by decide +kernel
theorem dX12_water_20 : decode cX12_water 20 = .ok (.ifCond .eq 14, 3) := by decide +kernel
theorem dX12_water_23 : decode cX12_water 23 = .ok (.iload_n 3, 1) := by decide +kernel
theorem dX12_water_24 : decode cX12_water 24 = .ok (.ldc 120, 2) := by decide +kernel
theorem dX12_water_26 : decode cX12_water 26 = .ok (.ldc 121, 2) := by decide +kernel
theorem dX12_water_28 : decode cX12_water 28 = .ok (.invokestatic 109, 3) := by decide +kernel
theorem dX12_water_31 : decode cX12_water 31 = .ok (.ifCond .ne 5, 3) := by decide +kernel
theorem dX12_water_34 : decode cX12_water 34 = .ok (.iconst 0, 1) := by decide +kernel
theorem dX12_water_35 : decode cX12_water 35 = .ok (.ireturn, 1) := by decide +kernel
theorem dX12_water_36 : decode cX12_water 36 = .ok (.iconst 0, 1) := by decide +kernel
theorem dX12_water_37 : decode cX12_water 37 = .ok (.istore 4, 2) := by decide +kernel
theorem dX12_water_39 : decode cX12_water 39 = .ok (.iload 4, 2) := by decide +kernel
theorem dX12_water_41 : decode cX12_water 41 = .ok (.aload_n 0, 1) := by decide +kernel
theorem dX12_water_42 : decode cX12_water 42 = .ok (.getfield 136, 3) := by decide +kernel
theorem dX12_water_45 : decode cX12_water 45 = .ok (.if_icmp .ge 37, 3) := by decide +kernel
theorem dX12_water_48 : decode cX12_water 48 = .ok (.aload_n 0, 1) := by decide +kernel
theorem dX12_water_49 : decode cX12_water 49 = .ok (.getfield 38, 3) := by decide +kernel
theorem dX12_water_52 : decode cX12_water 52 = .ok (.iconst 3, 1) := by decide +kernel
theorem dX12_water_53 : decode cX12_water 53 = .ok (.iload 4, 2) := by decide +kernel
theorem dX12_water_55 : decode cX12_water 55 = .ok (.imul, 1) := by decide +kernel
theorem dX12_water_56 : decode cX12_water 56 = .ok (.iaload, 1) := by decide +kernel
theorem dX12_water_57 : decode cX12_water 57 = .ok (.iload_n 1, 1) := by decide +kernel
theorem dX12_water_58 : decode cX12_water 58 = .ok (.if_icmp .ne 18, 3) := by decide +kernel
theorem dX12_water_61 : decode cX12_water 61 = .ok (.aload_n 0, 1) := by decide +kernel
theorem dX12_water_62 : decode cX12_water 62 = .ok (.getfield 38, 3) := by decide +kernel
theorem dX12_water_65 : decode cX12_water 65 = .ok (.iconst 3, 1) := by decide +kernel
theorem dX12_water_66 : decode cX12_water 66 = .ok (.iload 4, 2) := by decide +kernel
theorem dX12_water_68 : decode cX12_water 68 = .ok (.imul, 1) := by decide +kernel
theorem dX12_water_69 : decode cX12_water 69 = .ok (.iconst 1, 1) := by decide +kernel
theorem dX12_water_70 : decode cX12_water 70 = .ok (.iadd, 1) := by decide +kernel
theorem dX12_water_71 : decode cX12_water 71 = .ok (.iaload, 1) := by decide +kernel
theorem dX12_water_72 : decode cX12_water 72 = .ok (.iload_n 2, 1) := by decide +kernel
theorem dX12_water_73 : decode cX12_water 73 = .ok (.if_icmp .eq 9, 3) := by decide +kernel
theorem dX12_water_76 : decode cX12_water 76 = .ok (.iinc 4 1, 3) := by decide +kernel
theorem dX12_water_79 : decode cX12_water 79 = .ok (.goto (-40), 3) := by decide +kernel
theorem dX12_water_82 : decode cX12_water 82 = .ok (.iload 4, 2) := by decide +kernel
theorem dX12_water_84 : decode cX12_water 84 = .ok (.bipush 60, 2) := by decide +kernel
theorem dX12_water_86 : decode cX12_water 86 = .ok (.if_icmp .ne 5, 3) := by decide +kernel
theorem dX12_water_89 : decode cX12_water 89 = .ok (.iconst 0, 1) := by decide +kernel
theorem dX12_water_90 : decode cX12_water 90 = .ok (.ireturn, 1) := by decide +kernel
theorem dX12_water_91 : decode cX12_water 91 = .ok (.aload_n 0, 1) := by decide +kernel
theorem dX12_water_92 : decode cX12_water 92 = .ok (.getfield 38, 3) := by decide +kernel
theorem dX12_water_95 : decode cX12_water 95 = .ok (.iconst 3, 1) := by decide +kernel
theorem dX12_water_96 : decode cX12_water 96 = .ok (.iload 4, 2) := by decide +kernel
theorem dX12_water_98 : decode cX12_water 98 = .ok (.imul, 1) := by decide +kernel
theorem dX12_water_99 : decode cX12_water 99 = .ok (.iload_n 1, 1) := by decide +kernel
theorem dX12_water_100 : decode cX12_water 100 = .ok (.iastore, 1) := by decide +kernel
theorem dX12_water_101 : decode cX12_water 101 = .ok (.aload_n 0, 1) := by decide +kernel
theorem dX12_water_102 : decode cX12_water 102 = .ok (.getfield 38, 3) := by decide +kernel
theorem dX12_water_105 : decode cX12_water 105 = .ok (.iconst 3, 1) := by decide +kernel
theorem dX12_water_106 : decode cX12_water 106 = .ok (.iload 4, 2) := by decide +kernel
theorem dX12_water_108 : decode cX12_water 108 = .ok (.imul, 1) := by decide +kernel
theorem dX12_water_109 : decode cX12_water 109 = .ok (.iconst 1, 1) := by decide +kernel
theorem dX12_water_110 : decode cX12_water 110 = .ok (.iadd, 1) := by decide +kernel
theorem dX12_water_111 : decode cX12_water 111 = .ok (.iload_n 2, 1) := by decide +kernel
theorem dX12_water_112 : decode cX12_water 112 = .ok (.iastore, 1) := by decide +kernel
theorem dX12_water_113 : decode cX12_water 113 = .ok (.aload_n 0, 1) := by decide +kernel
theorem dX12_water_114 : decode cX12_water 114 = .ok (.getfield 38, 3) := by decide +kernel
theorem dX12_water_117 : decode cX12_water 117 = .ok (.iconst 3, 1) := by decide +kernel
theorem dX12_water_118 : decode cX12_water 118 = .ok (.iload 4, 2) := by decide +kernel
theorem dX12_water_120 : decode cX12_water 120 = .ok (.imul, 1) := by decide +kernel
theorem dX12_water_121 : decode cX12_water 121 = .ok (.iconst 2, 1) := by decide +kernel
theorem dX12_water_122 : decode cX12_water 122 = .ok (.iadd, 1) := by decide +kernel
theorem dX12_water_123 : decode cX12_water 123 = .ok (.iload_n 3, 1) := by decide +kernel
theorem dX12_water_124 : decode cX12_water 124 = .ok (.iastore, 1) := by decide +kernel
theorem dX12_water_125 : decode cX12_water 125 = .ok (.aload_n 0, 1) := by decide +kernel
theorem dX12_water_126 : decode cX12_water 126 = .ok (.iload 4, 2) := by decide +kernel
theorem dX12_water_128 : decode cX12_water 128 = .ok (.aload_n 0, 1) := by decide +kernel
theorem dX12_water_129 : decode cX12_water 129 = .ok (.getfield 136, 3) := by decide +kernel
theorem dX12_water_132 : decode cX12_water 132 = .ok (.if_icmp .ne 10, 3) := by decide +kernel
theorem dX12_water_135 : decode cX12_water 135 = .ok (.iload 4, 2) := by decide +kernel
theorem dX12_water_137 : decode cX12_water 137 = .ok (.iconst 1, 1) := by decide +kernel
theorem dX12_water_138 : decode cX12_water 138 = .ok (.iadd, 1) := by decide +kernel
theorem dX12_water_139 : decode cX12_water 139 = .ok (.goto 7, 3) := by decide +kernel
theorem dX12_water_142 : decode cX12_water 142 = .ok (.aload_n 0, 1) := by decide +kernel
theorem dX12_water_143 : decode cX12_water 143 = .ok (.getfield 136, 3) := by decide +kernel
theorem dX12_water_146 : decode cX12_water 146 = .ok (.putfield 136, 3) := by decide +kernel
theorem dX12_water_149 : decode cX12_water 149 = .ok (.iconst 1, 1) := by decide +kernel
theorem dX12_water_150 : decode cX12_water 150 = .ok (.ireturn, 1) := by decide +kernel
theorem dX12_wet_0 : decode cX12_wet 0 = .ok (.aload_n 0, 1) := by decide +kernel
theorem dX12_wet_1 : decode cX12_wet 1 = .ok (.invokevirtual 219, 3) := by decide +kernel
theorem dX12_wet_4 : decode cX12_wet 4 = .ok (.ifCond .ne 44, 3) := by decide +kernel
theorem dX12_wet_7 : decode cX12_wet 7 = .ok (.aload_n 0, 1) := by decide +kernel
theorem dX12_wet_8 : decode cX12_wet 8 = .ok (.iload_n 1, 1) := by decide +kernel
theorem dX12_wet_9 : decode cX12_wet 9 = .ok (.iconst 0, 1) := by decide +kernel
theorem dX12_wet_10 : decode cX12_wet 10 = .ok (.bipush 99, 2) := by decide +kernel
theorem dX12_wet_12 : decode cX12_wet 12 = .ok (.invokestatic 109, 3) := by decide +kernel
theorem dX12_wet_15 : decode cX12_wet 15 = .ok (.ifCond .eq 21, 3) := by decide +kernel
theorem dX12_wet_18 : decode cX12_wet 18 = .ok (.iload_n 2, 1) := by decide +kernel
theorem dX12_wet_19 : decode cX12_wet 19 = .ok (.iload_n 3, 1) := by decide +kernel
theorem dX12_wet_20 : decode cX12_wet 20 = .ok (.invokestatic 116, 3) := by decide +kernel
theorem dX12_wet_23 : decode cX12_wet 23 = .ok (.ifCond .eq 13, 3) := by decide +kernel
theorem dX12_wet_26 : decode cX12_wet 26 = .ok (.iload 4, 2) := by decide +kernel
theorem dX12_wet_28 : decode cX12_wet 28 = .ok (.iconst 0, 1) := by decide +kernel
theorem dX12_wet_29 : decode cX12_wet 29 = .ok (.iconst 1, 1) := by decide +kernel
theorem dX12_wet_30 : decode cX12_wet 30 = .ok (.invokestatic 109, 3) := by decide +kernel
theorem dX12_wet_33 : decode cX12_wet 33 = .ok (.ifCond .ne 7, 3) := by decide +kernel
theorem dX12_wet_36 : decode cX12_wet 36 = .ok (.iconst 1, 1) := by decide +kernel
theorem dX12_wet_37 : decode cX12_wet 37 = .ok (.goto 4, 3) := by decide +kernel
theorem dX12_wet_40 : decode cX12_wet 40 = .ok (.iconst 0, 1) := by decide +kernel
theorem dX12_wet_41 : decode cX12_wet 41 = .ok (.iconst 2, 1) := by decide +kernel
theorem dX12_wet_42 : decode cX12_wet 42 = .ok (.invokevirtual 215, 3) := by decide +kernel
theorem dX12_wet_45 : decode cX12_wet 45 = .ok (.ifCond .eq 5, 3) := by decide +kernel
theorem dX12_wet_48 : decode cX12_wet 48 = .ok (.lconst 0, 1) := by decide +kernel
theorem dX12_wet_49 : decode cX12_wet 49 = .ok (.lreturn, 1) := by decide +kernel
theorem dX12_wet_50 : decode cX12_wet 50 = .ok (.aload_n 0, 1) := by decide +kernel
theorem dX12_wet_51 : decode cX12_wet 51 = .ok (.iconst (-1), 1) := by decide +kernel
theorem dX12_wet_52 : decode cX12_wet 52 = .ok (.iload_n 1, 1) := by decide +kernel
theorem dX12_wet_53 : decode cX12_wet 53 = .ok (.iload_n 2, 1) := by decide +kernel
theorem dX12_wet_54 : decode cX12_wet 54 = .ok (.iload_n 3, 1) := by decide +kernel
theorem dX12_wet_55 : decode cX12_wet 55 = .ok (.invokevirtual 249, 3) := by decide +kernel
theorem dX12_wet_58 : decode cX12_wet 58 = .ok (.iload 4, 2) := by decide +kernel
theorem dX12_wet_60 : decode cX12_wet 60 = .ok (.ifCond .ne 10, 3) := by decide +kernel
theorem dX12_wet_63 : decode cX12_wet 63 = .ok (.aload_n 0, 1) := by decide +kernel
theorem dX12_wet_64 : decode cX12_wet 64 = .ok (.getfield 227, 3) := by decide +kernel
theorem dX12_wet_67 : decode cX12_wet 67 = .ok (.goto 7, 3) := by decide +kernel
theorem dX12_wet_70 : decode cX12_wet 70 = .ok (.aload_n 0, 1) := by decide +kernel
theorem dX12_wet_71 : decode cX12_wet 71 = .ok (.getfield 231, 3) := by decide +kernel
theorem dX12_wet_74 : decode cX12_wet 74 = .ok (.lreturn, 1) := by decide +kernel
theorem dX12_within_0 : decode cX12_within 0 = .ok (.aload_n 0, 1) := by decide +kernel
theorem dX12_within_1 : decode cX12_within 1 = .ok (.iconst 0, 1) := by decide +kernel
theorem dX12_within_2 : decode cX12_within 2 = .ok (.putfield 106, 3) := by decide +kernel
theorem dX12_within_5 : decode cX12_within 5 = .ok (.iload_n 1, 1) := by decide +kernel
theorem dX12_within_6 : decode cX12_within 6 = .ok (.iconst 0, 1) := by decide +kernel
theorem dX12_within_7 : decode cX12_within 7 = .ok (.sipush 10000, 3) := by decide +kernel
theorem dX12_within_10 : decode cX12_within 10 = .ok (.invokestatic 109, 3) := by decide +kernel
theorem dX12_within_13 : decode cX12_within 13 = .ok (.istore_n 2, 1) := by decide +kernel
theorem dX12_within_14 : decode cX12_within 14 = .ok (.aload_n 0, 1) := by decide +kernel
theorem dX12_within_15 : decode cX12_within 15 = .ok (.iload_n 2, 1) := by decide +kernel
theorem dX12_within_16 : decode cX12_within 16 = .ok (.ifCond .eq 7, 3) := by decide +kernel
theorem dX12_within_19 : decode cX12_within 19 = .ok (.iload_n 1, 1) := by decide +kernel
theorem dX12_within_20 : decode cX12_within 20 = .ok (.goto 7, 3) := by decide +kernel
theorem dX12_within_23 : decode cX12_within 23 = .ok (.aload_n 0, 1) := by decide +kernel
theorem dX12_within_24 : decode cX12_within 24 = .ok (.getfield 139, 3) := by decide +kernel
theorem dX12_within_27 : decode cX12_within 27 = .ok (.putfield 139, 3) := by decide +kernel
theorem dX12_within_30 : decode cX12_within 30 = .ok (.iload_n 2, 1) := by decide +kernel
theorem dX12_within_31 : decode cX12_within 31 = .ok (.ireturn, 1) := by decide +kernel
theorem dX12_write_0 : decode cX12_write 0 = .ok (.aload_n 0, 1) := by decide +kernel
theorem dX12_write_1 : decode cX12_write 1 = .ok (.aload_n 0, 1) := by decide +kernel
theorem dX12_write_2 : decode cX12_write 2 = .ok (.iload_n 1, 1) := by decide +kernel
theorem dX12_write_3 : decode cX12_write 3 = .ok (.invokevirtual 129, 3) := by decide +kernel
theorem dX12_write_6 : decode cX12_write 6 = .ok (.ifCond .eq 7, 3) := by decide +kernel
theorem dX12_write_9 : decode cX12_write 9 = .ok (.iconst 0, 1) := by decide +kernel
theorem dX12_write_10 : decode cX12_write 10 = .ok (.goto 4, 3) := by decide +kernel
theorem dX12_write_13 : decode cX12_write 13 = .ok (.iconst 1, 1) := by decide +kernel
theorem dX12_write_14 : decode cX12_write 14 = .ok (.putfield 106, 3) := by decide +kernel
theorem dX12_write_17 : decode cX12_write 17 = .ok (.aload_n 0, 1) := by decide +kernel
theorem dX12_write_18 : decode cX12_write 18 = .ok (.getfield 106, 3) := by decide +kernel
theorem dX12_write_21 : decode cX12_write 21 = .ok (.ifCond .le 5, 3) := by decide +kernel
theorem dX12_write_24 : decode cX12_write 24 = .ok (.iconst 0, 1) := by decide +kernel
theorem dX12_write_25 : decode cX12_write 25 = .ok (.ireturn, 1) := by decide +kernel
theorem dX12_write_26 : decode cX12_write 26 = .ok (.aload_n 0, 1) := by decide +kernel
theorem dX12_write_27 : decode cX12_write 27 = .ok (.iconst 0, 1) := by decide +kernel
theorem dX12_write_28 : decode cX12_write 28 = .ok (.putfield 288, 3) := by decide +kernel
theorem dX12_write_31 : decode cX12_write 31 = .ok (.aload_n 0, 1) := by decide +kernel
theorem dX12_write_32 : decode cX12_write 32 = .ok (.bipush 98, 2) := by decide +kernel
theorem dX12_write_34 : decode cX12_write 34 = .ok (.invokevirtual 291, 3) := by decide +kernel
theorem dX12_write_37 : decode cX12_write 37 = .ok (.aload_n 0, 1) := by decide +kernel
theorem dX12_write_38 : decode cX12_write 38 = .ok (.aload_n 0, 1) := by decide +kernel
theorem dX12_write_39 : decode cX12_write 39 = .ok (.getfield 7, 3) := by decide +kernel
theorem dX12_write_42 : decode cX12_write 42 = .ok (.iload_n 1, 1) := by decide +kernel
theorem dX12_write_43 : decode cX12_write 43 = .ok (.iaload, 1) := by decide +kernel
theorem dX12_write_44 : decode cX12_write 44 = .ok (.invokevirtual 294, 3) := by decide +kernel
theorem dX12_write_47 : decode cX12_write 47 = .ok (.aload_n 0, 1) := by decide +kernel
theorem dX12_write_48 : decode cX12_write 48 = .ok (.aload_n 0, 1) := by decide +kernel
theorem dX12_write_49 : decode cX12_write 49 = .ok (.getfield 13, 3) := by decide +kernel
theorem dX12_write_52 : decode cX12_write 52 = .ok (.iload_n 1, 1) := by decide +kernel
theorem dX12_write_53 : decode cX12_write 53 = .ok (.iaload, 1) := by decide +kernel
theorem dX12_write_54 : decode cX12_write 54 = .ok (.invokevirtual 294, 3) := by decide +kernel
theorem dX12_write_57 : decode cX12_write 57 = .ok (.aload_n 0, 1) := by decide +kernel
theorem dX12_write_58 : decode cX12_write 58 = .ok (.aload_n 0, 1) := by decide +kernel
theorem dX12_write_59 : decode cX12_write 59 = .ok (.getfield 16, 3) := by decide +kernel
theorem dX12_write_62 : decode cX12_write 62 = .ok (.iload_n 1, 1) := by decide +kernel
theorem dX12_write_63 : decode cX12_write 63 = .ok (.iaload, 1) := by decide +kernel
theorem dX12_write_64 : decode cX12_write 64 = .ok (.invokevirtual 294, 3) := by decide +kernel
theorem dX12_write_67 : decode cX12_write 67 = .ok (.iconst 0, 1) := by decide +kernel
theorem dX12_write_68 : decode cX12_write 68 = .ok (.istore_n 2, 1) := by decide +kernel
theorem dX12_write_69 : decode cX12_write 69 = .ok (.iload_n 2, 1) := by decide +kernel
theorem dX12_write_70 : decode cX12_write 70 = .ok (.aload_n 0, 1) := by decide +kernel
theorem dX12_write_71 : decode cX12_write 71 = .ok (.getfield 19, 3) := by decide +kernel
theorem dX12_write_74 : decode cX12_write 74 = .ok (.iload_n 1, 1) := by decide +kernel
theorem dX12_write_75 : decode cX12_write 75 = .ok (.iaload, 1) := by decide +kernel
theorem dX12_write_76 : decode cX12_write 76 = .ok (.if_icmp .ge 39, 3) := by decide +kernel
theorem dX12_write_79 : decode cX12_write 79 = .ok (.aload_n 0, 1) := by decide +kernel
theorem dX12_write_80 : decode cX12_write 80 = .ok (.aload_n 0, 1) := by decide +kernel
theorem dX12_write_81 : decode cX12_write 81 = .ok (.getfield 22, 3) := by decide +kernel
theorem dX12_write_84 : decode cX12_write 84 = .ok (.bipush 12, 2) := by decide +kernel
theorem dX12_write_86 : decode cX12_write 86 = .ok (.iload_n 1, 1) := by decide +kernel
theorem dX12_write_87 : decode cX12_write 87 = .ok (.imul, 1) := by decide +kernel
theorem dX12_write_88 : decode cX12_write 88 = .ok (.iload_n 2, 1) := by decide +kernel
theorem dX12_write_89 : decode cX12_write 89 = .ok (.iadd, 1) := by decide +kernel
theorem dX12_write_90 : decode cX12_write 90 = .ok (.iaload, 1) := by decide +kernel
theorem dX12_write_91 : decode cX12_write 91 = .ok (.invokevirtual 294, 3) := by decide +kernel
theorem dX12_write_94 : decode cX12_write 94 = .ok (.aload_n 0, 1) := by decide +kernel
theorem dX12_write_95 : decode cX12_write 95 = .ok (.aload_n 0, 1) := by decide +kernel
theorem dX12_write_96 : decode cX12_write 96 = .ok (.getfield 25, 3) := by decide +kernel
theorem dX12_write_99 : decode cX12_write 99 = .ok (.bipush 12, 2) := by decide +kernel
theorem dX12_write_101 : decode cX12_write 101 = .ok (.iload_n 1, 1) := by decide +kernel
theorem dX12_write_102 : decode cX12_write 102 = .ok (.imul, 1) := by decide +kernel
theorem dX12_write_103 : decode cX12_write 103 = .ok (.iload_n 2, 1) := by decide +kernel
theorem dX12_write_104 : decode cX12_write 104 = .ok (.iadd, 1) := by decide +kernel
theorem dX12_write_105 : decode cX12_write 105 = .ok (.iaload, 1) := by decide +kernel
theorem dX12_write_106 : decode cX12_write 106 = .ok (.invokevirtual 294, 3) := by decide +kernel
theorem dX12_write_109 : decode cX12_write 109 = .ok (.iinc 2 1, 3) := by decide +kernel
theorem dX12_write_112 : decode cX12_write 112 = .ok (.goto (-43), 3) := by decide +kernel
theorem dX12_write_115 : decode cX12_write 115 = .ok (.aload_n 0, 1) := by decide +kernel
theorem dX12_write_116 : decode cX12_write 116 = .ok (.bipush 32, 2) := by decide +kernel
theorem dX12_write_118 : decode cX12_write 118 = .ok (.invokevirtual 291, 3) := by decide +kernel
theorem dX12_write_121 : decode cX12_write 121 = .ok (.aload_n 0, 1) := by decide +kernel
theorem dX12_write_122 : decode cX12_write 122 = .ok (.bipush 101, 2) := by decide +kernel
theorem dX12_write_124 : decode cX12_write 124 = .ok (.invokevirtual 291, 3) := by decide +kernel
theorem dX12_write_127 : decode cX12_write 127 = .ok (.aload_n 0, 1) := by decide +kernel
theorem dX12_write_128 : decode cX12_write 128 = .ok (.getfield 288, 3) := by decide +kernel
theorem dX12_write_131 : decode cX12_write 131 = .ok (.ireturn, 1) := by decide +kernel
theorem dX1_addLayer_0 : decode cX1_addLayer 0 = .ok (.aload_n 0, 1) := by decide +kernel
theorem dX1_addLayer_1 : decode cX1_addLayer 1 = .ok (.getfield 33, 3) := by decide +kernel
theorem dX1_addLayer_4 : decode cX1_addLayer 4 = .ok (.bipush 12, 2) := by decide +kernel
theorem dX1_addLayer_6 : decode cX1_addLayer 6 = .ok (.if_icmp .ge 33, 3) := by decide +kernel
theorem dX1_addLayer_9 : decode cX1_addLayer 9 = .ok (.aload_n 0, 1) := by decide +kernel
theorem dX1_addLayer_10 : decode cX1_addLayer 10 = .ok (.getfield 18, 3) := by decide +kernel
theorem dX1_addLayer_13 : decode cX1_addLayer 13 = .ok (.aload_n 0, 1) := by decide +kernel
theorem dX1_addLayer_14 : decode cX1_addLayer 14 = .ok (.getfield 33, 3) := by decide +kernel
theorem dX1_addLayer_17 : decode cX1_addLayer 17 = .ok (.iload_n 1, 1) := by decide +kernel
theorem dX1_addLayer_18 : decode cX1_addLayer 18 = .ok (.iastore, 1) := by decide +kernel
theorem dX1_addLayer_19 : decode cX1_addLayer 19 = .ok (.aload_n 0, 1) := by decide +kernel
theorem dX1_addLayer_20 : decode cX1_addLayer 20 = .ok (.getfield 22, 3) := by decide +kernel
theorem dX1_addLayer_23 : decode cX1_addLayer 23 = .ok (.aload_n 0, 1) := by decide +kernel
theorem dX1_addLayer_24 : decode cX1_addLayer 24 = .ok (.getfield 33, 3) := by decide +kernel
theorem dX1_addLayer_27 : decode cX1_addLayer 27 = .ok (.iload_n 2, 1) := by decide +kernel
theorem dX1_addLayer_28 : decode cX1_addLayer 28 = .ok (.iastore, 1) := by decide +kernel
theorem dX1_addLayer_29 : decode cX1_addLayer 29 = .ok (.aload_n 0, 1) := by decide +kernel
theorem dX1_addLayer_30 : decode cX1_addLayer 30 = .ok (.dup, 1) := by decide +kernel
theorem dX1_addLayer_31 : decode cX1_addLayer 31 = .ok (.getfield 33, 3) := by decide +kernel
theorem dX1_addLayer_34 : decode cX1_addLayer 34 = .ok (.iconst 1, 1) := by decide +kernel
theorem dX1_addLayer_35 : decode cX1_addLayer 35 = .ok (.iadd, 1) := by decide +kernel
theorem dX1_addLayer_36 : decode cX1_addLayer 36 = .ok (.putfield 33, 3) := by decide +kernel
theorem dX1_addLayer_39 : decode cX1_addLayer 39 = .ok (.return_, 1) := by decide +kernel
theorem dX1_appendNumber_0 : decode cX1_appendNumber 0 = .ok (.aload_n 0, 1) := by decide +kernel
theorem dX1_appendNumber_1 : decode cX1_appendNumber 1 = .ok (.bipush 32, 2) := by decide +kernel
theorem dX1_appendNumber_3 : decode cX1_appendNumber 3 = .ok (.invokevirtual 36, 3) := by decide +kernel
theorem dX1_appendNumber_6 : decode cX1_appendNumber 6 = .ok (.pop, 1) := by decide +kernel
theorem dX1_appendNumber_7 : decode cX1_appendNumber 7 = .ok (.aload_n 0, 1) := by decide +kernel
theorem dX1_appendNumber_8 : decode cX1_appendNumber 8 = .ok (.iload_n 1, 1) := by decide +kernel
theorem dX1_appendNumber_9 : decode cX1_appendNumber 9 = .ok (.invokevirtual 52, 3) := by decide +kernel
theorem dX1_appendNumber_12 : decode cX1_appendNumber 12 = .ok (.pop, 1) := by decide +kernel
theorem dX1_appendNumber_13 : decode cX1_appendNumber 13 = .ok (.return_, 1) := by decide +kernel
theorem dX1_begin_0 : decode cX1_begin 0 = .ok (.aload_n 0, 1) := by decide +kernel
theorem dX1_begin_1 : decode cX1_begin 1 = .ok (.getfield 12, 3) := by decide +kernel
theorem dX1_begin_4 : decode cX1_begin 4 = .ok (.iload_n 1, 1) := by decide +kernel
theorem dX1_begin_5 : decode cX1_begin 5 = .ok (.iload_n 2, 1) := by decide +kernel
theorem dX1_begin_6 : decode cX1_begin 6 = .ok (.invokevirtual 25, 3) := by decide +kernel
theorem dX1_begin_9 : decode cX1_begin 9 = .ok (.aload_n 0, 1) := by decide +kernel
theorem dX1_begin_10 : decode cX1_begin 10 = .ok (.iload_n 3, 1) := by decide +kernel
theorem dX1_begin_11 : decode cX1_begin 11 = .ok (.putfield 29, 3) := by decide +kernel
theorem dX1_begin_14 : decode cX1_begin 14 = .ok (.aload_n 0, 1) := by decide +kernel
theorem dX1_begin_15 : decode cX1_begin 15 = .ok (.iconst 0, 1) := by decide +kernel
theorem dX1_begin_16 : decode cX1_begin 16 = .ok (.putfield 33, 3) := by decide +kernel
theorem dX1_begin_19 : decode cX1_begin 19 = .ok (.return_, 1) := by decide +kernel
theorem dX1_init_0 : decode cX1_init 0 = .ok (.aload_n 0, 1) := by decide +kernel
theorem dX1_init_1 : decode cX1_init 1 = .ok (.invokespecial 3, 3) := by decide +kernel
theorem dX1_init_4 : decode cX1_init 4 = .ok (.aload_n 0, 1) := by decide +kernel
theorem dX1_init_5 : decode cX1_init 5 = .ok (.new 9, 3) := by decide +kernel
theorem dX1_init_8 : decode cX1_init 8 = .ok (.dup, 1) := by decide +kernel
theorem dX1_init_9 : decode cX1_init 9 = .ok (.invokespecial 11, 3) := by decide +kernel
theorem dX1_init_12 : decode cX1_init 12 = .ok (.putfield 12, 3) := by decide +kernel
theorem dX1_init_15 : decode cX1_init 15 = .ok (.aload_n 0, 1) := by decide +kernel
theorem dX1_init_16 : decode cX1_init 16 = .ok (.bipush 12, 2) := by decide +kernel
theorem dX1_init_18 : decode cX1_init 18 = .ok (.newarray .int, 2) := by decide +kernel
theorem dX1_init_20 : decode cX1_init 20 = .ok (.putfield 18, 3) := by decide +kernel
theorem dX1_init_23 : decode cX1_init 23 = .ok (.aload_n 0, 1) := by decide +kernel
theorem dX1_init_24 : decode cX1_init 24 = .ok (.bipush 12, 2) := by decide +kernel
theorem dX1_init_26 : decode cX1_init 26 = .ok (.newarray .int, 2) := by decide +kernel
theorem dX1_init_28 : decode cX1_init 28 = .ok (.putfield 22, 3) := by decide +kernel
theorem dX1_init_31 : decode cX1_init 31 = .ok (.return_, 1) := by decide +kernel
theorem dX1_writeTo_0 : decode cX1_writeTo 0 = .ok (.aload_n 1, 1) := by decide +kernel
theorem dX1_writeTo_1 : decode cX1_writeTo 1 = .ok (.bipush 98, 2) := by decide +kernel
theorem dX1_writeTo_3 : decode cX1_writeTo 3 = .ok (.invokevirtual 36, 3) := by decide +kernel
theorem dX1_writeTo_6 : decode cX1_writeTo 6 = .ok (.pop, 1) := by decide +kernel
theorem dX1_writeTo_7 : decode cX1_writeTo 7 = .ok (.aload_n 1, 1) := by decide +kernel
theorem dX1_writeTo_8 : decode cX1_writeTo 8 = .ok (.aload_n 0, 1) := by decide +kernel
theorem dX1_writeTo_9 : decode cX1_writeTo 9 = .ok (.getfield 12, 3) := by decide +kernel
theorem dX1_writeTo_12 : decode cX1_writeTo 12 = .ok (.getfield 42, 3) := by decide +kernel
theorem dX1_writeTo_15 : decode cX1_writeTo 15 = .ok (.invokestatic 45, 3) := by decide +kernel
theorem dX1_writeTo_18 : decode cX1_writeTo 18 = .ok (.aload_n 1, 1) := by decide +kernel
theorem dX1_writeTo_19 : decode cX1_writeTo 19 = .ok (.aload_n 0, 1) := by decide +kernel
theorem dX1_writeTo_20 : decode cX1_writeTo 20 = .ok (.getfield 12, 3) := by decide +kernel
theorem dX1_writeTo_23 : decode cX1_writeTo 23 = .ok (.getfield 49, 3) := by decide +kernel
theorem dX1_writeTo_26 : decode cX1_writeTo 26 = .ok (.invokestatic 45, 3) := by decide +kernel
theorem dX1_writeTo_29 : decode cX1_writeTo 29 = .ok (.aload_n 1, 1) := by decide +kernel
theorem dX1_writeTo_30 : decode cX1_writeTo 30 = .ok (.aload_n 0, 1) := by decide +kernel
theorem dX1_writeTo_31 : decode cX1_writeTo 31 = .ok (.getfield 29, 3) := by decide +kernel
theorem dX1_writeTo_34 : decode cX1_writeTo 34 = .ok (.invokestatic 45, 3) := by decide +kernel
theorem dX1_writeTo_37 : decode cX1_writeTo 37 = .ok (.iconst 0, 1) := by decide +kernel
theorem dX1_writeTo_38 : decode cX1_writeTo 38 = .ok (.istore_n 2, 1) := by decide +kernel
theorem dX1_writeTo_39 : decode cX1_writeTo 39 = .ok (.iload_n 2, 1) := by decide +kernel
theorem dX1_writeTo_40 : decode cX1_writeTo 40 = .ok (.aload_n 0, 1) := by decide +kernel
theorem dX1_writeTo_41 : decode cX1_writeTo 41 = .ok (.getfield 33, 3) := by decide +kernel
theorem dX1_writeTo_44 : decode cX1_writeTo 44 = .ok (.if_icmp .ge 29, 3) := by decide +kernel
theorem dX1_writeTo_47 : decode cX1_writeTo 47 = .ok (.aload_n 1, 1) := by decide +kernel
theorem dX1_writeTo_48 : decode cX1_writeTo 48 = .ok (.aload_n 0, 1) := by decide +kernel
theorem dX1_writeTo_49 : decode cX1_writeTo 49 = .ok (.getfield 18, 3) := by decide +kernel
theorem dX1_writeTo_52 : decode cX1_writeTo 52 = .ok (.iload_n 2, 1) := by decide +kernel
theorem dX1_writeTo_53 : decode cX1_writeTo 53 = .ok (.iaload, 1) := by decide +kernel
theorem dX1_writeTo_54 : decode cX1_writeTo 54 = .ok (.invokestatic 45, 3) := by decide +kernel
theorem dX1_writeTo_57 : decode cX1_writeTo 57 = .ok (.aload_n 1, 1) := by decide +kernel
theorem dX1_writeTo_58 : decode cX1_writeTo 58 = .ok (.aload_n 0, 1) := by decide +kernel
theorem dX1_writeTo_59 : decode cX1_writeTo 59 = .ok (.getfield 22, 3) := by decide +kernel
theorem dX1_writeTo_62 : decode cX1_writeTo 62 = .ok (.iload_n 2, 1) := by decide +kernel
theorem dX1_writeTo_63 : decode cX1_writeTo 63 = .ok (.iaload, 1) := by decide +kernel
theorem dX1_writeTo_64 : decode cX1_writeTo 64 = .ok (.invokestatic 45, 3) := by decide +kernel
theorem dX1_writeTo_67 : decode cX1_writeTo 67 = .ok (.iinc 2 1, 3) := by decide +kernel
theorem dX1_writeTo_70 : decode cX1_writeTo 70 = .ok (.goto (-31), 3) := by decide +kernel
theorem dX1_writeTo_73 : decode cX1_writeTo 73 = .ok (.aload_n 1, 1) := by decide +kernel
theorem dX1_writeTo_74 : decode cX1_writeTo 74 = .ok (.bipush 32, 2) := by decide +kernel
theorem dX1_writeTo_76 : decode cX1_writeTo 76 = .ok (.invokevirtual 36, 3) := by decide +kernel
theorem dX1_writeTo_79 : decode cX1_writeTo 79 = .ok (.pop, 1) := by decide +kernel
theorem dX1_writeTo_80 : decode cX1_writeTo 80 = .ok (.aload_n 1, 1) := by decide +kernel
theorem dX1_writeTo_81 : decode cX1_writeTo 81 = .ok (.bipush 101, 2) := by decide +kernel
theorem dX1_writeTo_83 : decode cX1_writeTo 83 = .ok (.invokevirtual 36, 3) := by decide +kernel
theorem dX1_writeTo_86 : decode cX1_writeTo 86 = .ok (.pop, 1) := by decide +kernel
theorem dX1_writeTo_87 : decode cX1_writeTo 87 = .ok (.return_, 1) := by decide +kernel
theorem dX2_addLayerToStaged_0 : decode cX2_addLayerToStaged 0 = .ok (.aload_n 0, 1) := by decide +kernel
theorem dX2_addLayerToStaged_1 : decode cX2_addLayerToStaged 1 = .ok (.getfield 22, 3) := by decide +kernel
theorem dX2_addLayerToStaged_4 : decode cX2_addLayerToStaged 4 = .ok (.ifCond .le 24, 3) := by decide +kernel
theorem dX2_addLayerToStaged_7 : decode cX2_addLayerToStaged 7 = .ok (.aload_n 0, 1) := by decide +kernel
theorem dX2_addLayerToStaged_8 : decode cX2_addLayerToStaged 8 = .ok (.getfield 11, 3) := by decide +kernel
theorem dX2_addLayerToStaged_11 : decode cX2_addLayerToStaged 11 = .ok (.aload_n 0, 1) := by decide +kernel
theorem dX2_addLayerToStaged_12 : decode cX2_addLayerToStaged 12 = .ok (.getfield 18, 3) := by decide +kernel
theorem dX2_addLayerToStaged_15 : decode cX2_addLayerToStaged 15 = .ok (.aload_n 0, 1) := by decide +kernel
theorem dX2_addLayerToStaged_16 : decode cX2_addLayerToStaged 16 = .ok (.getfield 22, 3) := by decide +kernel
theorem dX2_addLayerToStaged_19 : decode cX2_addLayerToStaged 19 = .ok (.iadd, 1) := by decide +kernel
theorem dX2_addLayerToStaged_20 : decode cX2_addLayerToStaged 20 = .ok (.iconst 1, 1) := by decide +kernel
theorem dX2_addLayerToStaged_21 : decode cX2_addLayerToStaged 21 = .ok (.isub, 1) := by decide +kernel
theorem dX2_addLayerToStaged_22 : decode cX2_addLayerToStaged 22 = .ok (.aaload, 1) := by decide +kernel
theorem dX2_addLayerToStaged_23 : decode cX2_addLayerToStaged 23 = .ok (.iload_n 1, 1) := by decide +kernel
theorem dX2_addLayerToStaged_24 : decode cX2_addLayerToStaged 24 = .ok (.iload_n 2, 1) := by decide +kernel
theorem dX2_addLayerToStaged_25 : decode cX2_addLayerToStaged 25 = .ok (.invokevirtual 43, 3) := by decide +kernel
theorem dX2_addLayerToStaged_28 : decode cX2_addLayerToStaged 28 = .ok (.return_, 1) := by decide +kernel
theorem dX2_dropStaged_0 : decode cX2_dropStaged 0 = .ok (.aload_n 0, 1) := by decide +kernel
theorem dX2_dropStaged_1 : decode cX2_dropStaged 1 = .ok (.iconst 0, 1) := by decide +kernel
theorem dX2_dropStaged_2 : decode cX2_dropStaged 2 = .ok (.putfield 22, 3) := by decide +kernel
theorem dX2_dropStaged_5 : decode cX2_dropStaged 5 = .ok (.return_, 1) := by decide +kernel
theorem dX2_has_0 : decode cX2_has 0 = .ok (.iload_n 1, 1) := by decide +kernel
theorem dX2_has_1 : decode cX2_has 1 = .ok (.ifCond .lt 15, 3) := by decide +kernel
theorem dX2_has_4 : decode cX2_has 4 = .ok (.iload_n 1, 1) := by decide +kernel
theorem dX2_has_5 : decode cX2_has 5 = .ok (.aload_n 0, 1) := by decide +kernel
theorem dX2_has_6 : decode cX2_has 6 = .ok (.getfield 18, 3) := by decide +kernel
theorem dX2_has_9 : decode cX2_has 9 = .ok (.if_icmp .ge 7, 3) := by decide +kernel
theorem dX2_has_12 : decode cX2_has 12 = .ok (.iconst 1, 1) := by decide +kernel
theorem dX2_has_13 : decode cX2_has 13 = .ok (.goto 4, 3) := by decide +kernel
theorem dX2_has_16 : decode cX2_has 16 = .ok (.iconst 0, 1) := by decide +kernel
theorem dX2_has_17 : decode cX2_has 17 = .ok (.ireturn, 1) := by decide +kernel
theorem dX2_init_0 : decode cX2_init 0 = .ok (.aload_n 0, 1) := by decide +kernel
theorem dX2_init_1 : decode cX2_init 1 = .ok (.invokespecial 3, 3) := by decide +kernel
theorem dX2_init_4 : decode cX2_init 4 = .ok (.aload_n 0, 1) := by decide +kernel
theorem dX2_init_5 : decode cX2_init 5 = .ok (.bipush 16, 2) := by decide +kernel
theorem dX2_init_7 : decode cX2_init 7 = .ok (.anewarray 9, 3) := by decide +kernel
theorem dX2_init_10 : decode cX2_init 10 = .ok (.putfield 11, 3) := by decide +kernel
theorem dX2_init_13 : decode cX2_init 13 = .ok (.iconst 0, 1) := by decide +kernel
theorem dX2_init_14 : decode cX2_init 14 = .ok (.istore_n 1, 1) := by decide +kernel
theorem dX2_init_15 : decode cX2_init 15 = .ok (.iload_n 1, 1) := by decide +kernel
theorem dX2_init_16 : decode cX2_init 16 = .ok (.bipush 16, 2) := by decide +kernel
theorem dX2_init_18 : decode cX2_init 18 = .ok (.if_icmp .ge 22, 3) := by decide +kernel
theorem dX2_init_21 : decode cX2_init 21 = .ok (.aload_n 0, 1) := by decide +kernel
theorem dX2_init_22 : decode cX2_init 22 = .ok (.getfield 11, 3) := by decide +kernel
theorem dX2_init_25 : decode cX2_init 25 = .ok (.iload_n 1, 1) := by decide +kernel
theorem dX2_init_26 : decode cX2_init 26 = .ok (.new 9, 3) := by decide +kernel
theorem dX2_init_29 : decode cX2_init 29 = .ok (.dup, 1) := by decide +kernel
theorem dX2_init_30 : decode cX2_init 30 = .ok (.invokespecial 17, 3) := by decide +kernel
theorem dX2_init_33 : decode cX2_init 33 = .ok (.aastore, 1) := by decide +kernel
theorem dX2_init_34 : decode cX2_init 34 = .ok (.iinc 1 1, 3) := by decide +kernel
theorem dX2_init_37 : decode cX2_init 37 = .ok (.goto (-22), 3) := by decide +kernel
theorem dX2_init_40 : decode cX2_init 40 = .ok (.return_, 1) := by decide +kernel
theorem dX2_isFull_0 : decode cX2_isFull 0 = .ok (.aload_n 0, 1) := by decide +kernel
theorem dX2_isFull_1 : decode cX2_isFull 1 = .ok (.getfield 18, 3) := by decide +kernel
theorem dX2_isFull_4 : decode cX2_isFull 4 = .ok (.aload_n 0, 1) := by decide +kernel
theorem dX2_isFull_5 : decode cX2_isFull 5 = .ok (.getfield 22, 3) := by decide +kernel
theorem dX2_isFull_8 : decode cX2_isFull 8 = .ok (.iadd, 1) := by decide +kernel
theorem dX2_isFull_9 : decode cX2_isFull 9 = .ok (.bipush 16, 2) := by decide +kernel
theorem dX2_isFull_11 : decode cX2_isFull 11 = .ok (.if_icmp .lt 7, 3) := by decide +kernel
theorem dX2_isFull_14 : decode cX2_isFull 14 = .ok (.iconst 1, 1) := by decide +kernel
theorem dX2_isFull_15 : decode cX2_isFull 15 = .ok (.goto 4, 3) := by decide +kernel
theorem dX2_isFull_18 : decode cX2_isFull 18 = .ok (.iconst 0, 1) := by decide +kernel
theorem dX2_isFull_19 : decode cX2_isFull 19 = .ok (.ireturn, 1) := by decide +kernel
theorem dX2_keepStaged_0 : decode cX2_keepStaged 0 = .ok (.aload_n 0, 1) := by decide +kernel
theorem dX2_keepStaged_1 : decode cX2_keepStaged 1 = .ok (.dup, 1) := by decide +kernel
theorem dX2_keepStaged_2 : decode cX2_keepStaged 2 = .ok (.getfield 18, 3) := by decide +kernel
theorem dX2_keepStaged_5 : decode cX2_keepStaged 5 = .ok (.aload_n 0, 1) := by decide +kernel
theorem dX2_keepStaged_6 : decode cX2_keepStaged 6 = .ok (.getfield 22, 3) := by decide +kernel
theorem dX2_keepStaged_9 : decode cX2_keepStaged 9 = .ok (.iadd, 1) := by decide +kernel
theorem dX2_keepStaged_10 : decode cX2_keepStaged 10 = .ok (.putfield 18, 3) := by decide +kernel
theorem dX2_keepStaged_13 : decode cX2_keepStaged 13 = .ok (.aload_n 0, 1) := by decide +kernel
theorem dX2_keepStaged_14 : decode cX2_keepStaged 14 = .ok (.iconst 0, 1) := by decide +kernel
theorem dX2_keepStaged_15 : decode cX2_keepStaged 15 = .ok (.putfield 22, 3) := by decide +kernel
theorem dX2_keepStaged_18 : decode cX2_keepStaged 18 = .ok (.return_, 1) := by decide +kernel
theorem dX2_nearest_0 : decode cX2_nearest 0 = .ok (.iconst (-1), 1) := by decide +kernel
theorem dX2_nearest_1 : decode cX2_nearest 1 = .ok (.istore_n 3, 1) := by decide +kernel
theorem dX2_nearest_2 : decode cX2_nearest 2 = .ok (.iconst 0, 1) := by decide +kernel
theorem dX2_nearest_3 : decode cX2_nearest 3 = .ok (.istore 4, 2) := by decide +kernel
theorem dX2_nearest_5 : decode cX2_nearest 5 = .ok (.iload 4, 2) := by decide +kernel
theorem dX2_nearest_7 : decode cX2_nearest 7 = .ok (.aload_n 0, 1) := by decide +kernel
theorem dX2_nearest_8 : decode cX2_nearest 8 = .ok (.getfield 18, 3) := by decide +kernel
theorem dX2_nearest_11 : decode cX2_nearest 11 = .ok (.if_icmp .ge 49, 3) := by decide +kernel
theorem dX2_nearest_14 : decode cX2_nearest 14 = .ok (.iload_n 3, 1) := by decide +kernel
theorem dX2_nearest_15 : decode cX2_nearest 15 = .ok (.iconst (-1), 1) := by decide +kernel
theorem dX2_nearest_16 : decode cX2_nearest 16 = .ok (.if_icmp .eq 35, 3) := by decide +kernel
theorem dX2_nearest_19 : decode cX2_nearest 19 = .ok (.aload_n 0, 1) := by decide +kernel
theorem dX2_nearest_20 : decode cX2_nearest 20 = .ok (.getfield 11, 3) := by decide +kernel
theorem dX2_nearest_23 : decode cX2_nearest 23 = .ok (.iload 4, 2) := by decide +kernel
theorem dX2_nearest_25 : decode cX2_nearest 25 = .ok (.aaload, 1) := by decide +kernel
theorem dX2_nearest_26 : decode cX2_nearest 26 = .ok (.getfield 25, 3) := by decide +kernel
theorem dX2_nearest_29 : decode cX2_nearest 29 = .ok (.iload_n 1, 1) := by decide +kernel
theorem dX2_nearest_30 : decode cX2_nearest 30 = .ok (.iload_n 2, 1) := by decide +kernel
theorem dX2_nearest_31 : decode cX2_nearest 31 = .ok (.invokevirtual 29, 3) := by decide +kernel
theorem dX2_nearest_34 : decode cX2_nearest 34 = .ok (.aload_n 0, 1) := by decide +kernel
theorem dX2_nearest_35 : decode cX2_nearest 35 = .ok (.getfield 11, 3) := by decide +kernel
theorem dX2_nearest_38 : decode cX2_nearest 38 = .ok (.iload_n 3, 1) := by decide +kernel
theorem dX2_nearest_39 : decode cX2_nearest 39 = .ok (.aaload, 1) := by decide +kernel
theorem dX2_nearest_40 : decode cX2_nearest 40 = .ok (.getfield 25, 3) := by decide +kernel
theorem dX2_nearest_43 : decode cX2_nearest 43 = .ok (.iload_n 1, 1) := by decide +kernel
theorem dX2_nearest_44 : decode cX2_nearest 44 = .ok (.iload_n 2, 1) := by decide +kernel
theorem dX2_nearest_45 : decode cX2_nearest 45 = .ok (.invokevirtual 29, 3) := by decide +kernel
theorem dX2_nearest_48 : decode cX2_nearest 48 = .ok (.if_icmp .ge 6, 3) := by decide +kernel
theorem dX2_nearest_51 : decode cX2_nearest 51 = .ok (.iload 4, 2) := by decide +kernel
theorem dX2_nearest_53 : decode cX2_nearest 53 = .ok (.istore_n 3, 1) := by decide +kernel
theorem dX2_nearest_54 : decode cX2_nearest 54 = .ok (.iinc 4 1, 3) := by decide +kernel
theorem dX2_nearest_57 : decode cX2_nearest 57 = .ok (.goto (-52), 3) := by decide +kernel
theorem dX2_nearest_60 : decode cX2_nearest 60 = .ok (.iload_n 3, 1) := by decide +kernel
theorem dX2_nearest_61 : decode cX2_nearest 61 = .ok (.ireturn, 1) := by decide +kernel
theorem dX2_numberAt_0 : decode cX2_numberAt 0 = .ok (.iconst 0, 1) := by decide +kernel
theorem dX2_numberAt_1 : decode cX2_numberAt 1 = .ok (.istore_n 3, 1) := by decide +kernel
theorem dX2_numberAt_2 : decode cX2_numberAt 2 = .ok (.iload_n 3, 1) := by decide +kernel
theorem dX2_numberAt_3 : decode cX2_numberAt 3 = .ok (.aload_n 0, 1) := by decide +kernel
theorem dX2_numberAt_4 : decode cX2_numberAt 4 = .ok (.getfield 18, 3) := by decide +kernel
theorem dX2_numberAt_7 : decode cX2_numberAt 7 = .ok (.aload_n 0, 1) := by decide +kernel
theorem dX2_numberAt_8 : decode cX2_numberAt 8 = .ok (.getfield 22, 3) := by decide +kernel
theorem dX2_numberAt_11 : decode cX2_numberAt 11 = .ok (.iadd, 1) := by decide +kernel
theorem dX2_numberAt_12 : decode cX2_numberAt 12 = .ok (.if_icmp .ge 28, 3) := by decide +kernel
theorem dX2_numberAt_15 : decode cX2_numberAt 15 = .ok (.aload_n 0, 1) := by decide +kernel
theorem dX2_numberAt_16 : decode cX2_numberAt 16 = .ok (.getfield 11, 3) := by decide +kernel
theorem dX2_numberAt_19 : decode cX2_numberAt 19 = .ok (.iload_n 3, 1) := by decide +kernel
theorem dX2_numberAt_20 : decode cX2_numberAt 20 = .ok (.aaload, 1) := by decide +kernel
theorem dX2_numberAt_21 : decode cX2_numberAt 21 = .ok (.getfield 25, 3) := by decide +kernel
theorem dX2_numberAt_24 : decode cX2_numberAt 24 = .ok (.iload_n 1, 1) := by decide +kernel
theorem dX2_numberAt_25 : decode cX2_numberAt 25 = .ok (.iload_n 2, 1) := by decide +kernel
theorem dX2_numberAt_26 : decode cX2_numberAt 26 = .ok (.invokevirtual 29, 3) := by decide +kernel
theorem dX2_numberAt_29 : decode cX2_numberAt 29 = .ok (.ifCond .ne 5, 3) := by decide +kernel
theorem dX2_numberAt_32 : decode cX2_numberAt 32 = .ok (.iload_n 3, 1) := by decide +kernel
theorem dX2_numberAt_33 : decode cX2_numberAt 33 = .ok (.ireturn, 1) := by decide +kernel
theorem dX2_numberAt_34 : decode cX2_numberAt 34 = .ok (.iinc 3 1, 3) := by decide +kernel
theorem dX2_numberAt_37 : decode cX2_numberAt 37 = .ok (.goto (-35), 3) := by decide +kernel
theorem dX2_numberAt_40 : decode cX2_numberAt 40 = .ok (.iconst (-1), 1) := by decide +kernel
theorem dX2_numberAt_41 : decode cX2_numberAt 41 = .ok (.ireturn, 1) := by decide +kernel
theorem dX2_stage_0 : decode cX2_stage 0 = .ok (.aload_n 0, 1) := by decide +kernel
theorem dX2_stage_1 : decode cX2_stage 1 = .ok (.invokevirtual 35, 3) := by decide +kernel
theorem dX2_stage_4 : decode cX2_stage 4 = .ok (.ifCond .ne 33, 3) := by decide +kernel
theorem dX2_stage_7 : decode cX2_stage 7 = .ok (.aload_n 0, 1) := by decide +kernel
theorem dX2_stage_8 : decode cX2_stage 8 = .ok (.getfield 11, 3) := by decide +kernel
theorem dX2_stage_11 : decode cX2_stage 11 = .ok (.aload_n 0, 1) := by decide +kernel
theorem dX2_stage_12 : decode cX2_stage 12 = .ok (.getfield 18, 3) := by decide +kernel
theorem dX2_stage_15 : decode cX2_stage 15 = .ok (.aload_n 0, 1) := by decide +kernel
theorem dX2_stage_16 : decode cX2_stage 16 = .ok (.getfield 22, 3) := by decide +kernel
theorem dX2_stage_19 : decode cX2_stage 19 = .ok (.iadd, 1) := by decide +kernel
theorem dX2_stage_20 : decode cX2_stage 20 = .ok (.aaload, 1) := by decide +kernel
theorem dX2_stage_21 : decode cX2_stage 21 = .ok (.iload_n 1, 1) := by decide +kernel
theorem dX2_stage_22 : decode cX2_stage 22 = .ok (.iload_n 2, 1) := by decide +kernel
theorem dX2_stage_23 : decode cX2_stage 23 = .ok (.iload_n 3, 1) := by decide +kernel
theorem dX2_stage_24 : decode cX2_stage 24 = .ok (.invokevirtual 39, 3) := by decide +kernel
theorem dX2_stage_27 : decode cX2_stage 27 = .ok (.aload_n 0, 1) := by decide +kernel
theorem dX2_stage_28 : decode cX2_stage 28 = .ok (.dup, 1) := by decide +kernel
theorem dX2_stage_29 : decode cX2_stage 29 = .ok (.getfield 22, 3) := by decide +kernel
theorem dX2_stage_32 : decode cX2_stage 32 = .ok (.iconst 1, 1) := by decide +kernel
theorem dX2_stage_33 : decode cX2_stage 33 = .ok (.iadd, 1) := by decide +kernel
theorem dX2_stage_34 : decode cX2_stage 34 = .ok (.putfield 22, 3) := by decide +kernel
theorem dX2_stage_37 : decode cX2_stage 37 = .ok (.return_, 1) := by decide +kernel
theorem dX3_add_0 : decode cX3_add 0 = .ok (.aload_n 0, 1) := by decide +kernel
theorem dX3_add_1 : decode cX3_add 1 = .ok (.getfield 21, 3) := by decide +kernel
theorem dX3_add_4 : decode cX3_add 4 = .ok (.bipush 8, 2) := by decide +kernel
theorem dX3_add_6 : decode cX3_add 6 = .ok (.if_icmp .ge 42, 3) := by decide +kernel
theorem dX3_add_9 : decode cX3_add 9 = .ok (.aload_n 0, 1) := by decide +kernel
theorem dX3_add_10 : decode cX3_add 10 = .ok (.getfield 11, 3) := by decide +kernel
theorem dX3_add_13 : decode cX3_add 13 = .ok (.aload_n 0, 1) := by decide +kernel
theorem dX3_add_14 : decode cX3_add 14 = .ok (.getfield 21, 3) := by decide +kernel
theorem dX3_add_17 : decode cX3_add 17 = .ok (.aaload, 1) := by decide +kernel
theorem dX3_add_18 : decode cX3_add 18 = .ok (.iload_n 1, 1) := by decide +kernel
theorem dX3_add_19 : decode cX3_add 19 = .ok (.iload_n 2, 1) := by decide +kernel
theorem dX3_add_20 : decode cX3_add 20 = .ok (.invokevirtual 25, 3) := by decide +kernel
theorem dX3_add_23 : decode cX3_add 23 = .ok (.aload_n 0, 1) := by decide +kernel
theorem dX3_add_24 : decode cX3_add 24 = .ok (.getfield 17, 3) := by decide +kernel
theorem dX3_add_27 : decode cX3_add 27 = .ok (.aload_n 0, 1) := by decide +kernel
theorem dX3_add_28 : decode cX3_add 28 = .ok (.getfield 21, 3) := by decide +kernel
theorem dX3_add_31 : decode cX3_add 31 = .ok (.aaload, 1) := by decide +kernel
theorem dX3_add_32 : decode cX3_add 32 = .ok (.iload_n 3, 1) := by decide +kernel
theorem dX3_add_33 : decode cX3_add 33 = .ok (.iload 4, 2) := by decide +kernel
theorem dX3_add_35 : decode cX3_add 35 = .ok (.invokevirtual 25, 3) := by decide +kernel
theorem dX3_add_38 : decode cX3_add 38 = .ok (.aload_n 0, 1) := by decide +kernel
theorem dX3_add_39 : decode cX3_add 39 = .ok (.dup, 1) := by decide +kernel
theorem dX3_add_40 : decode cX3_add 40 = .ok (.getfield 21, 3) := by decide +kernel
theorem dX3_add_43 : decode cX3_add 43 = .ok (.iconst 1, 1) := by decide +kernel
theorem dX3_add_44 : decode cX3_add 44 = .ok (.iadd, 1) := by decide +kernel
theorem dX3_add_45 : decode cX3_add 45 = .ok (.putfield 21, 3) := by decide +kernel
theorem dX3_add_48 : decode cX3_add 48 = .ok (.return_, 1) := by decide +kernel
