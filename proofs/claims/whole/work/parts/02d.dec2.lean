theorem dX12_isBetween_0 : decode cX12_isBetween 0 = .ok (.iload_n 0, 1) := by decide +kernel
theorem dX12_isBetween_1 : decode cX12_isBetween 1 = .ok (.iload_n 1, 1) := by decide +kernel
theorem dX12_isBetween_2 : decode cX12_isBetween 2 = .ok (.iload_n 2, 1) := by decide +kernel
theorem dX12_isBetween_3 : decode cX12_isBetween 3 = .ok (.if_icmp .ge 7, 3) := by decide +kernel
theorem dX12_isBetween_6 : decode cX12_isBetween 6 = .ok (.iload_n 1, 1) := by decide +kernel
theorem dX12_isBetween_7 : decode cX12_isBetween 7 = .ok (.goto 4, 3) := by decide +kernel
theorem dX12_isBetween_10 : decode cX12_isBetween 10 = .ok (.iload_n 2, 1) := by decide +kernel
theorem dX12_isBetween_11 : decode cX12_isBetween 11 = .ok (.if_icmp .lt 21, 3) := by decide +kernel
theorem dX12_isBetween_14 : decode cX12_isBetween 14 = .ok (.iload_n 0, 1) := by decide +kernel
theorem dX12_isBetween_15 : decode cX12_isBetween 15 = .ok (.iload_n 1, 1) := by decide +kernel
theorem dX12_isBetween_16 : decode cX12_isBetween 16 = .ok (.iload_n 2, 1) := by decide +kernel
theorem dX12_isBetween_17 : decode cX12_isBetween 17 = .ok (.if_icmp .ge 7, 3) := by decide +kernel
theorem dX12_isBetween_20 : decode cX12_isBetween 20 = .ok (.iload_n 2, 1) := by decide +kernel
theorem dX12_isBetween_21 : decode cX12_isBetween 21 = .ok (.goto 4, 3) := by decide +kernel
theorem dX12_isBetween_24 : decode cX12_isBetween 24 = .ok (.iload_n 1, 1) := by decide +kernel
theorem dX12_isBetween_25 : decode cX12_isBetween 25 = .ok (.if_icmp .gt 7, 3) := by decide +kernel
theorem dX12_isBetween_28 : decode cX12_isBetween 28 = .ok (.iconst 1, 1) := by decide +kernel
theorem dX12_isBetween_29 : decode cX12_isBetween 29 = .ok (.goto 4, 3) := by decide +kernel
theorem dX12_isBetween_32 : decode cX12_isBetween 32 = .ok (.iconst 0, 1) := by decide +kernel
theorem dX12_isBetween_33 : decode cX12_isBetween 33 = .ok (.ireturn, 1) := by decide +kernel
theorem dX12_isBoring_0 : decode cX12_isBoring 0 = .ok (.iload_n 1, 1) := by decide +kernel
theorem dX12_isBoring_1 : decode cX12_isBoring 1 = .ok (.iconst 0, 1) := by decide +kernel
theorem dX12_isBoring_2 : decode cX12_isBoring 2 = .ok (.aload_n 0, 1) := by decide +kernel
theorem dX12_isBoring_3 : decode cX12_isBoring 3 = .ok (.getfield 113, 3) := by decide +kernel
theorem dX12_isBoring_6 : decode cX12_isBoring 6 = .ok (.iconst 1, 1) := by decide +kernel
theorem dX12_isBoring_7 : decode cX12_isBoring 7 = .ok (.isub, 1) := by decide +kernel
theorem dX12_isBoring_8 : decode cX12_isBoring 8 = .ok (.invokestatic 109, 3) := by decide +kernel
theorem dX12_isBoring_11 : decode cX12_isBoring 11 = .ok (.ireturn, 1) := by decide +kernel
theorem dX12_isFree_0 : decode cX12_isFree 0 = .ok (.iconst 1, 1) := by decide +kernel
theorem dX12_isFree_1 : decode cX12_isFree 1 = .ok (.istore_n 3, 1) := by decide +kernel
theorem dX12_isFree_2 : decode cX12_isFree 2 = .ok (.iconst 0, 1) := by decide +kernel
theorem dX12_isFree_3 : decode cX12_isFree 3 = .ok (.istore 4, 2) := by decide +kernel
theorem dX12_isFree_5 : decode cX12_isFree 5 = .ok (.iload 4, 2) := by decide +kernel
theorem dX12_isFree_7 : decode cX12_isFree 7 = .ok (.aload_n 0, 1) := by decide +kernel
theorem dX12_isFree_8 : decode cX12_isFree 8 = .ok (.getfield 113, 3) := by decide +kernel
theorem dX12_isFree_11 : decode cX12_isFree 11 = .ok (.if_icmp .ge 75, 3) := by decide +kernel
theorem dX12_isFree_14 : decode cX12_isFree 14 = .ok (.iload_n 3, 1) := by decide +kernel
theorem dX12_isFree_15 : decode cX12_isFree 15 = .ok (.ifCond .eq 63, 3) := by decide +kernel
theorem dX12_isFree_18 : decode cX12_isFree 18 = .ok (.iload 4, 2) := by decide +kernel
theorem dX12_isFree_20 : decode cX12_isFree 20 = .ok (.iload_n 1, 1) := by decide +kernel
theorem dX12_isFree_21 : decode cX12_isFree 21 = .ok (.if_icmp .eq 53, 3) := by decide +kernel
theorem dX12_isFree_24 : decode cX12_isFree 24 = .ok (.iload 4, 2) := by decide +kernel
theorem dX12_isFree_26 : decode cX12_isFree 26 = .ok (.iload_n 2, 1) := by decide +kernel
theorem dX12_isFree_27 : decode cX12_isFree 27 = .ok (.if_icmp .eq 47, 3) := by decide +kernel
theorem dX12_isFree_30 : decode cX12_isFree 30 = .ok (.aload_n 0, 1) := by decide +kernel
theorem dX12_isFree_31 : decode cX12_isFree 31 = .ok (.getfield 7, 3) := by decide +kernel
theorem dX12_isFree_34 : decode cX12_isFree 34 = .ok (.iload_n 1, 1) := by decide +kernel
theorem dX12_isFree_35 : decode cX12_isFree 35 = .ok (.iaload, 1) := by decide +kernel
theorem dX12_isFree_36 : decode cX12_isFree 36 = .ok (.aload_n 0, 1) := by decide +kernel
theorem dX12_isFree_37 : decode cX12_isFree 37 = .ok (.getfield 13, 3) := by decide +kernel
theorem dX12_isFree_40 : decode cX12_isFree 40 = .ok (.iload_n 1, 1) := by decide +kernel
theorem dX12_isFree_41 : decode cX12_isFree 41 = .ok (.iaload, 1) := by decide +kernel
theorem dX12_isFree_42 : decode cX12_isFree 42 = .ok (.aload_n 0, 1) := by decide +kernel
theorem dX12_isFree_43 : decode cX12_isFree 43 = .ok (.getfield 7, 3) := by decide +kernel
theorem dX12_isFree_46 : decode cX12_isFree 46 = .ok (.iload_n 2, 1) := by decide +kernel
theorem dX12_isFree_47 : decode cX12_isFree 47 = .ok (.iaload, 1) := by decide +kernel
theorem dX12_isFree_48 : decode cX12_isFree 48 = .ok (.aload_n 0, 1) := by decide +kernel
theorem dX12_isFree_49 : decode cX12_isFree 49 = .ok (.getfield 13, 3) := by decide +kernel
theorem dX12_isFree_52 : decode cX12_isFree 52 = .ok (.iload_n 2, 1) := by decide +kernel
theorem dX12_isFree_53 : decode cX12_isFree 53 = .ok (.iaload, 1) := by decide +kernel
theorem dX12_isFree_54 : decode cX12_isFree 54 = .ok (.aload_n 0, 1) := by decide +kernel
theorem dX12_isFree_55 : decode cX12_isFree 55 = .ok (.getfield 7, 3) := by decide +kernel
theorem dX12_isFree_58 : decode cX12_isFree 58 = .ok (.iload 4, 2) := by decide +kernel
theorem dX12_isFree_60 : decode cX12_isFree 60 = .ok (.iaload, 1) := by decide +kernel
theorem dX12_isFree_61 : decode cX12_isFree 61 = .ok (.aload_n 0, 1) := by decide +kernel
theorem dX12_isFree_62 : decode cX12_isFree 62 = .ok (.getfield 13, 3) := by decide +kernel
theorem dX12_isFree_65 : decode cX12_isFree 65 = .ok (.iload 4, 2) := by decide +kernel
theorem dX12_isFree_67 : decode cX12_isFree 67 = .ok (.iaload, 1) := by decide +kernel
theorem dX12_isFree_68 : decode cX12_isFree 68 = .ok (.invokestatic 153, 3) := by decide +kernel
theorem dX12_isFree_71 : decode cX12_isFree 71 = .ok (.ifCond .ne 7, 3) := by decide +kernel
theorem dX12_isFree_74 : decode cX12_isFree 74 = .ok (.iconst 1, 1) := by decide +kernel
theorem dX12_isFree_75 : decode cX12_isFree 75 = .ok (.goto 4, 3) := by decide +kernel
theorem dX12_isFree_78 : decode cX12_isFree 78 = .ok (.iconst 0, 1) := by decide +kernel
theorem dX12_isFree_79 : decode cX12_isFree 79 = .ok (.istore_n 3, 1) := by decide +kernel
theorem dX12_isFree_80 : decode cX12_isFree 80 = .ok (.iinc 4 1, 3) := by decide +kernel
theorem dX12_isFree_83 : decode cX12_isFree 83 = .ok (.goto (-78), 3) := by decide +kernel
theorem dX12_isFree_86 : decode cX12_isFree 86 = .ok (.iconst 0, 1) := by decide +kernel
theorem dX12_isFree_87 : decode cX12_isFree 87 = .ok (.istore 4, 2) := by decide +kernel
theorem dX12_isFree_89 : decode cX12_isFree 89 = .ok (.iload 4, 2) := by decide +kernel
theorem dX12_isFree_91 : decode cX12_isFree 91 = .ok (.aload_n 0, 1) := by decide +kernel
theorem dX12_isFree_92 : decode cX12_isFree 92 = .ok (.getfield 157, 3) := by decide +kernel
theorem dX12_isFree_95 : decode cX12_isFree 95 = .ok (.if_icmp .ge 131, 3) := by decide +kernel
theorem dX12_isFree_98 : decode cX12_isFree 98 = .ok (.aload_n 0, 1) := by decide +kernel
theorem dX12_isFree_99 : decode cX12_isFree 99 = .ok (.getfield 41, 3) := by decide +kernel
theorem dX12_isFree_102 : decode cX12_isFree 102 = .ok (.iload 4, 2) := by decide +kernel
theorem dX12_isFree_104 : decode cX12_isFree 104 = .ok (.iaload, 1) := by decide +kernel
theorem dX12_isFree_105 : decode cX12_isFree 105 = .ok (.istore 5, 2) := by decide +kernel
theorem dX12_isFree_107 : decode cX12_isFree 107 = .ok (.aload_n 0, 1) := by decide +kernel
theorem dX12_isFree_108 : decode cX12_isFree 108 = .ok (.getfield 44, 3) := by decide +kernel
theorem dX12_isFree_111 : decode cX12_isFree 111 = .ok (.iload 4, 2) := by decide +kernel
theorem dX12_isFree_113 : decode cX12_isFree 113 = .ok (.iaload, 1) := by decide +kernel
theorem dX12_isFree_114 : decode cX12_isFree 114 = .ok (.istore 6, 2) := by decide +kernel
theorem dX12_isFree_116 : decode cX12_isFree 116 = .ok (.iload_n 1, 1) := by decide +kernel
theorem dX12_isFree_117 : decode cX12_isFree 117 = .ok (.iload 5, 2) := by decide +kernel
theorem dX12_isFree_119 : decode cX12_isFree 119 = .ok (.if_icmp .eq 21, 3) := by decide +kernel
theorem dX12_isFree_122 : decode cX12_isFree 122 = .ok (.iload_n 1, 1) := by decide +kernel
theorem dX12_isFree_123 : decode cX12_isFree 123 = .ok (.iload 6, 2) := by decide +kernel
theorem dX12_isFree_125 : decode cX12_isFree 125 = .ok (.if_icmp .eq 15, 3) := by decide +kernel
theorem dX12_isFree_128 : decode cX12_isFree 128 = .ok (.iload_n 2, 1) := by decide +kernel
theorem dX12_isFree_129 : decode cX12_isFree 129 = .ok (.iload 5, 2) := by decide +kernel
theorem dX12_isFree_131 : decode cX12_isFree 131 = .ok (.if_icmp .eq 9, 3) := by decide +kernel
theorem dX12_isFree_134 : decode cX12_isFree 134 = .ok (.iload_n 2, 1) := by decide +kernel
theorem dX12_isFree_135 : decode cX12_isFree 135 = .ok (.iload 6, 2) := by decide +kernel
theorem dX12_isFree_137 : decode cX12_isFree 137 = .ok (.if_icmp .ne 7, 3) := by decide +kernel
theorem dX12_isFree_140 : decode cX12_isFree 140 = .ok (.iconst 1, 1) := by decide +kernel
theorem dX12_isFree_141 : decode cX12_isFree 141 = .ok (.goto 4, 3) := by decide +kernel
theorem dX12_isFree_144 : decode cX12_isFree 144 = .ok (.iconst 0, 1) := by decide +kernel
theorem dX12_isFree_145 : decode cX12_isFree 145 = .ok (.istore 7, 2) := by decide +kernel
theorem dX12_isFree_147 : decode cX12_isFree 147 = .ok (.iload_n 3, 1) := by decide +kernel
theorem dX12_isFree_148 : decode cX12_isFree 148 = .ok (.ifCond .eq 70, 3) := by decide +kernel
theorem dX12_isFree_151 : decode cX12_isFree 151 = .ok (.iload 7, 2) := by decide +kernel
theorem dX12_isFree_153 : decode cX12_isFree 153 = .ok (.ifCond .ne 61, 3) := by decide +kernel
theorem dX12_isFree_156 : decode cX12_isFree 156 = .ok (.aload_n 0, 1) := by decide +kernel
theorem dX12_isFree_157 : decode cX12_isFree 157 = .ok (.getfield 7, 3) := by decide +kernel
theorem dX12_isFree_160 : decode cX12_isFree 160 = .ok (.iload_n 1, 1) := by decide +kernel
theorem dX12_isFree_161 : decode cX12_isFree 161 = .ok (.iaload, 1) := by decide +kernel
theorem dX12_isFree_162 : decode cX12_isFree 162 = .ok (.aload_n 0, 1) := by decide +kernel
theorem dX12_isFree_163 : decode cX12_isFree 163 = .ok (.getfield 13, 3) := by decide +kernel
theorem dX12_isFree_166 : decode cX12_isFree 166 = .ok (.iload_n 1, 1) := by decide +kernel
theorem dX12_isFree_167 : decode cX12_isFree 167 = .ok (.iaload, 1) := by decide +kernel
theorem dX12_isFree_168 : decode cX12_isFree 168 = .ok (.aload_n 0, 1) := by decide +kernel
theorem dX12_isFree_169 : decode cX12_isFree 169 = .ok (.getfield 7, 3) := by decide +kernel
theorem dX12_isFree_172 : decode cX12_isFree 172 = .ok (.iload_n 2, 1) := by decide +kernel
theorem dX12_isFree_173 : decode cX12_isFree 173 = .ok (.iaload, 1) := by decide +kernel
theorem dX12_isFree_174 : decode cX12_isFree 174 = .ok (.aload_n 0, 1) := by decide +kernel
theorem dX12_isFree_175 : decode cX12_isFree 175 = .ok (.getfield 13, 3) := by decide +kernel
theorem dX12_isFree_178 : decode cX12_isFree 178 = .ok (.iload_n 2, 1) := by decide +kernel
theorem dX12_isFree_179 : decode cX12_isFree 179 = .ok (.iaload, 1) := by decide +kernel
theorem dX12_isFree_180 : decode cX12_isFree 180 = .ok (.aload_n 0, 1) := by decide +kernel
theorem dX12_isFree_181 : decode cX12_isFree 181 = .ok (.getfield 7, 3) := by decide +kernel
theorem dX12_isFree_184 : decode cX12_isFree 184 = .ok (.iload 5, 2) := by decide +kernel
theorem dX12_isFree_186 : decode cX12_isFree 186 = .ok (.iaload, 1) := by decide +kernel
theorem dX12_isFree_187 : decode cX12_isFree 187 = .ok (.aload_n 0, 1) := by decide +kernel
theorem dX12_isFree_188 : decode cX12_isFree 188 = .ok (.getfield 13, 3) := by decide +kernel
theorem dX12_isFree_191 : decode cX12_isFree 191 = .ok (.iload 5, 2) := by decide +kernel
theorem dX12_isFree_193 : decode cX12_isFree 193 = .ok (.iaload, 1) := by decide +kernel
theorem dX12_isFree_194 : decode cX12_isFree 194 = .ok (.aload_n 0, 1) := by decide +kernel
theorem dX12_isFree_195 : decode cX12_isFree 195 = .ok (.getfield 7, 3) := by decide +kernel
theorem dX12_isFree_198 : decode cX12_isFree 198 = .ok (.iload 6, 2) := by decide +kernel
theorem dX12_isFree_200 : decode cX12_isFree 200 = .ok (.iaload, 1) := by decide +kernel
theorem dX12_isFree_201 : decode cX12_isFree 201 = .ok (.aload_n 0, 1) := by decide +kernel
theorem dX12_isFree_202 : decode cX12_isFree 202 = .ok (.getfield 13, 3) := by decide +kernel
theorem dX12_isFree_205 : decode cX12_isFree 205 = .ok (.iload 6, 2) := by decide +kernel
theorem dX12_isFree_207 : decode cX12_isFree 207 = .ok (.iaload, 1) := by decide +kernel
theorem dX12_isFree_208 : decode cX12_isFree 208 = .ok (.invokestatic 160, 3) := by decide +kernel
theorem dX12_isFree_211 : decode cX12_isFree 211 = .ok (.ifCond .ne 7, 3) := by decide +kernel
theorem dX12_isFree_214 : decode cX12_isFree 214 = .ok (.iconst 1, 1) := by decide +kernel
theorem dX12_isFree_215 : decode cX12_isFree 215 = .ok (.goto 4, 3) := by decide +kernel
theorem dX12_isFree_218 : decode cX12_isFree 218 = .ok (.iconst 0, 1) := by decide +kernel
theorem dX12_isFree_219 : decode cX12_isFree 219 = .ok (.istore_n 3, 1) := by decide +kernel
theorem dX12_isFree_220 : decode cX12_isFree 220 = .ok (.iinc 4 1, 3) := by decide +kernel
theorem dX12_isFree_223 : decode cX12_isFree 223 = .ok (.goto (-134), 3) := by decide +kernel
theorem dX12_isFree_226 : decode cX12_isFree 226 = .ok (.iload_n 3, 1) := by decide +kernel
theorem dX12_isFree_227 : decode cX12_isFree 227 = .ok (.ireturn, 1) := by decide +kernel
theorem dX12_isNewPlace_0 : decode cX12_isNewPlace 0 = .ok (.aload_n 0, 1) := by decide +kernel
theorem dX12_isNewPlace_1 : decode cX12_isNewPlace 1 = .ok (.iload_n 1, 1) := by decide +kernel
theorem dX12_isNewPlace_2 : decode cX12_isNewPlace 2 = .ok (.iload_n 2, 1) := by decide +kernel
theorem dX12_isNewPlace_3 : decode cX12_isNewPlace 3 = .ok (.invokevirtual 122, 3) := by decide +kernel
theorem dX12_isNewPlace_6 : decode cX12_isNewPlace 6 = .ok (.ifCond .ne 7, 3) := by decide +kernel
theorem dX12_isNewPlace_9 : decode cX12_isNewPlace 9 = .ok (.iconst 1, 1) := by decide +kernel
theorem dX12_isNewPlace_10 : decode cX12_isNewPlace 10 = .ok (.goto 4, 3) := by decide +kernel
theorem dX12_isNewPlace_13 : decode cX12_isNewPlace 13 = .ok (.iconst 0, 1) := by decide +kernel
theorem dX12_isNewPlace_14 : decode cX12_isNewPlace 14 = .ok (.istore_n 3, 1) := by decide +kernel
theorem dX12_isNewPlace_15 : decode cX12_isNewPlace 15 = .ok (.iconst 0, 1) := by decide +kernel
theorem dX12_isNewPlace_16 : decode cX12_isNewPlace 16 = .ok (.istore 4, 2) := by decide +kernel
theorem dX12_isNewPlace_18 : decode cX12_isNewPlace 18 = .ok (.iload 4, 2) := by decide +kernel
theorem dX12_isNewPlace_20 : decode cX12_isNewPlace 20 = .ok (.aload_n 0, 1) := by decide +kernel
theorem dX12_isNewPlace_21 : decode cX12_isNewPlace 21 = .ok (.getfield 269, 3) := by decide +kernel
theorem dX12_isNewPlace_24 : decode cX12_isNewPlace 24 = .ok (.if_icmp .ge 41, 3) := by decide +kernel
theorem dX12_isNewPlace_27 : decode cX12_isNewPlace 27 = .ok (.iload_n 3, 1) := by decide +kernel
theorem dX12_isNewPlace_28 : decode cX12_isNewPlace 28 = .ok (.ifCond .eq 29, 3) := by decide +kernel
theorem dX12_isNewPlace_31 : decode cX12_isNewPlace 31 = .ok (.aload_n 0, 1) := by decide +kernel
theorem dX12_isNewPlace_32 : decode cX12_isNewPlace 32 = .ok (.getfield 88, 3) := by decide +kernel
theorem dX12_isNewPlace_35 : decode cX12_isNewPlace 35 = .ok (.iload 4, 2) := by decide +kernel
theorem dX12_isNewPlace_37 : decode cX12_isNewPlace 37 = .ok (.iaload, 1) := by decide +kernel
theorem dX12_isNewPlace_38 : decode cX12_isNewPlace 38 = .ok (.iload_n 1, 1) := by decide +kernel
theorem dX12_isNewPlace_39 : decode cX12_isNewPlace 39 = .ok (.if_icmp .ne 14, 3) := by decide +kernel
theorem dX12_isNewPlace_42 : decode cX12_isNewPlace 42 = .ok (.aload_n 0, 1) := by decide +kernel
theorem dX12_isNewPlace_43 : decode cX12_isNewPlace 43 = .ok (.getfield 91, 3) := by decide +kernel
theorem dX12_isNewPlace_46 : decode cX12_isNewPlace 46 = .ok (.iload 4, 2) := by decide +kernel
theorem dX12_isNewPlace_48 : decode cX12_isNewPlace 48 = .ok (.iaload, 1) := by decide +kernel
theorem dX12_isNewPlace_49 : decode cX12_isNewPlace 49 = .ok (.iload_n 2, 1) := by decide +kernel
theorem dX12_isNewPlace_50 : decode cX12_isNewPlace 50 = .ok (.if_icmp .eq 7, 3) := by decide +kernel
theorem dX12_isNewPlace_53 : decode cX12_isNewPlace 53 = .ok (.iconst 1, 1) := by decide +kernel
theorem dX12_isNewPlace_54 : decode cX12_isNewPlace 54 = .ok (.goto 4, 3) := by decide +kernel
theorem dX12_isNewPlace_57 : decode cX12_isNewPlace 57 = .ok (.iconst 0, 1) := by decide +kernel
theorem dX12_isNewPlace_58 : decode cX12_isNewPlace 58 = .ok (.istore_n 3, 1) := by decide +kernel
theorem dX12_isNewPlace_59 : decode cX12_isNewPlace 59 = .ok (.iinc 4 1, 3) := by decide +kernel
theorem dX12_isNewPlace_62 : decode cX12_isNewPlace 62 = .ok (.goto (-44), 3) := by decide +kernel
theorem dX12_isNewPlace_65 : decode cX12_isNewPlace 65 = .ok (.iload_n 3, 1) := by decide +kernel
theorem dX12_isNewPlace_66 : decode cX12_isNewPlace 66 = .ok (.ireturn, 1) := by decide +kernel
theorem dX12_isNumber_0 : decode cX12_isNumber 0 = .ok (.aload_n 0, 1) := by decide +kernel
theorem dX12_isNumber_1 : decode cX12_isNumber 1 = .ok (.getfield 75, 3) := by decide +kernel
theorem dX12_isNumber_4 : decode cX12_isNumber 4 = .ok (.iload_n 1, 1) := by decide +kernel
theorem dX12_isNumber_5 : decode cX12_isNumber 5 = .ok (.iaload, 1) := by decide +kernel
theorem dX12_isNumber_6 : decode cX12_isNumber 6 = .ok (.istore 4, 2) := by decide +kernel
theorem dX12_isNumber_8 : decode cX12_isNumber 8 = .ok (.aload_n 0, 1) := by decide +kernel
theorem dX12_isNumber_9 : decode cX12_isNumber 9 = .ok (.getfield 72, 3) := by decide +kernel
theorem dX12_isNumber_12 : decode cX12_isNumber 12 = .ok (.iload 4, 2) := by decide +kernel
theorem dX12_isNumber_14 : decode cX12_isNumber 14 = .ok (.iaload, 1) := by decide +kernel
theorem dX12_isNumber_15 : decode cX12_isNumber 15 = .ok (.bipush 45, 2) := by decide +kernel
theorem dX12_isNumber_17 : decode cX12_isNumber 17 = .ok (.if_icmp .ne 7, 3) := by decide +kernel
theorem dX12_isNumber_20 : decode cX12_isNumber 20 = .ok (.iconst 1, 1) := by decide +kernel
theorem dX12_isNumber_21 : decode cX12_isNumber 21 = .ok (.goto 4, 3) := by decide +kernel
theorem dX12_isNumber_24 : decode cX12_isNumber 24 = .ok (.iconst 0, 1) := by decide +kernel
theorem dX12_isNumber_25 : decode cX12_isNumber 25 = .ok (.istore 5, 2) := by decide +kernel
theorem dX12_isNumber_27 : decode cX12_isNumber 27 = .ok (.aload_n 0, 1) := by decide +kernel
theorem dX12_isNumber_28 : decode cX12_isNumber 28 = .ok (.getfield 78, 3) := by decide +kernel
theorem dX12_isNumber_31 : decode cX12_isNumber 31 = .ok (.iload_n 1, 1) := by decide +kernel
theorem dX12_isNumber_32 : decode cX12_isNumber 32 = .ok (.iaload, 1) := by decide +kernel
theorem dX12_isNumber_33 : decode cX12_isNumber 33 = .ok (.iload 4, 2) := by decide +kernel
theorem dX12_isNumber_35 : decode cX12_isNumber 35 = .ok (.isub, 1) := by decide +kernel
theorem dX12_isNumber_36 : decode cX12_isNumber 36 = .ok (.iload 5, 2) := by decide +kernel
theorem dX12_isNumber_38 : decode cX12_isNumber 38 = .ok (.ifCond .eq 7, 3) := by decide +kernel
theorem dX12_isNumber_41 : decode cX12_isNumber 41 = .ok (.iconst 1, 1) := by decide +kernel
theorem dX12_isNumber_42 : decode cX12_isNumber 42 = .ok (.goto 4, 3) := by decide +kernel
theorem dX12_isNumber_45 : decode cX12_isNumber 45 = .ok (.iconst 0, 1) := by decide +kernel
theorem dX12_isNumber_46 : decode cX12_isNumber 46 = .ok (.isub, 1) := by decide +kernel
theorem dX12_isNumber_47 : decode cX12_isNumber 47 = .ok (.istore 6, 2) := by decide +kernel
theorem dX12_isNumber_49 : decode cX12_isNumber 49 = .ok (.iload 6, 2) := by decide +kernel
theorem dX12_isNumber_51 : decode cX12_isNumber 51 = .ok (.ifCond .le 14, 3) := by decide +kernel
theorem dX12_isNumber_54 : decode cX12_isNumber 54 = .ok (.iload 6, 2) := by decide +kernel
theorem dX12_isNumber_56 : decode cX12_isNumber 56 = .ok (.bipush 7, 2) := by decide +kernel
theorem dX12_isNumber_58 : decode cX12_isNumber 58 = .ok (.if_icmp .ge 7, 3) := by decide +kernel
theorem dX12_isNumber_61 : decode cX12_isNumber 61 = .ok (.iconst 1, 1) := by decide +kernel
theorem dX12_isNumber_62 : decode cX12_isNumber 62 = .ok (.goto 4, 3) := by decide +kernel
theorem dX12_isNumber_65 : decode cX12_isNumber 65 = .ok (.iconst 0, 1) := by decide +kernel
theorem dX12_isNumber_66 : decode cX12_isNumber 66 = .ok (.istore 7, 2) := by decide +kernel
theorem dX12_isNumber_68 : decode cX12_isNumber 68 = .ok (.iconst 0, 1) := by decide +kernel
theorem dX12_isNumber_69 : decode cX12_isNumber 69 = .ok (.istore 8, 2) := by decide +kernel
theorem dX12_isNumber_71 : decode cX12_isNumber 71 = .ok (.iload 4, 2) := by decide +kernel
theorem dX12_isNumber_73 : decode cX12_isNumber 73 = .ok (.iload 5, 2) := by decide +kernel
theorem dX12_isNumber_75 : decode cX12_isNumber 75 = .ok (.ifCond .eq 7, 3) := by decide +kernel
theorem dX12_isNumber_78 : decode cX12_isNumber 78 = .ok (.iconst 1, 1) := by decide +kernel
theorem dX12_isNumber_79 : decode cX12_isNumber 79 = .ok (.goto 4, 3) := by decide +kernel
theorem dX12_isNumber_82 : decode cX12_isNumber 82 = .ok (.iconst 0, 1) := by decide +kernel
theorem dX12_isNumber_83 : decode cX12_isNumber 83 = .ok (.iadd, 1) := by decide +kernel
theorem dX12_isNumber_84 : decode cX12_isNumber 84 = .ok (.istore 9, 2) := by decide +kernel
theorem dX12_isNumber_86 : decode cX12_isNumber 86 = .ok (.iload 9, 2) := by decide +kernel
theorem dX12_isNumber_88 : decode cX12_isNumber 88 = .ok (.aload_n 0, 1) := by decide +kernel
theorem dX12_isNumber_89 : decode cX12_isNumber 89 = .ok (.getfield 78, 3) := by decide +kernel
theorem dX12_isNumber_92 : decode cX12_isNumber 92 = .ok (.iload_n 1, 1) := by decide +kernel
theorem dX12_isNumber_93 : decode cX12_isNumber 93 = .ok (.iaload, 1) := by decide +kernel
theorem dX12_isNumber_94 : decode cX12_isNumber 94 = .ok (.if_icmp .ge 63, 3) := by decide +kernel
theorem dX12_isNumber_97 : decode cX12_isNumber 97 = .ok (.iload 7, 2) := by decide +kernel
theorem dX12_isNumber_99 : decode cX12_isNumber 99 = .ok (.ifCond .eq 58, 3) := by decide +kernel
theorem dX12_isNumber_102 : decode cX12_isNumber 102 = .ok (.aload_n 0, 1) := by decide +kernel
theorem dX12_isNumber_103 : decode cX12_isNumber 103 = .ok (.getfield 72, 3) := by decide +kernel
theorem dX12_isNumber_106 : decode cX12_isNumber 106 = .ok (.iload 9, 2) := by decide +kernel
theorem dX12_isNumber_108 : decode cX12_isNumber 108 = .ok (.iaload, 1) := by decide +kernel
theorem dX12_isNumber_109 : decode cX12_isNumber 109 = .ok (.bipush 48, 2) := by decide +kernel
theorem dX12_isNumber_111 : decode cX12_isNumber 111 = .ok (.if_icmp .lt 19, 3) := by decide +kernel
theorem dX12_isNumber_114 : decode cX12_isNumber 114 = .ok (.aload_n 0, 1) := by decide +kernel
theorem dX12_isNumber_115 : decode cX12_isNumber 115 = .ok (.getfield 72, 3) := by decide +kernel
theorem dX12_isNumber_118 : decode cX12_isNumber 118 = .ok (.iload 9, 2) := by decide +kernel
theorem dX12_isNumber_120 : decode cX12_isNumber 120 = .ok (.iaload, 1) := by decide +kernel
theorem dX12_isNumber_121 : decode cX12_isNumber 121 = .ok (.bipush 57, 2) := by decide +kernel
theorem dX12_isNumber_123 : decode cX12_isNumber 123 = .ok (.if_icmp .gt 7, 3) := by decide +kernel
theorem dX12_isNumber_126 : decode cX12_isNumber 126 = .ok (.iconst 1, 1) := by decide +kernel
theorem dX12_isNumber_127 : decode cX12_isNumber 127 = .ok (.goto 4, 3) := by decide +kernel
theorem dX12_isNumber_130 : decode cX12_isNumber 130 = .ok (.iconst 0, 1) := by decide +kernel
theorem dX12_isNumber_131 : decode cX12_isNumber 131 = .ok (.istore 7, 2) := by decide +kernel
theorem dX12_isNumber_133 : decode cX12_isNumber 133 = .ok (.bipush 10, 2) := by decide +kernel
theorem dX12_isNumber_135 : decode cX12_isNumber 135 = .ok (.iload 8, 2) := by decide +kernel
theorem dX12_isNumber_137 : decode cX12_isNumber 137 = .ok (.imul, 1) := by decide +kernel
theorem dX12_isNumber_138 : decode cX12_isNumber 138 = .ok (.aload_n 0, 1) := by decide +kernel
theorem dX12_isNumber_139 : decode cX12_isNumber 139 = .ok (.getfield 72, 3) := by decide +kernel
theorem dX12_isNumber_142 : decode cX12_isNumber 142 = .ok (.iload 9, 2) := by decide +kernel
theorem dX12_isNumber_144 : decode cX12_isNumber 144 = .ok (.iaload, 1) := by decide +kernel
theorem dX12_isNumber_145 : decode cX12_isNumber 145 = .ok (.iadd, 1) := by decide +kernel
theorem dX12_isNumber_146 : decode cX12_isNumber 146 = .ok (.bipush 48, 2) := by decide +kernel
theorem dX12_isNumber_148 : decode cX12_isNumber 148 = .ok (.isub, 1) := by decide +kernel
theorem dX12_isNumber_149 : decode cX12_isNumber 149 = .ok (.istore 8, 2) := by decide +kernel
theorem dX12_isNumber_151 : decode cX12_isNumber 151 = .ok (.iinc 9 1, 3) := by decide +kernel
theorem dX12_isNumber_154 : decode cX12_isNumber 154 = .ok (.goto (-68), 3) := by decide +kernel
theorem dX12_isNumber_157 : decode cX12_isNumber 157 = .ok (.aload_n 0, 1) := by decide +kernel
theorem dX12_isNumber_158 : decode cX12_isNumber 158 = .ok (.getfield 81, 3) := by decide +kernel
theorem dX12_isNumber_161 : decode cX12_isNumber 161 = .ok (.iload_n 1, 1) := by decide +kernel
theorem dX12_isNumber_162 : decode cX12_isNumber 162 = .ok (.iload 5, 2) := by decide +kernel
theorem dX12_isNumber_164 : decode cX12_isNumber 164 = .ok (.ifCond .eq 9, 3) := by decide +kernel
theorem dX12_isNumber_167 : decode cX12_isNumber 167 = .ok (.iload 8, 2) := by decide +kernel
theorem dX12_isNumber_169 : decode cX12_isNumber 169 = .ok (.ineg, 1) := by decide +kernel
theorem dX12_isNumber_170 : decode cX12_isNumber 170 = .ok (.goto 5, 3) := by decide +kernel
theorem dX12_isNumber_173 : decode cX12_isNumber 173 = .ok (.iload 8, 2) := by decide +kernel
theorem dX12_isNumber_175 : decode cX12_isNumber 175 = .ok (.iastore, 1) := by decide +kernel
theorem dX12_isNumber_176 : decode cX12_isNumber 176 = .ok (.iload 7, 2) := by decide +kernel
theorem dX12_isNumber_178 : decode cX12_isNumber 178 = .ok (.ifCond .eq 21, 3) := by decide +kernel
theorem dX12_isNumber_181 : decode cX12_isNumber 181 = .ok (.aload_n 0, 1) := by decide +kernel
theorem dX12_isNumber_182 : decode cX12_isNumber 182 = .ok (.getfield 81, 3) := by decide +kernel
theorem dX12_isNumber_185 : decode cX12_isNumber 185 = .ok (.iload_n 1, 1) := by decide +kernel
theorem dX12_isNumber_186 : decode cX12_isNumber 186 = .ok (.iaload, 1) := by decide +kernel
theorem dX12_isNumber_187 : decode cX12_isNumber 187 = .ok (.iload_n 2, 1) := by decide +kernel
theorem dX12_isNumber_188 : decode cX12_isNumber 188 = .ok (.iload_n 3, 1) := by decide +kernel
theorem dX12_isNumber_189 : decode cX12_isNumber 189 = .ok (.invokestatic 109, 3) := by decide +kernel
theorem dX12_isNumber_192 : decode cX12_isNumber 192 = .ok (.ifCond .eq 7, 3) := by decide +kernel
theorem dX12_isNumber_195 : decode cX12_isNumber 195 = .ok (.iconst 1, 1) := by decide +kernel
theorem dX12_isNumber_196 : decode cX12_isNumber 196 = .ok (.goto 4, 3) := by decide +kernel
theorem dX12_isNumber_199 : decode cX12_isNumber 199 = .ok (.iconst 0, 1) := by decide +kernel
theorem dX12_isNumber_200 : decode cX12_isNumber 200 = .ok (.ireturn, 1) := by decide +kernel
theorem dX12_isOld_0 : decode cX12_isOld 0 = .ok (.aload_n 0, 1) := by decide +kernel
theorem dX12_isOld_1 : decode cX12_isOld 1 = .ok (.iconst 0, 1) := by decide +kernel
theorem dX12_isOld_2 : decode cX12_isOld 2 = .ok (.putfield 106, 3) := by decide +kernel
theorem dX12_isOld_5 : decode cX12_isOld 5 = .ok (.aload_n 0, 1) := by decide +kernel
theorem dX12_isOld_6 : decode cX12_isOld 6 = .ok (.aload_n 0, 1) := by decide +kernel
theorem dX12_isOld_7 : decode cX12_isOld 7 = .ok (.getfield 125, 3) := by decide +kernel
theorem dX12_isOld_10 : decode cX12_isOld 10 = .ok (.ifCond .ne 7, 3) := by decide +kernel
theorem dX12_isOld_13 : decode cX12_isOld 13 = .ok (.iconst 1, 1) := by decide +kernel
theorem dX12_isOld_14 : decode cX12_isOld 14 = .ok (.goto 4, 3) := by decide +kernel
theorem dX12_isOld_17 : decode cX12_isOld 17 = .ok (.iconst 0, 1) := by decide +kernel
theorem dX12_isOld_18 : decode cX12_isOld 18 = .ok (.iconst 1, 1) := by decide +kernel
theorem dX12_isOld_19 : decode cX12_isOld 19 = .ok (.invokevirtual 215, 3) := by decide +kernel
theorem dX12_isOld_22 : decode cX12_isOld 22 = .ok (.ireturn, 1) := by decide +kernel
theorem dX12_isOn_0 : decode cX12_isOn 0 = .ok (.iload_n 0, 1) := by decide +kernel
theorem dX12_isOn_1 : decode cX12_isOn 1 = .ok (.iload_n 1, 1) := by decide +kernel
theorem dX12_isOn_2 : decode cX12_isOn 2 = .ok (.iload_n 2, 1) := by decide +kernel
theorem dX12_isOn_3 : decode cX12_isOn 3 = .ok (.iload_n 3, 1) := by decide +kernel
theorem dX12_isOn_4 : decode cX12_isOn 4 = .ok (.iload 4, 2) := by decide +kernel
theorem dX12_isOn_6 : decode cX12_isOn 6 = .ok (.iload 5, 2) := by decide +kernel
theorem dX12_isOn_8 : decode cX12_isOn 8 = .ok (.invokestatic 146, 3) := by decide +kernel
theorem dX12_isOn_11 : decode cX12_isOn 11 = .ok (.ifCond .ne 27, 3) := by decide +kernel
theorem dX12_isOn_14 : decode cX12_isOn 14 = .ok (.iload 4, 2) := by decide +kernel
theorem dX12_isOn_16 : decode cX12_isOn 16 = .ok (.iload_n 0, 1) := by decide +kernel
theorem dX12_isOn_17 : decode cX12_isOn 17 = .ok (.iload_n 2, 1) := by decide +kernel
theorem dX12_isOn_18 : decode cX12_isOn 18 = .ok (.invokestatic 150, 3) := by decide +kernel
theorem dX12_isOn_21 : decode cX12_isOn 21 = .ok (.ifCond .eq 17, 3) := by decide +kernel
theorem dX12_isOn_24 : decode cX12_isOn 24 = .ok (.iload 5, 2) := by decide +kernel
theorem dX12_isOn_26 : decode cX12_isOn 26 = .ok (.iload_n 1, 1) := by decide +kernel
theorem dX12_isOn_27 : decode cX12_isOn 27 = .ok (.iload_n 3, 1) := by decide +kernel
theorem dX12_isOn_28 : decode cX12_isOn 28 = .ok (.invokestatic 150, 3) := by decide +kernel
theorem dX12_isOn_31 : decode cX12_isOn 31 = .ok (.ifCond .eq 7, 3) := by decide +kernel
theorem dX12_isOn_34 : decode cX12_isOn 34 = .ok (.iconst 1, 1) := by decide +kernel
theorem dX12_isOn_35 : decode cX12_isOn 35 = .ok (.goto 4, 3) := by decide +kernel
theorem dX12_isOn_38 : decode cX12_isOn 38 = .ok (.iconst 0, 1) := by decide +kernel
theorem dX12_isOn_39 : decode cX12_isOn 39 = .ok (.ireturn, 1) := by decide +kernel
theorem dX12_isPlace_0 : decode cX12_isPlace 0 = .ok (.iload_n 0, 1) := by decide +kernel
theorem dX12_isPlace_1 : decode cX12_isPlace 1 = .ok (.sipush (-1000), 3) := by decide +kernel
theorem dX12_isPlace_4 : decode cX12_isPlace 4 = .ok (.sipush 1000, 3) := by decide +kernel
theorem dX12_isPlace_7 : decode cX12_isPlace 7 = .ok (.invokestatic 109, 3) := by decide +kernel
theorem dX12_isPlace_10 : decode cX12_isPlace 10 = .ok (.ifCond .eq 20, 3) := by decide +kernel
theorem dX12_isPlace_13 : decode cX12_isPlace 13 = .ok (.iload_n 1, 1) := by decide +kernel
theorem dX12_isPlace_14 : decode cX12_isPlace 14 = .ok (.sipush (-1000), 3) := by decide +kernel
theorem dX12_isPlace_17 : decode cX12_isPlace 17 = .ok (.sipush 1000, 3) := by decide +kernel
theorem dX12_isPlace_20 : decode cX12_isPlace 20 = .ok (.invokestatic 109, 3) := by decide +kernel
theorem dX12_isPlace_23 : decode cX12_isPlace 23 = .ok (.ifCond .eq 7, 3) := by decide +kernel
theorem dX12_isPlace_26 : decode cX12_isPlace 26 = .ok (.iconst 1, 1) := by decide +kernel
theorem dX12_isPlace_27 : decode cX12_isPlace 27 = .ok (.goto 4, 3) := by decide +kernel
theorem dX12_isPlace_30 : decode cX12_isPlace 30 = .ok (.iconst 0, 1) := by decide +kernel
theorem dX12_isPlace_31 : decode cX12_isPlace 31 = .ok (.ireturn, 1) := by decide +kernel
theorem dX12_isTaken_0 : decode cX12_isTaken 0 = .ok (.iconst 0, 1) := by decide +kernel
theorem dX12_isTaken_1 : decode cX12_isTaken 1 = .ok (.istore_n 3, 1) := by decide +kernel
theorem dX12_isTaken_2 : decode cX12_isTaken 2 = .ok (.iconst 0, 1) := by decide +kernel
theorem dX12_isTaken_3 : decode cX12_isTaken 3 = .ok (.istore 4, 2) := by decide +kernel
theorem dX12_isTaken_5 : decode cX12_isTaken 5 = .ok (.iload 4, 2) := by decide +kernel
theorem dX12_isTaken_7 : decode cX12_isTaken 7 = .ok (.aload_n 0, 1) := by decide +kernel
theorem dX12_isTaken_8 : decode cX12_isTaken 8 = .ok (.getfield 113, 3) := by decide +kernel
theorem dX12_isTaken_11 : decode cX12_isTaken 11 = .ok (.if_icmp .ge 41, 3) := by decide +kernel
theorem dX12_isTaken_14 : decode cX12_isTaken 14 = .ok (.iload_n 3, 1) := by decide +kernel
theorem dX12_isTaken_15 : decode cX12_isTaken 15 = .ok (.ifCond .ne 25, 3) := by decide +kernel
theorem dX12_isTaken_18 : decode cX12_isTaken 18 = .ok (.aload_n 0, 1) := by decide +kernel
theorem dX12_isTaken_19 : decode cX12_isTaken 19 = .ok (.getfield 7, 3) := by decide +kernel
theorem dX12_isTaken_22 : decode cX12_isTaken 22 = .ok (.iload 4, 2) := by decide +kernel
theorem dX12_isTaken_24 : decode cX12_isTaken 24 = .ok (.iaload, 1) := by decide +kernel
theorem dX12_isTaken_25 : decode cX12_isTaken 25 = .ok (.iload_n 1, 1) := by decide +kernel
theorem dX12_isTaken_26 : decode cX12_isTaken 26 = .ok (.if_icmp .ne 18, 3) := by decide +kernel
theorem dX12_isTaken_29 : decode cX12_isTaken 29 = .ok (.aload_n 0, 1) := by decide +kernel
theorem dX12_isTaken_30 : decode cX12_isTaken 30 = .ok (.getfield 13, 3) := by decide +kernel
theorem dX12_isTaken_33 : decode cX12_isTaken 33 = .ok (.iload 4, 2) := by decide +kernel
theorem dX12_isTaken_35 : decode cX12_isTaken 35 = .ok (.iaload, 1) := by decide +kernel
theorem dX12_isTaken_36 : decode cX12_isTaken 36 = .ok (.iload_n 2, 1) := by decide +kernel
theorem dX12_isTaken_37 : decode cX12_isTaken 37 = .ok (.if_icmp .ne 7, 3) := by decide +kernel
theorem dX12_isTaken_40 : decode cX12_isTaken 40 = .ok (.iconst 1, 1) := by decide +kernel
theorem dX12_isTaken_41 : decode cX12_isTaken 41 = .ok (.goto 4, 3) := by decide +kernel
theorem dX12_isTaken_44 : decode cX12_isTaken 44 = .ok (.iconst 0, 1) := by decide +kernel
theorem dX12_isTaken_45 : decode cX12_isTaken 45 = .ok (.istore_n 3, 1) := by decide +kernel
theorem dX12_isTaken_46 : decode cX12_isTaken 46 = .ok (.iinc 4 1, 3) := by decide +kernel
theorem dX12_isTaken_49 : decode cX12_isTaken 49 = .ok (.goto (-44), 3) := by decide +kernel
theorem dX12_isTaken_52 : decode cX12_isTaken 52 = .ok (.iload_n 3, 1) := by decide +kernel
theorem dX12_isTaken_53 : decode cX12_isTaken 53 = .ok (.ireturn, 1) := by decide +kernel
theorem dX12_isTriangle_0 : decode cX12_isTriangle 0 = .ok (.aload_n 0, 1) := by decide +kernel
theorem dX12_isTriangle_1 : decode cX12_isTriangle 1 = .ok (.iload_n 1, 1) := by decide +kernel
theorem dX12_isTriangle_2 : decode cX12_isTriangle 2 = .ok (.iload_n 2, 1) := by decide +kernel
theorem dX12_isTriangle_3 : decode cX12_isTriangle 3 = .ok (.invokevirtual 175, 3) := by decide +kernel
theorem dX12_isTriangle_6 : decode cX12_isTriangle 6 = .ok (.ifCond .eq 63, 3) := by decide +kernel
theorem dX12_isTriangle_9 : decode cX12_isTriangle 9 = .ok (.aload_n 0, 1) := by decide +kernel
theorem dX12_isTriangle_10 : decode cX12_isTriangle 10 = .ok (.iload_n 1, 1) := by decide +kernel
theorem dX12_isTriangle_11 : decode cX12_isTriangle 11 = .ok (.iload_n 3, 1) := by decide +kernel
theorem dX12_isTriangle_12 : decode cX12_isTriangle 12 = .ok (.invokevirtual 175, 3) := by decide +kernel
theorem dX12_isTriangle_15 : decode cX12_isTriangle 15 = .ok (.ifCond .eq 54, 3) := by decide +kernel
theorem dX12_isTriangle_18 : decode cX12_isTriangle 18 = .ok (.aload_n 0, 1) := by decide +kernel
theorem dX12_isTriangle_19 : decode cX12_isTriangle 19 = .ok (.iload_n 2, 1) := by decide +kernel
theorem dX12_isTriangle_20 : decode cX12_isTriangle 20 = .ok (.iload_n 3, 1) := by decide +kernel
theorem dX12_isTriangle_21 : decode cX12_isTriangle 21 = .ok (.invokevirtual 175, 3) := by decide +kernel
theorem dX12_isTriangle_24 : decode cX12_isTriangle 24 = .ok (.ifCond .eq 45, 3) := by decide +kernel
theorem dX12_isTriangle_27 : decode cX12_isTriangle 27 = .ok (.aload_n 0, 1) := by decide +kernel
theorem dX12_isTriangle_28 : decode cX12_isTriangle 28 = .ok (.getfield 7, 3) := by decide +kernel
theorem dX12_isTriangle_31 : decode cX12_isTriangle 31 = .ok (.iload_n 1, 1) := by decide +kernel
theorem dX12_isTriangle_32 : decode cX12_isTriangle 32 = .ok (.iaload, 1) := by decide +kernel
theorem dX12_isTriangle_33 : decode cX12_isTriangle 33 = .ok (.aload_n 0, 1) := by decide +kernel
theorem dX12_isTriangle_34 : decode cX12_isTriangle 34 = .ok (.getfield 13, 3) := by decide +kernel
theorem dX12_isTriangle_37 : decode cX12_isTriangle 37 = .ok (.iload_n 1, 1) := by decide +kernel
theorem dX12_isTriangle_38 : decode cX12_isTriangle 38 = .ok (.iaload, 1) := by decide +kernel
theorem dX12_isTriangle_39 : decode cX12_isTriangle 39 = .ok (.aload_n 0, 1) := by decide +kernel
theorem dX12_isTriangle_40 : decode cX12_isTriangle 40 = .ok (.getfield 7, 3) := by decide +kernel
theorem dX12_isTriangle_43 : decode cX12_isTriangle 43 = .ok (.iload_n 2, 1) := by decide +kernel
theorem dX12_isTriangle_44 : decode cX12_isTriangle 44 = .ok (.iaload, 1) := by decide +kernel
theorem dX12_isTriangle_45 : decode cX12_isTriangle 45 = .ok (.aload_n 0, 1) := by decide +kernel
theorem dX12_isTriangle_46 : decode cX12_isTriangle 46 = .ok (.getfield 13, 3) := by decide +kernel
theorem dX12_isTriangle_49 : decode cX12_isTriangle 49 = .ok (.iload_n 2, 1) := by decide +kernel
theorem dX12_isTriangle_50 : decode cX12_isTriangle 50 = .ok (.iaload, 1) := by decide +kernel
theorem dX12_isTriangle_51 : decode cX12_isTriangle 51 = .ok (.aload_n 0, 1) := by decide +kernel
theorem dX12_isTriangle_52 : decode cX12_isTriangle 52 = .ok (.getfield 7, 3) := by decide +kernel
theorem dX12_isTriangle_55 : decode cX12_isTriangle 55 = .ok (.iload_n 3, 1) := by decide +kernel
theorem dX12_isTriangle_56 : decode cX12_isTriangle 56 = .ok (.iaload, 1) := by decide +kernel
theorem dX12_isTriangle_57 : decode cX12_isTriangle 57 = .ok (.aload_n 0, 1) := by decide +kernel
theorem dX12_isTriangle_58 : decode cX12_isTriangle 58 = .ok (.getfield 13, 3) := by decide +kernel
theorem dX12_isTriangle_61 : decode cX12_isTriangle 61 = .ok (.iload_n 3, 1) := by decide +kernel
theorem dX12_isTriangle_62 : decode cX12_isTriangle 62 = .ok (.iaload, 1) := by decide +kernel
theorem dX12_isTriangle_63 : decode cX12_isTriangle 63 = .ok (.invokestatic 146, 3) := by decide +kernel
theorem dX12_isTriangle_66 : decode cX12_isTriangle 66 = .ok (.ifCond .ne 5, 3) := by decide +kernel
theorem dX12_isTriangle_69 : decode cX12_isTriangle 69 = .ok (.iconst 0, 1) := by decide +kernel
theorem dX12_isTriangle_70 : decode cX12_isTriangle 70 = .ok (.ireturn, 1) := by decide +kernel
theorem dX12_isTriangle_71 : decode cX12_isTriangle 71 = .ok (.iconst 1, 1) := by decide +kernel
theorem dX12_isTriangle_72 : decode cX12_isTriangle 72 = .ok (.istore 4, 2) := by decide +kernel
theorem dX12_isTriangle_74 : decode cX12_isTriangle 74 = .ok (.iconst 0, 1) := by decide +kernel
theorem dX12_isTriangle_75 : decode cX12_isTriangle 75 = .ok (.istore 5, 2) := by decide +kernel
theorem dX12_isTriangle_77 : decode cX12_isTriangle 77 = .ok (.iload 5, 2) := by decide +kernel
theorem dX12_isTriangle_79 : decode cX12_isTriangle 79 = .ok (.aload_n 0, 1) := by decide +kernel
theorem dX12_isTriangle_80 : decode cX12_isTriangle 80 = .ok (.getfield 113, 3) := by decide +kernel
theorem dX12_isTriangle_83 : decode cX12_isTriangle 83 = .ok (.if_icmp .ge 63, 3) := by decide +kernel
theorem dX12_isTriangle_86 : decode cX12_isTriangle 86 = .ok (.iload 4, 2) := by decide +kernel
theorem dX12_isTriangle_88 : decode cX12_isTriangle 88 = .ok (.ifCond .eq 49, 3) := by decide +kernel
theorem dX12_isTriangle_91 : decode cX12_isTriangle 91 = .ok (.iload 5, 2) := by decide +kernel
theorem dX12_isTriangle_93 : decode cX12_isTriangle 93 = .ok (.iload_n 1, 1) := by decide +kernel
theorem dX12_isTriangle_94 : decode cX12_isTriangle 94 = .ok (.if_icmp .eq 39, 3) := by decide +kernel
theorem dX12_isTriangle_97 : decode cX12_isTriangle 97 = .ok (.iload 5, 2) := by decide +kernel
theorem dX12_isTriangle_99 : decode cX12_isTriangle 99 = .ok (.iload_n 2, 1) := by decide +kernel
theorem dX12_isTriangle_100 : decode cX12_isTriangle 100 = .ok (.if_icmp .eq 33, 3) := by decide +kernel
theorem dX12_isTriangle_103 : decode cX12_isTriangle 103 = .ok (.iload 5, 2) := by decide +kernel
theorem dX12_isTriangle_105 : decode cX12_isTriangle 105 = .ok (.iload_n 3, 1) := by decide +kernel
theorem dX12_isTriangle_106 : decode cX12_isTriangle 106 = .ok (.if_icmp .eq 27, 3) := by decide +kernel
theorem dX12_isTriangle_109 : decode cX12_isTriangle 109 = .ok (.aload_n 0, 1) := by decide +kernel
theorem dX12_isTriangle_110 : decode cX12_isTriangle 110 = .ok (.iload_n 1, 1) := by decide +kernel
theorem dX12_isTriangle_111 : decode cX12_isTriangle 111 = .ok (.iload_n 2, 1) := by decide +kernel
theorem dX12_isTriangle_112 : decode cX12_isTriangle 112 = .ok (.iload_n 3, 1) := by decide +kernel
theorem dX12_isTriangle_113 : decode cX12_isTriangle 113 = .ok (.aload_n 0, 1) := by decide +kernel
theorem dX12_isTriangle_114 : decode cX12_isTriangle 114 = .ok (.getfield 7, 3) := by decide +kernel
theorem dX12_isTriangle_117 : decode cX12_isTriangle 117 = .ok (.iload 5, 2) := by decide +kernel
theorem dX12_isTriangle_119 : decode cX12_isTriangle 119 = .ok (.iaload, 1) := by decide +kernel
theorem dX12_isTriangle_120 : decode cX12_isTriangle 120 = .ok (.aload_n 0, 1) := by decide +kernel
theorem dX12_isTriangle_121 : decode cX12_isTriangle 121 = .ok (.getfield 13, 3) := by decide +kernel
theorem dX12_isTriangle_124 : decode cX12_isTriangle 124 = .ok (.iload 5, 2) := by decide +kernel
theorem dX12_isTriangle_126 : decode cX12_isTriangle 126 = .ok (.iaload, 1) := by decide +kernel
theorem dX12_isTriangle_127 : decode cX12_isTriangle 127 = .ok (.invokevirtual 178, 3) := by decide +kernel
theorem dX12_isTriangle_130 : decode cX12_isTriangle 130 = .ok (.ifCond .ne 7, 3) := by decide +kernel
theorem dX12_isTriangle_133 : decode cX12_isTriangle 133 = .ok (.iconst 1, 1) := by decide +kernel
theorem dX12_isTriangle_134 : decode cX12_isTriangle 134 = .ok (.goto 4, 3) := by decide +kernel
theorem dX12_isTriangle_137 : decode cX12_isTriangle 137 = .ok (.iconst 0, 1) := by decide +kernel
theorem dX12_isTriangle_138 : decode cX12_isTriangle 138 = .ok (.istore 4, 2) := by decide +kernel
theorem dX12_isTriangle_140 : decode cX12_isTriangle 140 = .ok (.iinc 5 1, 3) := by decide +kernel
theorem dX12_isTriangle_143 : decode cX12_isTriangle 143 = .ok (.goto (-66), 3) := by decide +kernel
theorem dX12_isTriangle_146 : decode cX12_isTriangle 146 = .ok (.iload 4, 2) := by decide +kernel
theorem dX12_isTriangle_148 : decode cX12_isTriangle 148 = .ok (.ireturn, 1) := by decide +kernel
theorem dX12_isWord_0 : decode cX12_isWord 0 = .ok (.aload_n 0, 1) := by decide +kernel
theorem dX12_isWord_1 : decode cX12_isWord 1 = .ok (.getfield 78, 3) := by decide +kernel
theorem dX12_isWord_4 : decode cX12_isWord 4 = .ok (.iload_n 1, 1) := by decide +kernel
theorem dX12_isWord_5 : decode cX12_isWord 5 = .ok (.iaload, 1) := by decide +kernel
theorem dX12_isWord_6 : decode cX12_isWord 6 = .ok (.aload_n 0, 1) := by decide +kernel
theorem dX12_isWord_7 : decode cX12_isWord 7 = .ok (.getfield 75, 3) := by decide +kernel
theorem dX12_isWord_10 : decode cX12_isWord 10 = .ok (.iload_n 1, 1) := by decide +kernel
theorem dX12_isWord_11 : decode cX12_isWord 11 = .ok (.iaload, 1) := by decide +kernel
theorem dX12_isWord_12 : decode cX12_isWord 12 = .ok (.isub, 1) := by decide +kernel
theorem dX12_isWord_13 : decode cX12_isWord 13 = .ok (.iconst 1, 1) := by decide +kernel
theorem dX12_isWord_14 : decode cX12_isWord 14 = .ok (.if_icmp .ne 22, 3) := by decide +kernel
theorem dX12_isWord_17 : decode cX12_isWord 17 = .ok (.aload_n 0, 1) := by decide +kernel
theorem dX12_isWord_18 : decode cX12_isWord 18 = .ok (.getfield 72, 3) := by decide +kernel
theorem dX12_isWord_21 : decode cX12_isWord 21 = .ok (.aload_n 0, 1) := by decide +kernel
theorem dX12_isWord_22 : decode cX12_isWord 22 = .ok (.getfield 75, 3) := by decide +kernel
theorem dX12_isWord_25 : decode cX12_isWord 25 = .ok (.iload_n 1, 1) := by decide +kernel
theorem dX12_isWord_26 : decode cX12_isWord 26 = .ok (.iaload, 1) := by decide +kernel
theorem dX12_isWord_27 : decode cX12_isWord 27 = .ok (.iaload, 1) := by decide +kernel
theorem dX12_isWord_28 : decode cX12_isWord 28 = .ok (.iload_n 2, 1) := by decide +kernel
theorem dX12_isWord_29 : decode cX12_isWord 29 = .ok (.if_icmp .ne 7, 3) := by decide +kernel
theorem dX12_isWord_32 : decode cX12_isWord 32 = .ok (.iconst 1, 1) := by decide +kernel
theorem dX12_isWord_33 : decode cX12_isWord 33 = .ok (.goto 4, 3) := by decide +kernel
theorem dX12_isWord_36 : decode cX12_isWord 36 = .ok (.iconst 0, 1) := by decide +kernel
theorem dX12_isWord_37 : decode cX12_isWord 37 = .ok (.ireturn, 1) := by decide +kernel
theorem dX12_later_0 : decode cX12_later 0 = .ok (.aload_n 0, 1) := by decide +kernel
theorem dX12_later_1 : decode cX12_later 1 = .ok (.invokevirtual 219, 3) := by decide +kernel
theorem dX12_later_4 : decode cX12_later 4 = .ok (.ifCond .ne 46, 3) := by decide +kernel
theorem dX12_later_7 : decode cX12_later 7 = .ok (.aload_n 0, 1) := by decide +kernel
theorem dX12_later_8 : decode cX12_later 8 = .ok (.iload_n 1, 1) := by decide +kernel
theorem dX12_later_9 : decode cX12_later 9 = .ok (.iload_n 2, 1) := by decide +kernel
theorem dX12_later_10 : decode cX12_later 10 = .ok (.invokestatic 116, 3) := by decide +kernel
theorem dX12_later_13 : decode cX12_later 13 = .ok (.ifCond .eq 25, 3) := by decide +kernel
theorem dX12_later_16 : decode cX12_later 16 = .ok (.iload_n 3, 1) := by decide +kernel
theorem dX12_later_17 : decode cX12_later 17 = .ok (.iconst 0, 1) := by decide +kernel
theorem dX12_later_18 : decode cX12_later 18 = .ok (.bipush 7, 2) := by decide +kernel
theorem dX12_later_20 : decode cX12_later 20 = .ok (.invokestatic 109, 3) := by decide +kernel
theorem dX12_later_23 : decode cX12_later 23 = .ok (.ifCond .eq 15, 3) := by decide +kernel
theorem dX12_later_26 : decode cX12_later 26 = .ok (.iload 4, 2) := by decide +kernel
theorem dX12_later_28 : decode cX12_later 28 = .ok (.ldc 120, 2) := by decide +kernel
theorem dX12_later_30 : decode cX12_later 30 = .ok (.ldc 121, 2) := by decide +kernel
theorem dX12_later_32 : decode cX12_later 32 = .ok (.invokestatic 109, 3) := by decide +kernel
theorem dX12_later_35 : decode cX12_later 35 = .ok (.ifCond .ne 7, 3) := by decide +kernel
theorem dX12_later_38 : decode cX12_later 38 = .ok (.iconst 1, 1) := by decide +kernel
theorem dX12_later_39 : decode cX12_later 39 = .ok (.goto 4, 3) := by decide +kernel
theorem dX12_later_42 : decode cX12_later 42 = .ok (.iconst 0, 1) := by decide +kernel
theorem dX12_later_43 : decode cX12_later 43 = .ok (.iconst 2, 1) := by decide +kernel
theorem dX12_later_44 : decode cX12_later 44 = .ok (.invokevirtual 215, 3) := by decide +kernel
theorem dX12_later_47 : decode cX12_later 47 = .ok (.ifCond .eq 5, 3) := by decide +kernel
theorem dX12_later_50 : decode cX12_later 50 = .ok (.iconst 0, 1) := by decide +kernel
theorem dX12_later_51 : decode cX12_later 51 = .ok (.ireturn, 1) := by decide +kernel
theorem dX12_later_52 : decode cX12_later 52 = .ok (.iconst 2, 1) := by decide +kernel
theorem dX12_later_53 : decode cX12_later 53 = .ok (.istore 5, 2) := by decide +kernel
theorem dX12_later_55 : decode cX12_later 55 = .ok (.iconst 0, 1) := by decide +kernel
theorem dX12_later_56 : decode cX12_later 56 = .ok (.istore 6, 2) := by decide +kernel
theorem dX12_later_58 : decode cX12_later 58 = .ok (.iload 6, 2) := by decide +kernel
theorem dX12_later_60 : decode cX12_later 60 = .ok (.aload_n 0, 1) := by decide +kernel
theorem dX12_later_61 : decode cX12_later 61 = .ok (.getfield 196, 3) := by decide +kernel
theorem dX12_later_64 : decode cX12_later 64 = .ok (.if_icmp .ge 120, 3) := by decide +kernel
theorem dX12_later_67 : decode cX12_later 67 = .ok (.aload_n 0, 1) := by decide +kernel
theorem dX12_later_68 : decode cX12_later 68 = .ok (.getfield 22, 3) := by decide +kernel
theorem dX12_later_71 : decode cX12_later 71 = .ok (.aload_n 0, 1) := by decide +kernel
theorem dX12_later_72 : decode cX12_later 72 = .ok (.getfield 66, 3) := by decide +kernel
theorem dX12_later_75 : decode cX12_later 75 = .ok (.iload 6, 2) := by decide +kernel
theorem dX12_later_77 : decode cX12_later 77 = .ok (.iaload, 1) := by decide +kernel
theorem dX12_later_78 : decode cX12_later 78 = .ok (.iaload, 1) := by decide +kernel
theorem dX12_later_79 : decode cX12_later 79 = .ok (.iload_n 3, 1) := by decide +kernel
theorem dX12_later_80 : decode cX12_later 80 = .ok (.if_icmp .ne 98, 3) := by decide +kernel
theorem dX12_later_83 : decode cX12_later 83 = .ok (.aload_n 0, 1) := by decide +kernel
theorem dX12_later_84 : decode cX12_later 84 = .ok (.iload 6, 2) := by decide +kernel
theorem dX12_later_86 : decode cX12_later 86 = .ok (.iconst (-1), 1) := by decide +kernel
theorem dX12_later_87 : decode cX12_later 87 = .ok (.iload_n 1, 1) := by decide +kernel
theorem dX12_later_88 : decode cX12_later 88 = .ok (.iload_n 2, 1) := by decide +kernel
theorem dX12_later_89 : decode cX12_later 89 = .ok (.invokevirtual 249, 3) := by decide +kernel
theorem dX12_later_92 : decode cX12_later 92 = .ok (.aload_n 0, 1) := by decide +kernel
theorem dX12_later_93 : decode cX12_later 93 = .ok (.getfield 227, 3) := by decide +kernel
theorem dX12_later_96 : decode cX12_later 96 = .ok (.iload 4, 2) := by decide +kernel
theorem dX12_later_98 : decode cX12_later 98 = .ok (.i2l, 1) := by decide +kernel
theorem dX12_later_99 : decode cX12_later 99 = .ok (.aload_n 0, 1) := by decide +kernel
theorem dX12_later_100 : decode cX12_later 100 = .ok (.getfield 231, 3) := by decide +kernel
theorem dX12_later_103 : decode cX12_later 103 = .ok (.lmul, 1) := by decide +kernel
theorem dX12_later_104 : decode cX12_later 104 = .ok (.lsub, 1) := by decide +kernel
theorem dX12_later_105 : decode cX12_later 105 = .ok (.lstore 7, 2) := by decide +kernel
theorem dX12_later_107 : decode cX12_later 107 = .ok (.lload 7, 2) := by decide +kernel
theorem dX12_later_109 : decode cX12_later 109 = .ok (.lconst 0, 1) := by decide +kernel
theorem dX12_later_110 : decode cX12_later 110 = .ok (.lcmp, 1) := by decide +kernel
theorem dX12_later_111 : decode cX12_later 111 = .ok (.ifCond .ge 9, 3) := by decide +kernel
theorem dX12_later_114 : decode cX12_later 114 = .ok (.lload 7, 2) := by decide +kernel
theorem dX12_later_116 : decode cX12_later 116 = .ok (.lneg, 1) := by decide +kernel
theorem dX12_later_117 : decode cX12_later 117 = .ok (.goto 5, 3) := by decide +kernel
theorem dX12_later_120 : decode cX12_later 120 = .ok (.lload 7, 2) := by decide +kernel
theorem dX12_later_122 : decode cX12_later 122 = .ok (.aload_n 0, 1) := by decide +kernel
theorem dX12_later_123 : decode cX12_later 123 = .ok (.getfield 139, 3) := by decide +kernel
theorem dX12_later_126 : decode cX12_later 126 = .ok (.i2l, 1) := by decide +kernel
theorem dX12_later_127 : decode cX12_later 127 = .ok (.aload_n 0, 1) := by decide +kernel
theorem dX12_later_128 : decode cX12_later 128 = .ok (.getfield 231, 3) := by decide +kernel
theorem dX12_later_131 : decode cX12_later 131 = .ok (.lmul, 1) := by decide +kernel
theorem dX12_later_132 : decode cX12_later 132 = .ok (.lcmp, 1) := by decide +kernel
theorem dX12_later_133 : decode cX12_later 133 = .ok (.ifCond .gt 7, 3) := by decide +kernel
theorem dX12_later_136 : decode cX12_later 136 = .ok (.iconst 1, 1) := by decide +kernel
theorem dX12_later_137 : decode cX12_later 137 = .ok (.goto 4, 3) := by decide +kernel
theorem dX12_later_140 : decode cX12_later 140 = .ok (.iconst 0, 1) := by decide +kernel
theorem dX12_later_141 : decode cX12_later 141 = .ok (.istore 9, 2) := by decide +kernel
theorem dX12_later_143 : decode cX12_later 143 = .ok (.aload_n 0, 1) := by decide +kernel
theorem dX12_later_144 : decode cX12_later 144 = .ok (.getfield 231, 3) := by decide +kernel
theorem dX12_later_147 : decode cX12_later 147 = .ok (.lconst 0, 1) := by decide +kernel
theorem dX12_later_148 : decode cX12_later 148 = .ok (.lcmp, 1) := by decide +kernel
theorem dX12_later_149 : decode cX12_later 149 = .ok (.ifCond .ne 8, 3) := by decide +kernel
theorem dX12_later_152 : decode cX12_later 152 = .ok (.iload 5, 2) := by decide +kernel
theorem dX12_later_154 : decode cX12_later 154 = .ok (.goto 22, 3) := by decide +kernel
theorem dX12_later_157 : decode cX12_later 157 = .ok (.iload 9, 2) := by decide +kernel
theorem dX12_later_159 : decode cX12_later 159 = .ok (.ifCond .eq 7, 3) := by decide +kernel
theorem dX12_later_162 : decode cX12_later 162 = .ok (.iconst 0, 1) := by decide +kernel
theorem dX12_later_163 : decode cX12_later 163 = .ok (.goto 13, 3) := by decide +kernel
theorem dX12_later_166 : decode cX12_later 166 = .ok (.iload 5, 2) := by decide +kernel
theorem dX12_later_168 : decode cX12_later 168 = .ok (.ifCond .ne 7, 3) := by decide +kernel
theorem dX12_later_171 : decode cX12_later 171 = .ok (.iconst 0, 1) := by decide +kernel
theorem dX12_later_172 : decode cX12_later 172 = .ok (.goto 4, 3) := by decide +kernel
theorem dX12_later_175 : decode cX12_later 175 = .ok (.iconst 1, 1) := by decide +kernel
theorem dX12_later_176 : decode cX12_later 176 = .ok (.istore 5, 2) := by decide +kernel
theorem dX12_later_178 : decode cX12_later 178 = .ok (.iinc 6 1, 3) := by decide +kernel
theorem dX12_later_181 : decode cX12_later 181 = .ok (.goto (-123), 3) := by decide +kernel
theorem dX12_later_184 : decode cX12_later 184 = .ok (.iload 5, 2) := by decide +kernel
theorem dX12_later_186 : decode cX12_later 186 = .ok (.ireturn, 1) := by decide +kernel
theorem dX12_layer_0 : decode cX12_layer 0 = .ok (.aload_n 0, 1) := by decide +kernel
theorem dX12_layer_1 : decode cX12_layer 1 = .ok (.aload_n 0, 1) := by decide +kernel
theorem dX12_layer_2 : decode cX12_layer 2 = .ok (.iload_n 1, 1) := by decide +kernel
theorem dX12_layer_3 : decode cX12_layer 3 = .ok (.invokevirtual 129, 3) := by decide +kernel
theorem dX12_layer_6 : decode cX12_layer 6 = .ok (.ifCond .ne 7, 3) := by decide +kernel
theorem dX12_layer_9 : decode cX12_layer 9 = .ok (.iconst 1, 1) := by decide +kernel
theorem dX12_layer_10 : decode cX12_layer 10 = .ok (.goto 44, 3) := by decide +kernel
theorem dX12_layer_13 : decode cX12_layer 13 = .ok (.iload_n 2, 1) := by decide +kernel
theorem dX12_layer_14 : decode cX12_layer 14 = .ok (.iconst 0, 1) := by decide +kernel
theorem dX12_layer_15 : decode cX12_layer 15 = .ok (.bipush 7, 2) := by decide +kernel
theorem dX12_layer_17 : decode cX12_layer 17 = .ok (.invokestatic 109, 3) := by decide +kernel
theorem dX12_layer_20 : decode cX12_layer 20 = .ok (.ifCond .eq 14, 3) := by decide +kernel
theorem dX12_layer_23 : decode cX12_layer 23 = .ok (.iload_n 3, 1) := by decide +kernel
theorem dX12_layer_24 : decode cX12_layer 24 = .ok (.iconst 1, 1) := by decide +kernel
theorem dX12_layer_25 : decode cX12_layer 25 = .ok (.sipush 10000, 3) := by decide +kernel
theorem dX12_layer_28 : decode cX12_layer 28 = .ok (.invokestatic 109, 3) := by decide +kernel
theorem dX12_layer_31 : decode cX12_layer 31 = .ok (.ifCond .ne 7, 3) := by decide +kernel
theorem dX12_layer_34 : decode cX12_layer 34 = .ok (.iconst 2, 1) := by decide +kernel
theorem dX12_layer_35 : decode cX12_layer 35 = .ok (.goto 19, 3) := by decide +kernel
theorem dX12_layer_38 : decode cX12_layer 38 = .ok (.aload_n 0, 1) := by decide +kernel
theorem dX12_layer_39 : decode cX12_layer 39 = .ok (.getfield 19, 3) := by decide +kernel
theorem dX12_layer_42 : decode cX12_layer 42 = .ok (.iload_n 1, 1) := by decide +kernel
theorem dX12_layer_43 : decode cX12_layer 43 = .ok (.iaload, 1) := by decide +kernel
theorem dX12_layer_44 : decode cX12_layer 44 = .ok (.bipush 12, 2) := by decide +kernel
theorem dX12_layer_46 : decode cX12_layer 46 = .ok (.if_icmp .ne 7, 3) := by decide +kernel
theorem dX12_layer_49 : decode cX12_layer 49 = .ok (.iconst 3, 1) := by decide +kernel
theorem dX12_layer_50 : decode cX12_layer 50 = .ok (.goto 4, 3) := by decide +kernel
theorem dX12_layer_53 : decode cX12_layer 53 = .ok (.iconst 0, 1) := by decide +kernel
theorem dX12_layer_54 : decode cX12_layer 54 = .ok (.putfield 106, 3) := by decide +kernel
theorem dX12_layer_57 : decode cX12_layer 57 = .ok (.aload_n 0, 1) := by decide +kernel
theorem dX12_layer_58 : decode cX12_layer 58 = .ok (.getfield 106, 3) := by decide +kernel
theorem dX12_layer_61 : decode cX12_layer 61 = .ok (.ifCond .le 5, 3) := by decide +kernel
theorem dX12_layer_64 : decode cX12_layer 64 = .ok (.iconst 0, 1) := by decide +kernel
theorem dX12_layer_65 : decode cX12_layer 65 = .ok (.ireturn, 1) := by decide +kernel
theorem dX12_layer_66 : decode cX12_layer 66 = .ok (.aload_n 0, 1) := by decide +kernel
theorem dX12_layer_67 : decode cX12_layer 67 = .ok (.getfield 22, 3) := by decide +kernel
theorem dX12_layer_70 : decode cX12_layer 70 = .ok (.bipush 12, 2) := by decide +kernel
theorem dX12_layer_72 : decode cX12_layer 72 = .ok (.iload_n 1, 1) := by decide +kernel
theorem dX12_layer_73 : decode cX12_layer 73 = .ok (.imul, 1) := by decide +kernel
theorem dX12_layer_74 : decode cX12_layer 74 = .ok (.aload_n 0, 1) := by decide +kernel
theorem dX12_layer_75 : decode cX12_layer 75 = .ok (.getfield 19, 3) := by decide +kernel
theorem dX12_layer_78 : decode cX12_layer 78 = .ok (.iload_n 1, 1) := by decide +kernel
theorem dX12_layer_79 : decode cX12_layer 79 = .ok (.iaload, 1) := by decide +kernel
theorem dX12_layer_80 : decode cX12_layer 80 = .ok (.iadd, 1) := by decide +kernel
theorem dX12_layer_81 : decode cX12_layer 81 = .ok (.iload_n 2, 1) := by decide +kernel
theorem dX12_layer_82 : decode cX12_layer 82 = .ok (.iastore, 1) := by decide +kernel
theorem dX12_layer_83 : decode cX12_layer 83 = .ok (.aload_n 0, 1) := by decide +kernel
theorem dX12_layer_84 : decode cX12_layer 84 = .ok (.getfield 25, 3) := by decide +kernel
theorem dX12_layer_87 : decode cX12_layer 87 = .ok (.bipush 12, 2) := by decide +kernel
theorem dX12_layer_89 : decode cX12_layer 89 = .ok (.iload_n 1, 1) := by decide +kernel
theorem dX12_layer_90 : decode cX12_layer 90 = .ok (.imul, 1) := by decide +kernel
theorem dX12_layer_91 : decode cX12_layer 91 = .ok (.aload_n 0, 1) := by decide +kernel
theorem dX12_layer_92 : decode cX12_layer 92 = .ok (.getfield 19, 3) := by decide +kernel
theorem dX12_layer_95 : decode cX12_layer 95 = .ok (.iload_n 1, 1) := by decide +kernel
theorem dX12_layer_96 : decode cX12_layer 96 = .ok (.iaload, 1) := by decide +kernel
theorem dX12_layer_97 : decode cX12_layer 97 = .ok (.iadd, 1) := by decide +kernel
theorem dX12_layer_98 : decode cX12_layer 98 = .ok (.iload_n 3, 1) := by decide +kernel
theorem dX12_layer_99 : decode cX12_layer 99 = .ok (.iastore, 1) := by decide +kernel
theorem dX12_layer_100 : decode cX12_layer 100 = .ok (.aload_n 0, 1) := by decide +kernel
theorem dX12_layer_101 : decode cX12_layer 101 = .ok (.getfield 19, 3) := by decide +kernel
theorem dX12_layer_104 : decode cX12_layer 104 = .ok (.iload_n 1, 1) := by decide +kernel
theorem dX12_layer_105 : decode cX12_layer 105 = .ok (.dup2, 1) := by decide +kernel
theorem dX12_layer_106 : decode cX12_layer 106 = .ok (.iaload, 1) := by decide +kernel
theorem dX12_layer_107 : decode cX12_layer 107 = .ok (.iconst 1, 1) := by decide +kernel
theorem dX12_layer_108 : decode cX12_layer 108 = .ok (.iadd, 1) := by decide +kernel
theorem dX12_layer_109 : decode cX12_layer 109 = .ok (.iastore, 1) := by decide +kernel
theorem dX12_layer_110 : decode cX12_layer 110 = .ok (.aload_n 0, 1) := by decide +kernel
theorem dX12_layer_111 : decode cX12_layer 111 = .ok (.iconst 0, 1) := by decide +kernel
theorem dX12_layer_112 : decode cX12_layer 112 = .ok (.putfield 125, 3) := by decide +kernel
theorem dX12_layer_115 : decode cX12_layer 115 = .ok (.aload_n 0, 1) := by decide +kernel
theorem dX12_layer_116 : decode cX12_layer 116 = .ok (.getfield 19, 3) := by decide +kernel
theorem dX12_layer_119 : decode cX12_layer 119 = .ok (.iload_n 1, 1) := by decide +kernel
theorem dX12_layer_120 : decode cX12_layer 120 = .ok (.iaload, 1) := by decide +kernel
theorem dX12_layer_121 : decode cX12_layer 121 = .ok (.iconst 1, 1) := by decide +kernel
theorem dX12_layer_122 : decode cX12_layer 122 = .ok (.isub, 1) := by decide +kernel
theorem dX12_layer_123 : decode cX12_layer 123 = .ok (.ireturn, 1) := by decide +kernel
theorem dX12_lens_0 : decode cX12_lens 0 = .ok (.aload_n 0, 1) := by decide +kernel
theorem dX12_lens_1 : decode cX12_lens 1 = .ok (.iconst 0, 1) := by decide +kernel
theorem dX12_lens_2 : decode cX12_lens 2 = .ok (.putfield 106, 3) := by decide +kernel
theorem dX12_lens_5 : decode cX12_lens 5 = .ok (.iload_n 1, 1) := by decide +kernel
theorem dX12_lens_6 : decode cX12_lens 6 = .ok (.iconst 1, 1) := by decide +kernel
theorem dX12_lens_7 : decode cX12_lens 7 = .ok (.bipush 100, 2) := by decide +kernel
theorem dX12_lens_9 : decode cX12_lens 9 = .ok (.invokestatic 109, 3) := by decide +kernel
theorem dX12_lens_12 : decode cX12_lens 12 = .ok (.istore_n 2, 1) := by decide +kernel
theorem dX12_lens_13 : decode cX12_lens 13 = .ok (.aload_n 0, 1) := by decide +kernel
theorem dX12_lens_14 : decode cX12_lens 14 = .ok (.iload_n 2, 1) := by decide +kernel
theorem dX12_lens_15 : decode cX12_lens 15 = .ok (.ifCond .eq 7, 3) := by decide +kernel
theorem dX12_lens_18 : decode cX12_lens 18 = .ok (.iload_n 1, 1) := by decide +kernel
theorem dX12_lens_19 : decode cX12_lens 19 = .ok (.goto 7, 3) := by decide +kernel
theorem dX12_lens_22 : decode cX12_lens 22 = .ok (.aload_n 0, 1) := by decide +kernel
theorem dX12_lens_23 : decode cX12_lens 23 = .ok (.getfield 34, 3) := by decide +kernel
theorem dX12_lens_26 : decode cX12_lens 26 = .ok (.putfield 34, 3) := by decide +kernel
theorem dX12_lens_29 : decode cX12_lens 29 = .ok (.iload_n 2, 1) := by decide +kernel
theorem dX12_lens_30 : decode cX12_lens 30 = .ok (.ireturn, 1) := by decide +kernel
theorem dX12_letter_0 : decode cX12_letter 0 = .ok (.aload_n 0, 1) := by decide +kernel
theorem dX12_letter_1 : decode cX12_letter 1 = .ok (.iconst 0, 1) := by decide +kernel
theorem dX12_letter_2 : decode cX12_letter 2 = .ok (.putfield 106, 3) := by decide +kernel
theorem dX12_letter_5 : decode cX12_letter 5 = .ok (.iload_n 1, 1) := by decide +kernel
theorem dX12_letter_6 : decode cX12_letter 6 = .ok (.ifCond .lt 20, 3) := by decide +kernel
theorem dX12_letter_9 : decode cX12_letter 9 = .ok (.iload_n 1, 1) := by decide +kernel
theorem dX12_letter_10 : decode cX12_letter 10 = .ok (.aload_n 0, 1) := by decide +kernel
theorem dX12_letter_11 : decode cX12_letter 11 = .ok (.getfield 288, 3) := by decide +kernel
theorem dX12_letter_14 : decode cX12_letter 14 = .ok (.if_icmp .ge 12, 3) := by decide +kernel
theorem dX12_letter_17 : decode cX12_letter 17 = .ok (.aload_n 0, 1) := by decide +kernel
theorem dX12_letter_18 : decode cX12_letter 18 = .ok (.getfield 84, 3) := by decide +kernel
theorem dX12_letter_21 : decode cX12_letter 21 = .ok (.iload_n 1, 1) := by decide +kernel
theorem dX12_letter_22 : decode cX12_letter 22 = .ok (.caload, 1) := by decide +kernel
theorem dX12_letter_23 : decode cX12_letter 23 = .ok (.goto 4, 3) := by decide +kernel
theorem dX12_letter_26 : decode cX12_letter 26 = .ok (.iconst 0, 1) := by decide +kernel
theorem dX12_letter_27 : decode cX12_letter 27 = .ok (.ireturn, 1) := by decide +kernel
theorem dX12_levelAt_0 : decode cX12_levelAt 0 = .ok (.aload_n 0, 1) := by decide +kernel
theorem dX12_levelAt_1 : decode cX12_levelAt 1 = .ok (.getfield 16, 3) := by decide +kernel
theorem dX12_levelAt_4 : decode cX12_levelAt 4 = .ok (.iload_n 3, 1) := by decide +kernel
theorem dX12_levelAt_5 : decode cX12_levelAt 5 = .ok (.iaload, 1) := by decide +kernel
theorem dX12_levelAt_6 : decode cX12_levelAt 6 = .ok (.i2l, 1) := by decide +kernel
theorem dX12_levelAt_7 : decode cX12_levelAt 7 = .ok (.lstore 4, 2) := by decide +kernel
theorem dX12_levelAt_9 : decode cX12_levelAt 9 = .ok (.iload_n 1, 1) := by decide +kernel
theorem dX12_levelAt_10 : decode cX12_levelAt 10 = .ok (.iconst (-1), 1) := by decide +kernel
theorem dX12_levelAt_11 : decode cX12_levelAt 11 = .ok (.if_icmp .ne 71, 3) := by decide +kernel
theorem dX12_levelAt_14 : decode cX12_levelAt 14 = .ok (.iconst 0, 1) := by decide +kernel
theorem dX12_levelAt_15 : decode cX12_levelAt 15 = .ok (.istore 6, 2) := by decide +kernel
theorem dX12_levelAt_17 : decode cX12_levelAt 17 = .ok (.iload 6, 2) := by decide +kernel
theorem dX12_levelAt_19 : decode cX12_levelAt 19 = .ok (.aload_n 0, 1) := by decide +kernel
theorem dX12_levelAt_20 : decode cX12_levelAt 20 = .ok (.getfield 136, 3) := by decide +kernel
theorem dX12_levelAt_23 : decode cX12_levelAt 23 = .ok (.if_icmp .ge 56, 3) := by decide +kernel
theorem dX12_levelAt_26 : decode cX12_levelAt 26 = .ok (.aload_n 0, 1) := by decide +kernel
theorem dX12_levelAt_27 : decode cX12_levelAt 27 = .ok (.getfield 38, 3) := by decide +kernel
theorem dX12_levelAt_30 : decode cX12_levelAt 30 = .ok (.iconst 3, 1) := by decide +kernel
theorem dX12_levelAt_31 : decode cX12_levelAt 31 = .ok (.iload 6, 2) := by decide +kernel
theorem dX12_levelAt_33 : decode cX12_levelAt 33 = .ok (.imul, 1) := by decide +kernel
theorem dX12_levelAt_34 : decode cX12_levelAt 34 = .ok (.iaload, 1) := by decide +kernel
theorem dX12_levelAt_35 : decode cX12_levelAt 35 = .ok (.iload_n 3, 1) := by decide +kernel
theorem dX12_levelAt_36 : decode cX12_levelAt 36 = .ok (.if_icmp .ne 33, 3) := by decide +kernel
theorem dX12_levelAt_39 : decode cX12_levelAt 39 = .ok (.aload_n 0, 1) := by decide +kernel
theorem dX12_levelAt_40 : decode cX12_levelAt 40 = .ok (.getfield 38, 3) := by decide +kernel
theorem dX12_levelAt_43 : decode cX12_levelAt 43 = .ok (.iconst 3, 1) := by decide +kernel
theorem dX12_levelAt_44 : decode cX12_levelAt 44 = .ok (.iload 6, 2) := by decide +kernel
theorem dX12_levelAt_46 : decode cX12_levelAt 46 = .ok (.imul, 1) := by decide +kernel
theorem dX12_levelAt_47 : decode cX12_levelAt 47 = .ok (.iconst 1, 1) := by decide +kernel
theorem dX12_levelAt_48 : decode cX12_levelAt 48 = .ok (.iadd, 1) := by decide +kernel
theorem dX12_levelAt_49 : decode cX12_levelAt 49 = .ok (.iaload, 1) := by decide +kernel
theorem dX12_levelAt_50 : decode cX12_levelAt 50 = .ok (.iload_n 2, 1) := by decide +kernel
theorem dX12_levelAt_51 : decode cX12_levelAt 51 = .ok (.if_icmp .ne 18, 3) := by decide +kernel
theorem dX12_levelAt_54 : decode cX12_levelAt 54 = .ok (.aload_n 0, 1) := by decide +kernel
theorem dX12_levelAt_55 : decode cX12_levelAt 55 = .ok (.getfield 38, 3) := by decide +kernel
theorem dX12_levelAt_58 : decode cX12_levelAt 58 = .ok (.iconst 3, 1) := by decide +kernel
theorem dX12_levelAt_59 : decode cX12_levelAt 59 = .ok (.iload 6, 2) := by decide +kernel
theorem dX12_levelAt_61 : decode cX12_levelAt 61 = .ok (.imul, 1) := by decide +kernel
theorem dX12_levelAt_62 : decode cX12_levelAt 62 = .ok (.iconst 2, 1) := by decide +kernel
theorem dX12_levelAt_63 : decode cX12_levelAt 63 = .ok (.iadd, 1) := by decide +kernel
theorem dX12_levelAt_64 : decode cX12_levelAt 64 = .ok (.iaload, 1) := by decide +kernel
theorem dX12_levelAt_65 : decode cX12_levelAt 65 = .ok (.i2l, 1) := by decide +kernel
theorem dX12_levelAt_66 : decode cX12_levelAt 66 = .ok (.goto 5, 3) := by decide +kernel
theorem dX12_levelAt_69 : decode cX12_levelAt 69 = .ok (.lload 4, 2) := by decide +kernel
theorem dX12_levelAt_71 : decode cX12_levelAt 71 = .ok (.lstore 4, 2) := by decide +kernel
theorem dX12_levelAt_73 : decode cX12_levelAt 73 = .ok (.iinc 6 1, 3) := by decide +kernel
theorem dX12_levelAt_76 : decode cX12_levelAt 76 = .ok (.goto (-59), 3) := by decide +kernel
theorem dX12_levelAt_79 : decode cX12_levelAt 79 = .ok (.lload 4, 2) := by decide +kernel
theorem dX12_levelAt_81 : decode cX12_levelAt 81 = .ok (.lreturn, 1) := by decide +kernel
theorem dX12_levelAt_82 : decode cX12_levelAt 82 = .ok (.iconst 0, 1) := by decide +kernel
theorem dX12_levelAt_83 : decode cX12_levelAt 83 = .ok (.istore 6, 2) := by decide +kernel
theorem dX12_levelAt_85 : decode cX12_levelAt 85 = .ok (.aload_n 0, 1) := by decide +kernel
theorem dX12_levelAt_86 : decode cX12_levelAt 86 = .ok (.getfield 63, 3) := by decide +kernel
theorem dX12_levelAt_89 : decode cX12_levelAt 89 = .ok (.bipush 12, 2) := by decide +kernel
theorem dX12_levelAt_91 : decode cX12_levelAt 91 = .ok (.iload_n 3, 1) := by decide +kernel
theorem dX12_levelAt_92 : decode cX12_levelAt 92 = .ok (.imul, 1) := by decide +kernel
theorem dX12_levelAt_93 : decode cX12_levelAt 93 = .ok (.iload 6, 2) := by decide +kernel
theorem dX12_levelAt_95 : decode cX12_levelAt 95 = .ok (.iadd, 1) := by decide +kernel
theorem dX12_levelAt_96 : decode cX12_levelAt 96 = .ok (.iaload, 1) := by decide +kernel
theorem dX12_levelAt_97 : decode cX12_levelAt 97 = .ok (.iload_n 1, 1) := by decide +kernel
theorem dX12_levelAt_98 : decode cX12_levelAt 98 = .ok (.if_icmp .eq 27, 3) := by decide +kernel
theorem dX12_levelAt_101 : decode cX12_levelAt 101 = .ok (.lload 4, 2) := by decide +kernel
theorem dX12_levelAt_103 : decode cX12_levelAt 103 = .ok (.aload_n 0, 1) := by decide +kernel
theorem dX12_levelAt_104 : decode cX12_levelAt 104 = .ok (.getfield 25, 3) := by decide +kernel
theorem dX12_levelAt_107 : decode cX12_levelAt 107 = .ok (.bipush 12, 2) := by decide +kernel
theorem dX12_levelAt_109 : decode cX12_levelAt 109 = .ok (.iload_n 3, 1) := by decide +kernel
theorem dX12_levelAt_110 : decode cX12_levelAt 110 = .ok (.imul, 1) := by decide +kernel
theorem dX12_levelAt_111 : decode cX12_levelAt 111 = .ok (.iload 6, 2) := by decide +kernel
theorem dX12_levelAt_113 : decode cX12_levelAt 113 = .ok (.iadd, 1) := by decide +kernel
theorem dX12_levelAt_114 : decode cX12_levelAt 114 = .ok (.iaload, 1) := by decide +kernel
theorem dX12_levelAt_115 : decode cX12_levelAt 115 = .ok (.i2l, 1) := by decide +kernel
theorem dX12_levelAt_116 : decode cX12_levelAt 116 = .ok (.lsub, 1) := by decide +kernel
theorem dX12_levelAt_117 : decode cX12_levelAt 117 = .ok (.lstore 4, 2) := by decide +kernel
theorem dX12_levelAt_119 : decode cX12_levelAt 119 = .ok (.iinc 6 1, 3) := by decide +kernel
theorem dX12_levelAt_122 : decode cX12_levelAt 122 = .ok (.goto (-37), 3) := by decide +kernel
theorem dX12_levelAt_125 : decode cX12_levelAt 125 = .ok (.lload 4, 2) := by decide +kernel
theorem dX12_levelAt_127 : decode cX12_levelAt 127 = .ok (.lreturn, 1) := by decide +kernel
theorem dX12_match_0 : decode cX12_match 0 = .ok (.aload_n 0, 1) := by decide +kernel
theorem dX12_match_1 : decode cX12_match 1 = .ok (.invokevirtual 219, 3) := by decide +kernel
theorem dX12_match_4 : decode cX12_match 4 = .ok (.ifCond .ne 70, 3) := by decide +kernel
theorem dX12_match_7 : decode cX12_match 7 = .ok (.aload_n 0, 1) := by decide +kernel
theorem dX12_match_8 : decode cX12_match 8 = .ok (.aload_n 0, 1) := by decide +kernel
theorem dX12_match_9 : decode cX12_match 9 = .ok (.iload_n 1, 1) := by decide +kernel
theorem dX12_match_10 : decode cX12_match 10 = .ok (.invokevirtual 129, 3) := by decide +kernel
theorem dX12_match_13 : decode cX12_match 13 = .ok (.ifCond .eq 27, 3) := by decide +kernel
theorem dX12_match_16 : decode cX12_match 16 = .ok (.aload_n 0, 1) := by decide +kernel
theorem dX12_match_17 : decode cX12_match 17 = .ok (.iload_n 2, 1) := by decide +kernel
theorem dX12_match_18 : decode cX12_match 18 = .ok (.invokevirtual 129, 3) := by decide +kernel
theorem dX12_match_21 : decode cX12_match 21 = .ok (.ifCond .eq 19, 3) := by decide +kernel
theorem dX12_match_24 : decode cX12_match 24 = .ok (.iload_n 3, 1) := by decide +kernel
theorem dX12_match_25 : decode cX12_match 25 = .ok (.iconst 0, 1) := by decide +kernel
theorem dX12_match_26 : decode cX12_match 26 = .ok (.aload_n 0, 1) := by decide +kernel
theorem dX12_match_27 : decode cX12_match 27 = .ok (.getfield 19, 3) := by decide +kernel
theorem dX12_match_30 : decode cX12_match 30 = .ok (.iload_n 1, 1) := by decide +kernel
theorem dX12_match_31 : decode cX12_match 31 = .ok (.iaload, 1) := by decide +kernel
theorem dX12_match_32 : decode cX12_match 32 = .ok (.iconst 1, 1) := by decide +kernel
theorem dX12_match_33 : decode cX12_match 33 = .ok (.isub, 1) := by decide +kernel
theorem dX12_match_34 : decode cX12_match 34 = .ok (.invokestatic 109, 3) := by decide +kernel
theorem dX12_match_37 : decode cX12_match 37 = .ok (.ifCond .ne 7, 3) := by decide +kernel
theorem dX12_match_40 : decode cX12_match 40 = .ok (.iconst 1, 1) := by decide +kernel
theorem dX12_match_41 : decode cX12_match 41 = .ok (.goto 4, 3) := by decide +kernel
theorem dX12_match_44 : decode cX12_match 44 = .ok (.iconst 0, 1) := by decide +kernel
theorem dX12_match_45 : decode cX12_match 45 = .ok (.iconst 2, 1) := by decide +kernel
theorem dX12_match_46 : decode cX12_match 46 = .ok (.invokevirtual 215, 3) := by decide +kernel
theorem dX12_match_49 : decode cX12_match 49 = .ok (.ifCond .ne 25, 3) := by decide +kernel
theorem dX12_match_52 : decode cX12_match 52 = .ok (.aload_n 0, 1) := by decide +kernel
theorem dX12_match_53 : decode cX12_match 53 = .ok (.aload_n 0, 1) := by decide +kernel
theorem dX12_match_54 : decode cX12_match 54 = .ok (.iload_n 1, 1) := by decide +kernel
theorem dX12_match_55 : decode cX12_match 55 = .ok (.iload_n 2, 1) := by decide +kernel
theorem dX12_match_56 : decode cX12_match 56 = .ok (.invokevirtual 175, 3) := by decide +kernel
theorem dX12_match_59 : decode cX12_match 59 = .ok (.ifCond .ne 7, 3) := by decide +kernel
theorem dX12_match_62 : decode cX12_match 62 = .ok (.iconst 1, 1) := by decide +kernel
theorem dX12_match_63 : decode cX12_match 63 = .ok (.goto 4, 3) := by decide +kernel
theorem dX12_match_66 : decode cX12_match 66 = .ok (.iconst 0, 1) := by decide +kernel
theorem dX12_match_67 : decode cX12_match 67 = .ok (.iconst 3, 1) := by decide +kernel
theorem dX12_match_68 : decode cX12_match 68 = .ok (.invokevirtual 215, 3) := by decide +kernel
theorem dX12_match_71 : decode cX12_match 71 = .ok (.ifCond .eq 5, 3) := by decide +kernel
theorem dX12_match_74 : decode cX12_match 74 = .ok (.iconst 0, 1) := by decide +kernel
theorem dX12_match_75 : decode cX12_match 75 = .ok (.ireturn, 1) := by decide +kernel
theorem dX12_match_76 : decode cX12_match 76 = .ok (.aload_n 0, 1) := by decide +kernel
theorem dX12_match_77 : decode cX12_match 77 = .ok (.iload_n 1, 1) := by decide +kernel
theorem dX12_match_78 : decode cX12_match 78 = .ok (.iload_n 2, 1) := by decide +kernel
theorem dX12_match_79 : decode cX12_match 79 = .ok (.iload_n 3, 1) := by decide +kernel
theorem dX12_match_80 : decode cX12_match 80 = .ok (.invokevirtual 223, 3) := by decide +kernel
theorem dX12_match_83 : decode cX12_match 83 = .ok (.ireturn, 1) := by decide +kernel
theorem dX12_matchEdge_0 : decode cX12_matchEdge 0 = .ok (.aload_n 0, 1) := by decide +kernel
theorem dX12_matchEdge_1 : decode cX12_matchEdge 1 = .ok (.getfield 41, 3) := by decide +kernel
theorem dX12_matchEdge_4 : decode cX12_matchEdge 4 = .ok (.iload_n 1, 1) := by decide +kernel
theorem dX12_matchEdge_5 : decode cX12_matchEdge 5 = .ok (.iaload, 1) := by decide +kernel
theorem dX12_matchEdge_6 : decode cX12_matchEdge 6 = .ok (.istore_n 2, 1) := by decide +kernel
theorem dX12_matchEdge_7 : decode cX12_matchEdge 7 = .ok (.aload_n 0, 1) := by decide +kernel
theorem dX12_matchEdge_8 : decode cX12_matchEdge 8 = .ok (.getfield 44, 3) := by decide +kernel
theorem dX12_matchEdge_11 : decode cX12_matchEdge 11 = .ok (.iload_n 1, 1) := by decide +kernel
theorem dX12_matchEdge_12 : decode cX12_matchEdge 12 = .ok (.iaload, 1) := by decide +kernel
theorem dX12_matchEdge_13 : decode cX12_matchEdge 13 = .ok (.istore_n 3, 1) := by decide +kernel
theorem dX12_matchEdge_14 : decode cX12_matchEdge 14 = .ok (.aload_n 0, 1) := by decide +kernel
theorem dX12_matchEdge_15 : decode cX12_matchEdge 15 = .ok (.getfield 19, 3) := by decide +kernel
theorem dX12_matchEdge_18 : decode cX12_matchEdge 18 = .ok (.iload_n 2, 1) := by decide +kernel
theorem dX12_matchEdge_19 : decode cX12_matchEdge 19 = .ok (.iaload, 1) := by decide +kernel
theorem dX12_matchEdge_20 : decode cX12_matchEdge 20 = .ok (.istore 4, 2) := by decide +kernel
theorem dX12_matchEdge_22 : decode cX12_matchEdge 22 = .ok (.aload_n 0, 1) := by decide +kernel
theorem dX12_matchEdge_23 : decode cX12_matchEdge 23 = .ok (.getfield 19, 3) := by decide +kernel
theorem dX12_matchEdge_26 : decode cX12_matchEdge 26 = .ok (.iload_n 3, 1) := by decide +kernel
theorem dX12_matchEdge_27 : decode cX12_matchEdge 27 = .ok (.iaload, 1) := by decide +kernel
theorem dX12_matchEdge_28 : decode cX12_matchEdge 28 = .ok (.istore 5, 2) := by decide +kernel
theorem dX12_matchEdge_30 : decode cX12_matchEdge 30 = .ok (.iload 4, 2) := by decide +kernel
theorem dX12_matchEdge_32 : decode cX12_matchEdge 32 = .ok (.istore 6, 2) := by decide +kernel
theorem dX12_matchEdge_34 : decode cX12_matchEdge 34 = .ok (.iload 6, 2) := by decide +kernel
theorem dX12_matchEdge_36 : decode cX12_matchEdge 36 = .ok (.ifCond .lt 207, 3) := by decide +kernel
theorem dX12_matchEdge_39 : decode cX12_matchEdge 39 = .ok (.iload 5, 2) := by decide +kernel
theorem dX12_matchEdge_41 : decode cX12_matchEdge 41 = .ok (.istore 7, 2) := by decide +kernel
theorem dX12_matchEdge_43 : decode cX12_matchEdge 43 = .ok (.iload 7, 2) := by decide +kernel
theorem dX12_matchEdge_45 : decode cX12_matchEdge 45 = .ok (.ifCond .lt 192, 3) := by decide +kernel
theorem dX12_matchEdge_48 : decode cX12_matchEdge 48 = .ok (.iload 6, 2) := by decide +kernel
theorem dX12_matchEdge_50 : decode cX12_matchEdge 50 = .ok (.iload 4, 2) := by decide +kernel
theorem dX12_matchEdge_52 : decode cX12_matchEdge 52 = .ok (.if_icmp .ne 14, 3) := by decide +kernel
theorem dX12_matchEdge_55 : decode cX12_matchEdge 55 = .ok (.iload 7, 2) := by decide +kernel
theorem dX12_matchEdge_57 : decode cX12_matchEdge 57 = .ok (.iload 5, 2) := by decide +kernel
theorem dX12_matchEdge_59 : decode cX12_matchEdge 59 = .ok (.if_icmp .ne 7, 3) := by decide +kernel
theorem dX12_matchEdge_62 : decode cX12_matchEdge 62 = .ok (.iconst 0, 1) := by decide +kernel
theorem dX12_matchEdge_63 : decode cX12_matchEdge 63 = .ok (.goto 5, 3) := by decide +kernel
theorem dX12_matchEdge_66 : decode cX12_matchEdge 66 = .ok (.ldc 188, 2) := by decide +kernel
theorem dX12_matchEdge_68 : decode cX12_matchEdge 68 = .ok (.istore 8, 2) := by decide +kernel
theorem dX12_matchEdge_70 : decode cX12_matchEdge 70 = .ok (.iload 6, 2) := by decide +kernel
theorem dX12_matchEdge_72 : decode cX12_matchEdge 72 = .ok (.iload 4, 2) := by decide +kernel
theorem dX12_matchEdge_74 : decode cX12_matchEdge 74 = .ok (.if_icmp .ge 32, 3) := by decide +kernel
theorem dX12_matchEdge_77 : decode cX12_matchEdge 77 = .ok (.aload_n 0, 1) := by decide +kernel
theorem dX12_matchEdge_78 : decode cX12_matchEdge 78 = .ok (.getfield 25, 3) := by decide +kernel
theorem dX12_matchEdge_81 : decode cX12_matchEdge 81 = .ok (.bipush 12, 2) := by decide +kernel
theorem dX12_matchEdge_83 : decode cX12_matchEdge 83 = .ok (.iload_n 2, 1) := by decide +kernel
theorem dX12_matchEdge_84 : decode cX12_matchEdge 84 = .ok (.imul, 1) := by decide +kernel
theorem dX12_matchEdge_85 : decode cX12_matchEdge 85 = .ok (.iload 6, 2) := by decide +kernel
theorem dX12_matchEdge_87 : decode cX12_matchEdge 87 = .ok (.iadd, 1) := by decide +kernel
theorem dX12_matchEdge_88 : decode cX12_matchEdge 88 = .ok (.iaload, 1) := by decide +kernel
theorem dX12_matchEdge_89 : decode cX12_matchEdge 89 = .ok (.aload_n 0, 1) := by decide +kernel
theorem dX12_matchEdge_90 : decode cX12_matchEdge 90 = .ok (.getfield 69, 3) := by decide +kernel
theorem dX12_matchEdge_93 : decode cX12_matchEdge 93 = .ok (.iload 6, 2) := by decide +kernel
theorem dX12_matchEdge_95 : decode cX12_matchEdge 95 = .ok (.iconst 1, 1) := by decide +kernel
theorem dX12_matchEdge_96 : decode cX12_matchEdge 96 = .ok (.iadd, 1) := by decide +kernel
theorem dX12_matchEdge_97 : decode cX12_matchEdge 97 = .ok (.iload 7, 2) := by decide +kernel
theorem dX12_matchEdge_99 : decode cX12_matchEdge 99 = .ok (.invokestatic 189, 3) := by decide +kernel
theorem dX12_matchEdge_102 : decode cX12_matchEdge 102 = .ok (.iaload, 1) := by decide +kernel
theorem dX12_matchEdge_103 : decode cX12_matchEdge 103 = .ok (.iadd, 1) := by decide +kernel
theorem dX12_matchEdge_104 : decode cX12_matchEdge 104 = .ok (.istore 8, 2) := by decide +kernel
theorem dX12_matchEdge_106 : decode cX12_matchEdge 106 = .ok (.iload 7, 2) := by decide +kernel
theorem dX12_matchEdge_108 : decode cX12_matchEdge 108 = .ok (.iload 5, 2) := by decide +kernel
theorem dX12_matchEdge_110 : decode cX12_matchEdge 110 = .ok (.if_icmp .ge 48, 3) := by decide +kernel
theorem dX12_matchEdge_113 : decode cX12_matchEdge 113 = .ok (.aload_n 0, 1) := by decide +kernel
theorem dX12_matchEdge_114 : decode cX12_matchEdge 114 = .ok (.getfield 25, 3) := by decide +kernel
theorem dX12_matchEdge_117 : decode cX12_matchEdge 117 = .ok (.bipush 12, 2) := by decide +kernel
theorem dX12_matchEdge_119 : decode cX12_matchEdge 119 = .ok (.iload_n 3, 1) := by decide +kernel
theorem dX12_matchEdge_120 : decode cX12_matchEdge 120 = .ok (.imul, 1) := by decide +kernel
theorem dX12_matchEdge_121 : decode cX12_matchEdge 121 = .ok (.iload 7, 2) := by decide +kernel
theorem dX12_matchEdge_123 : decode cX12_matchEdge 123 = .ok (.iadd, 1) := by decide +kernel
theorem dX12_matchEdge_124 : decode cX12_matchEdge 124 = .ok (.iaload, 1) := by decide +kernel
theorem dX12_matchEdge_125 : decode cX12_matchEdge 125 = .ok (.aload_n 0, 1) := by decide +kernel
theorem dX12_matchEdge_126 : decode cX12_matchEdge 126 = .ok (.getfield 69, 3) := by decide +kernel
theorem dX12_matchEdge_129 : decode cX12_matchEdge 129 = .ok (.iload 6, 2) := by decide +kernel
theorem dX12_matchEdge_131 : decode cX12_matchEdge 131 = .ok (.iload 7, 2) := by decide +kernel
theorem dX12_matchEdge_133 : decode cX12_matchEdge 133 = .ok (.iconst 1, 1) := by decide +kernel
theorem dX12_matchEdge_134 : decode cX12_matchEdge 134 = .ok (.iadd, 1) := by decide +kernel
theorem dX12_matchEdge_135 : decode cX12_matchEdge 135 = .ok (.invokestatic 189, 3) := by decide +kernel
theorem dX12_matchEdge_138 : decode cX12_matchEdge 138 = .ok (.iaload, 1) := by decide +kernel
theorem dX12_matchEdge_139 : decode cX12_matchEdge 139 = .ok (.iadd, 1) := by decide +kernel
theorem dX12_matchEdge_140 : decode cX12_matchEdge 140 = .ok (.istore 9, 2) := by decide +kernel
theorem dX12_matchEdge_142 : decode cX12_matchEdge 142 = .ok (.iload 9, 2) := by decide +kernel
theorem dX12_matchEdge_144 : decode cX12_matchEdge 144 = .ok (.iload 8, 2) := by decide +kernel
theorem dX12_matchEdge_146 : decode cX12_matchEdge 146 = .ok (.if_icmp .ge 8, 3) := by decide +kernel
theorem dX12_matchEdge_149 : decode cX12_matchEdge 149 = .ok (.iload 9, 2) := by decide +kernel
theorem dX12_matchEdge_151 : decode cX12_matchEdge 151 = .ok (.goto 5, 3) := by decide +kernel
theorem dX12_matchEdge_154 : decode cX12_matchEdge 154 = .ok (.iload 8, 2) := by decide +kernel
theorem dX12_matchEdge_156 : decode cX12_matchEdge 156 = .ok (.istore 8, 2) := by decide +kernel
theorem dX12_matchEdge_158 : decode cX12_matchEdge 158 = .ok (.iload 6, 2) := by decide +kernel
theorem dX12_matchEdge_160 : decode cX12_matchEdge 160 = .ok (.iload 4, 2) := by decide +kernel
theorem dX12_matchEdge_162 : decode cX12_matchEdge 162 = .ok (.if_icmp .ge 55, 3) := by decide +kernel
theorem dX12_matchEdge_165 : decode cX12_matchEdge 165 = .ok (.iload 7, 2) := by decide +kernel
theorem dX12_matchEdge_167 : decode cX12_matchEdge 167 = .ok (.iload 5, 2) := by decide +kernel
theorem dX12_matchEdge_169 : decode cX12_matchEdge 169 = .ok (.if_icmp .ge 48, 3) := by decide +kernel
theorem dX12_matchEdge_172 : decode cX12_matchEdge 172 = .ok (.aload_n 0, 1) := by decide +kernel
theorem dX12_matchEdge_173 : decode cX12_matchEdge 173 = .ok (.iload_n 2, 1) := by decide +kernel
theorem dX12_matchEdge_174 : decode cX12_matchEdge 174 = .ok (.iload 6, 2) := by decide +kernel
theorem dX12_matchEdge_176 : decode cX12_matchEdge 176 = .ok (.iload_n 3, 1) := by decide +kernel
theorem dX12_matchEdge_177 : decode cX12_matchEdge 177 = .ok (.iload 7, 2) := by decide +kernel
theorem dX12_matchEdge_179 : decode cX12_matchEdge 179 = .ok (.invokevirtual 192, 3) := by decide +kernel
theorem dX12_matchEdge_182 : decode cX12_matchEdge 182 = .ok (.aload_n 0, 1) := by decide +kernel
theorem dX12_matchEdge_183 : decode cX12_matchEdge 183 = .ok (.getfield 69, 3) := by decide +kernel
theorem dX12_matchEdge_186 : decode cX12_matchEdge 186 = .ok (.iload 6, 2) := by decide +kernel
theorem dX12_matchEdge_188 : decode cX12_matchEdge 188 = .ok (.iconst 1, 1) := by decide +kernel
theorem dX12_matchEdge_189 : decode cX12_matchEdge 189 = .ok (.iadd, 1) := by decide +kernel
theorem dX12_matchEdge_190 : decode cX12_matchEdge 190 = .ok (.iload 7, 2) := by decide +kernel
theorem dX12_matchEdge_192 : decode cX12_matchEdge 192 = .ok (.iconst 1, 1) := by decide +kernel
theorem dX12_matchEdge_193 : decode cX12_matchEdge 193 = .ok (.iadd, 1) := by decide +kernel
theorem dX12_matchEdge_194 : decode cX12_matchEdge 194 = .ok (.invokestatic 189, 3) := by decide +kernel
theorem dX12_matchEdge_197 : decode cX12_matchEdge 197 = .ok (.iaload, 1) := by decide +kernel
theorem dX12_matchEdge_198 : decode cX12_matchEdge 198 = .ok (.iadd, 1) := by decide +kernel
theorem dX12_matchEdge_199 : decode cX12_matchEdge 199 = .ok (.istore 9, 2) := by decide +kernel
theorem dX12_matchEdge_201 : decode cX12_matchEdge 201 = .ok (.iload 9, 2) := by decide +kernel
theorem dX12_matchEdge_203 : decode cX12_matchEdge 203 = .ok (.iload 8, 2) := by decide +kernel
theorem dX12_matchEdge_205 : decode cX12_matchEdge 205 = .ok (.if_icmp .ge 8, 3) := by decide +kernel
theorem dX12_matchEdge_208 : decode cX12_matchEdge 208 = .ok (.iload 9, 2) := by decide +kernel
theorem dX12_matchEdge_210 : decode cX12_matchEdge 210 = .ok (.goto 5, 3) := by decide +kernel
theorem dX12_matchEdge_213 : decode cX12_matchEdge 213 = .ok (.iload 8, 2) := by decide +kernel
theorem dX12_matchEdge_215 : decode cX12_matchEdge 215 = .ok (.istore 8, 2) := by decide +kernel
theorem dX12_matchEdge_217 : decode cX12_matchEdge 217 = .ok (.aload_n 0, 1) := by decide +kernel
theorem dX12_matchEdge_218 : decode cX12_matchEdge 218 = .ok (.getfield 69, 3) := by decide +kernel
theorem dX12_matchEdge_221 : decode cX12_matchEdge 221 = .ok (.iload 6, 2) := by decide +kernel
theorem dX12_matchEdge_223 : decode cX12_matchEdge 223 = .ok (.iload 7, 2) := by decide +kernel
theorem dX12_matchEdge_225 : decode cX12_matchEdge 225 = .ok (.invokestatic 189, 3) := by decide +kernel
theorem dX12_matchEdge_228 : decode cX12_matchEdge 228 = .ok (.iload 8, 2) := by decide +kernel
theorem dX12_matchEdge_230 : decode cX12_matchEdge 230 = .ok (.iastore, 1) := by decide +kernel
theorem dX12_matchEdge_231 : decode cX12_matchEdge 231 = .ok (.iinc 7 (-1), 3) := by decide +kernel
theorem dX12_matchEdge_234 : decode cX12_matchEdge 234 = .ok (.goto (-191), 3) := by decide +kernel
theorem dX12_matchEdge_237 : decode cX12_matchEdge 237 = .ok (.iinc 6 (-1), 3) := by decide +kernel
theorem dX12_matchEdge_240 : decode cX12_matchEdge 240 = .ok (.goto (-206), 3) := by decide +kernel
theorem dX12_matchEdge_243 : decode cX12_matchEdge 243 = .ok (.aload_n 0, 1) := by decide +kernel
theorem dX12_matchEdge_244 : decode cX12_matchEdge 244 = .ok (.getfield 57, 3) := by decide +kernel
theorem dX12_matchEdge_247 : decode cX12_matchEdge 247 = .ok (.iload_n 1, 1) := by decide +kernel
theorem dX12_matchEdge_248 : decode cX12_matchEdge 248 = .ok (.aload_n 0, 1) := by decide +kernel
theorem dX12_matchEdge_249 : decode cX12_matchEdge 249 = .ok (.getfield 69, 3) := by decide +kernel
theorem dX12_matchEdge_252 : decode cX12_matchEdge 252 = .ok (.iconst 0, 1) := by decide +kernel
theorem dX12_matchEdge_253 : decode cX12_matchEdge 253 = .ok (.iconst 0, 1) := by decide +kernel
theorem dX12_matchEdge_254 : decode cX12_matchEdge 254 = .ok (.invokestatic 189, 3) := by decide +kernel
theorem dX12_matchEdge_257 : decode cX12_matchEdge 257 = .ok (.iaload, 1) := by decide +kernel
theorem dX12_matchEdge_258 : decode cX12_matchEdge 258 = .ok (.iastore, 1) := by decide +kernel
theorem dX12_matchEdge_259 : decode cX12_matchEdge 259 = .ok (.iconst 0, 1) := by decide +kernel
theorem dX12_matchEdge_260 : decode cX12_matchEdge 260 = .ok (.istore 6, 2) := by decide +kernel
theorem dX12_matchEdge_262 : decode cX12_matchEdge 262 = .ok (.iconst 0, 1) := by decide +kernel
theorem dX12_matchEdge_263 : decode cX12_matchEdge 263 = .ok (.istore 7, 2) := by decide +kernel
theorem dX12_matchEdge_265 : decode cX12_matchEdge 265 = .ok (.iload 7, 2) := by decide +kernel
theorem dX12_matchEdge_267 : decode cX12_matchEdge 267 = .ok (.iload 4, 2) := by decide +kernel
theorem dX12_matchEdge_269 : decode cX12_matchEdge 269 = .ok (.if_icmp .ge 139, 3) := by decide +kernel
theorem dX12_matchEdge_272 : decode cX12_matchEdge 272 = .ok (.iconst (-1), 1) := by decide +kernel
theorem dX12_matchEdge_273 : decode cX12_matchEdge 273 = .ok (.istore 8, 2) := by decide +kernel
theorem dX12_matchEdge_275 : decode cX12_matchEdge 275 = .ok (.iconst 0, 1) := by decide +kernel
theorem dX12_matchEdge_276 : decode cX12_matchEdge 276 = .ok (.istore 9, 2) := by decide +kernel
theorem dX12_matchEdge_278 : decode cX12_matchEdge 278 = .ok (.iload 6, 2) := by decide +kernel
theorem dX12_matchEdge_280 : decode cX12_matchEdge 280 = .ok (.istore 10, 2) := by decide +kernel
theorem dX12_matchEdge_282 : decode cX12_matchEdge 282 = .ok (.iload 10, 2) := by decide +kernel
theorem dX12_matchEdge_284 : decode cX12_matchEdge 284 = .ok (.iload 5, 2) := by decide +kernel
theorem dX12_matchEdge_286 : decode cX12_matchEdge 286 = .ok (.if_icmp .ge 85, 3) := by decide +kernel
theorem dX12_matchEdge_289 : decode cX12_matchEdge 289 = .ok (.iload 8, 2) := by decide +kernel
theorem dX12_matchEdge_291 : decode cX12_matchEdge 291 = .ok (.iconst (-1), 1) := by decide +kernel
theorem dX12_matchEdge_292 : decode cX12_matchEdge 292 = .ok (.if_icmp .ne 79, 3) := by decide +kernel
theorem dX12_matchEdge_295 : decode cX12_matchEdge 295 = .ok (.iload 9, 2) := by decide +kernel
theorem dX12_matchEdge_297 : decode cX12_matchEdge 297 = .ok (.aload_n 0, 1) := by decide +kernel
theorem dX12_matchEdge_298 : decode cX12_matchEdge 298 = .ok (.iload_n 2, 1) := by decide +kernel
theorem dX12_matchEdge_299 : decode cX12_matchEdge 299 = .ok (.iload 7, 2) := by decide +kernel
theorem dX12_matchEdge_301 : decode cX12_matchEdge 301 = .ok (.iload_n 3, 1) := by decide +kernel
theorem dX12_matchEdge_302 : decode cX12_matchEdge 302 = .ok (.iload 10, 2) := by decide +kernel
theorem dX12_matchEdge_304 : decode cX12_matchEdge 304 = .ok (.invokevirtual 192, 3) := by decide +kernel
theorem dX12_matchEdge_307 : decode cX12_matchEdge 307 = .ok (.iadd, 1) := by decide +kernel
theorem dX12_matchEdge_308 : decode cX12_matchEdge 308 = .ok (.aload_n 0, 1) := by decide +kernel
theorem dX12_matchEdge_309 : decode cX12_matchEdge 309 = .ok (.getfield 69, 3) := by decide +kernel
theorem dX12_matchEdge_312 : decode cX12_matchEdge 312 = .ok (.iload 7, 2) := by decide +kernel
theorem dX12_matchEdge_314 : decode cX12_matchEdge 314 = .ok (.iconst 1, 1) := by decide +kernel
theorem dX12_matchEdge_315 : decode cX12_matchEdge 315 = .ok (.iadd, 1) := by decide +kernel
theorem dX12_matchEdge_316 : decode cX12_matchEdge 316 = .ok (.iload 10, 2) := by decide +kernel
theorem dX12_matchEdge_318 : decode cX12_matchEdge 318 = .ok (.iconst 1, 1) := by decide +kernel
theorem dX12_matchEdge_319 : decode cX12_matchEdge 319 = .ok (.iadd, 1) := by decide +kernel
theorem dX12_matchEdge_320 : decode cX12_matchEdge 320 = .ok (.invokestatic 189, 3) := by decide +kernel
theorem dX12_matchEdge_323 : decode cX12_matchEdge 323 = .ok (.iaload, 1) := by decide +kernel
theorem dX12_matchEdge_324 : decode cX12_matchEdge 324 = .ok (.iadd, 1) := by decide +kernel
theorem dX12_matchEdge_325 : decode cX12_matchEdge 325 = .ok (.aload_n 0, 1) := by decide +kernel
theorem dX12_matchEdge_326 : decode cX12_matchEdge 326 = .ok (.getfield 69, 3) := by decide +kernel
theorem dX12_matchEdge_329 : decode cX12_matchEdge 329 = .ok (.iload 7, 2) := by decide +kernel
theorem dX12_matchEdge_331 : decode cX12_matchEdge 331 = .ok (.iload 6, 2) := by decide +kernel
theorem dX12_matchEdge_333 : decode cX12_matchEdge 333 = .ok (.invokestatic 189, 3) := by decide +kernel
theorem dX12_matchEdge_336 : decode cX12_matchEdge 336 = .ok (.iaload, 1) := by decide +kernel
theorem dX12_matchEdge_337 : decode cX12_matchEdge 337 = .ok (.if_icmp .ne 8, 3) := by decide +kernel
theorem dX12_matchEdge_340 : decode cX12_matchEdge 340 = .ok (.iload 10, 2) := by decide +kernel
theorem dX12_matchEdge_342 : decode cX12_matchEdge 342 = .ok (.goto 4, 3) := by decide +kernel
theorem dX12_matchEdge_345 : decode cX12_matchEdge 345 = .ok (.iconst (-1), 1) := by decide +kernel
theorem dX12_matchEdge_346 : decode cX12_matchEdge 346 = .ok (.istore 8, 2) := by decide +kernel
theorem dX12_matchEdge_348 : decode cX12_matchEdge 348 = .ok (.iload 9, 2) := by decide +kernel
theorem dX12_matchEdge_350 : decode cX12_matchEdge 350 = .ok (.aload_n 0, 1) := by decide +kernel
theorem dX12_matchEdge_351 : decode cX12_matchEdge 351 = .ok (.getfield 25, 3) := by decide +kernel
theorem dX12_matchEdge_354 : decode cX12_matchEdge 354 = .ok (.bipush 12, 2) := by decide +kernel
theorem dX12_matchEdge_356 : decode cX12_matchEdge 356 = .ok (.iload_n 3, 1) := by decide +kernel
theorem dX12_matchEdge_357 : decode cX12_matchEdge 357 = .ok (.imul, 1) := by decide +kernel
theorem dX12_matchEdge_358 : decode cX12_matchEdge 358 = .ok (.iload 10, 2) := by decide +kernel
theorem dX12_matchEdge_360 : decode cX12_matchEdge 360 = .ok (.iadd, 1) := by decide +kernel
theorem dX12_matchEdge_361 : decode cX12_matchEdge 361 = .ok (.iaload, 1) := by decide +kernel
theorem dX12_matchEdge_362 : decode cX12_matchEdge 362 = .ok (.iadd, 1) := by decide +kernel
theorem dX12_matchEdge_363 : decode cX12_matchEdge 363 = .ok (.istore 9, 2) := by decide +kernel
theorem dX12_matchEdge_365 : decode cX12_matchEdge 365 = .ok (.iinc 10 1, 3) := by decide +kernel
theorem dX12_matchEdge_368 : decode cX12_matchEdge 368 = .ok (.goto (-86), 3) := by decide +kernel
theorem dX12_matchEdge_371 : decode cX12_matchEdge 371 = .ok (.aload_n 0, 1) := by decide +kernel
theorem dX12_matchEdge_372 : decode cX12_matchEdge 372 = .ok (.getfield 54, 3) := by decide +kernel
theorem dX12_matchEdge_375 : decode cX12_matchEdge 375 = .ok (.bipush 12, 2) := by decide +kernel
theorem dX12_matchEdge_377 : decode cX12_matchEdge 377 = .ok (.iload_n 1, 1) := by decide +kernel
theorem dX12_matchEdge_378 : decode cX12_matchEdge 378 = .ok (.imul, 1) := by decide +kernel
theorem dX12_matchEdge_379 : decode cX12_matchEdge 379 = .ok (.iload 7, 2) := by decide +kernel
theorem dX12_matchEdge_381 : decode cX12_matchEdge 381 = .ok (.iadd, 1) := by decide +kernel
theorem dX12_matchEdge_382 : decode cX12_matchEdge 382 = .ok (.iload 8, 2) := by decide +kernel
theorem dX12_matchEdge_384 : decode cX12_matchEdge 384 = .ok (.iastore, 1) := by decide +kernel
theorem dX12_matchEdge_385 : decode cX12_matchEdge 385 = .ok (.iload 8, 2) := by decide +kernel
theorem dX12_matchEdge_387 : decode cX12_matchEdge 387 = .ok (.iconst (-1), 1) := by decide +kernel
theorem dX12_matchEdge_388 : decode cX12_matchEdge 388 = .ok (.if_icmp .ne 8, 3) := by decide +kernel
theorem dX12_matchEdge_391 : decode cX12_matchEdge 391 = .ok (.iload 6, 2) := by decide +kernel
theorem dX12_matchEdge_393 : decode cX12_matchEdge 393 = .ok (.goto 7, 3) := by decide +kernel
theorem dX12_matchEdge_396 : decode cX12_matchEdge 396 = .ok (.iload 8, 2) := by decide +kernel
theorem dX12_matchEdge_398 : decode cX12_matchEdge 398 = .ok (.iconst 1, 1) := by decide +kernel
theorem dX12_matchEdge_399 : decode cX12_matchEdge 399 = .ok (.iadd, 1) := by decide +kernel
theorem dX12_matchEdge_400 : decode cX12_matchEdge 400 = .ok (.istore 6, 2) := by decide +kernel
theorem dX12_matchEdge_402 : decode cX12_matchEdge 402 = .ok (.iinc 7 1, 3) := by decide +kernel
theorem dX12_matchEdge_405 : decode cX12_matchEdge 405 = .ok (.goto (-140), 3) := by decide +kernel
theorem dX12_matchEdge_408 : decode cX12_matchEdge 408 = .ok (.return_, 1) := by decide +kernel
theorem dX12_matched_0 : decode cX12_matched 0 = .ok (.aload_n 0, 1) := by decide +kernel
theorem dX12_matched_1 : decode cX12_matched 1 = .ok (.getfield 51, 3) := by decide +kernel
theorem dX12_matched_4 : decode cX12_matched 4 = .ok (.bipush 16, 2) := by decide +kernel
theorem dX12_matched_6 : decode cX12_matched 6 = .ok (.iload_n 1, 1) := by decide +kernel
theorem dX12_matched_7 : decode cX12_matched 7 = .ok (.imul, 1) := by decide +kernel
theorem dX12_matched_8 : decode cX12_matched 8 = .ok (.iload_n 2, 1) := by decide +kernel
theorem dX12_matched_9 : decode cX12_matched 9 = .ok (.iadd, 1) := by decide +kernel
theorem dX12_matched_10 : decode cX12_matched 10 = .ok (.iaload, 1) := by decide +kernel
theorem dX12_matched_11 : decode cX12_matched 11 = .ok (.istore 4, 2) := by decide +kernel
theorem dX12_matched_13 : decode cX12_matched 13 = .ok (.iload_n 1, 1) := by decide +kernel
theorem dX12_matched_14 : decode cX12_matched 14 = .ok (.iload_n 2, 1) := by decide +kernel
theorem dX12_matched_15 : decode cX12_matched 15 = .ok (.if_icmp .ge 16, 3) := by decide +kernel
theorem dX12_matched_18 : decode cX12_matched 18 = .ok (.aload_n 0, 1) := by decide +kernel
theorem dX12_matched_19 : decode cX12_matched 19 = .ok (.getfield 54, 3) := by decide +kernel
theorem dX12_matched_22 : decode cX12_matched 22 = .ok (.bipush 12, 2) := by decide +kernel
theorem dX12_matched_24 : decode cX12_matched 24 = .ok (.iload 4, 2) := by decide +kernel
theorem dX12_matched_26 : decode cX12_matched 26 = .ok (.imul, 1) := by decide +kernel
theorem dX12_matched_27 : decode cX12_matched 27 = .ok (.iload_n 3, 1) := by decide +kernel
theorem dX12_matched_28 : decode cX12_matched 28 = .ok (.iadd, 1) := by decide +kernel
theorem dX12_matched_29 : decode cX12_matched 29 = .ok (.iaload, 1) := by decide +kernel
theorem dX12_matched_30 : decode cX12_matched 30 = .ok (.ireturn, 1) := by decide +kernel
theorem dX12_matched_31 : decode cX12_matched 31 = .ok (.iconst (-1), 1) := by decide +kernel
theorem dX12_matched_32 : decode cX12_matched 32 = .ok (.istore 5, 2) := by decide +kernel
theorem dX12_matched_34 : decode cX12_matched 34 = .ok (.iconst 0, 1) := by decide +kernel
theorem dX12_matched_35 : decode cX12_matched 35 = .ok (.istore 6, 2) := by decide +kernel
theorem dX12_matched_37 : decode cX12_matched 37 = .ok (.iload 6, 2) := by decide +kernel
theorem dX12_matched_39 : decode cX12_matched 39 = .ok (.aload_n 0, 1) := by decide +kernel
theorem dX12_matched_40 : decode cX12_matched 40 = .ok (.getfield 19, 3) := by decide +kernel
theorem dX12_matched_43 : decode cX12_matched 43 = .ok (.iload_n 2, 1) := by decide +kernel
theorem dX12_matched_44 : decode cX12_matched 44 = .ok (.iaload, 1) := by decide +kernel
theorem dX12_matched_45 : decode cX12_matched 45 = .ok (.if_icmp .ge 35, 3) := by decide +kernel
theorem dX12_matched_48 : decode cX12_matched 48 = .ok (.aload_n 0, 1) := by decide +kernel
theorem dX12_matched_49 : decode cX12_matched 49 = .ok (.getfield 54, 3) := by decide +kernel
theorem dX12_matched_52 : decode cX12_matched 52 = .ok (.bipush 12, 2) := by decide +kernel
theorem dX12_matched_54 : decode cX12_matched 54 = .ok (.iload 4, 2) := by decide +kernel
theorem dX12_matched_56 : decode cX12_matched 56 = .ok (.imul, 1) := by decide +kernel
theorem dX12_matched_57 : decode cX12_matched 57 = .ok (.iload 6, 2) := by decide +kernel
theorem dX12_matched_59 : decode cX12_matched 59 = .ok (.iadd, 1) := by decide +kernel
theorem dX12_matched_60 : decode cX12_matched 60 = .ok (.iaload, 1) := by decide +kernel
theorem dX12_matched_61 : decode cX12_matched 61 = .ok (.iload_n 3, 1) := by decide +kernel
theorem dX12_matched_62 : decode cX12_matched 62 = .ok (.if_icmp .ne 8, 3) := by decide +kernel
theorem dX12_matched_65 : decode cX12_matched 65 = .ok (.iload 6, 2) := by decide +kernel
theorem dX12_matched_67 : decode cX12_matched 67 = .ok (.goto 5, 3) := by decide +kernel
theorem dX12_matched_70 : decode cX12_matched 70 = .ok (.iload 5, 2) := by decide +kernel
theorem dX12_matched_72 : decode cX12_matched 72 = .ok (.istore 5, 2) := by decide +kernel
theorem dX12_matched_74 : decode cX12_matched 74 = .ok (.iinc 6 1, 3) := by decide +kernel
theorem dX12_matched_77 : decode cX12_matched 77 = .ok (.goto (-40), 3) := by decide +kernel
theorem dX12_matched_80 : decode cX12_matched 80 = .ok (.iload 5, 2) := by decide +kernel
theorem dX12_matched_82 : decode cX12_matched 82 = .ok (.ireturn, 1) := by decide +kernel
theorem dX12_meet_0 : decode cX12_meet 0 = .ok (.iload_n 0, 1) := by decide +kernel
theorem dX12_meet_1 : decode cX12_meet 1 = .ok (.iload_n 1, 1) := by decide +kernel
theorem dX12_meet_2 : decode cX12_meet 2 = .ok (.iload_n 2, 1) := by decide +kernel
theorem dX12_meet_3 : decode cX12_meet 3 = .ok (.iload_n 3, 1) := by decide +kernel
theorem dX12_meet_4 : decode cX12_meet 4 = .ok (.iload 4, 2) := by decide +kernel
theorem dX12_meet_6 : decode cX12_meet 6 = .ok (.iload 5, 2) := by decide +kernel
theorem dX12_meet_8 : decode cX12_meet 8 = .ok (.invokestatic 153, 3) := by decide +kernel
theorem dX12_meet_11 : decode cX12_meet 11 = .ok (.ifCond .ne 49, 3) := by decide +kernel
theorem dX12_meet_14 : decode cX12_meet 14 = .ok (.iload_n 0, 1) := by decide +kernel
theorem dX12_meet_15 : decode cX12_meet 15 = .ok (.iload_n 1, 1) := by decide +kernel
theorem dX12_meet_16 : decode cX12_meet 16 = .ok (.iload_n 2, 1) := by decide +kernel
theorem dX12_meet_17 : decode cX12_meet 17 = .ok (.iload_n 3, 1) := by decide +kernel
theorem dX12_meet_18 : decode cX12_meet 18 = .ok (.iload 6, 2) := by decide +kernel
theorem dX12_meet_20 : decode cX12_meet 20 = .ok (.iload 7, 2) := by decide +kernel
theorem dX12_meet_22 : decode cX12_meet 22 = .ok (.invokestatic 153, 3) := by decide +kernel
theorem dX12_meet_25 : decode cX12_meet 25 = .ok (.ifCond .ne 35, 3) := by decide +kernel
theorem dX12_meet_28 : decode cX12_meet 28 = .ok (.iload 4, 2) := by decide +kernel
theorem dX12_meet_30 : decode cX12_meet 30 = .ok (.iload 5, 2) := by decide +kernel
theorem dX12_meet_32 : decode cX12_meet 32 = .ok (.iload 6, 2) := by decide +kernel
theorem dX12_meet_34 : decode cX12_meet 34 = .ok (.iload 7, 2) := by decide +kernel
theorem dX12_meet_36 : decode cX12_meet 36 = .ok (.iload_n 0, 1) := by decide +kernel
theorem dX12_meet_37 : decode cX12_meet 37 = .ok (.iload_n 1, 1) := by decide +kernel
theorem dX12_meet_38 : decode cX12_meet 38 = .ok (.invokestatic 153, 3) := by decide +kernel
theorem dX12_meet_41 : decode cX12_meet 41 = .ok (.ifCond .ne 19, 3) := by decide +kernel
theorem dX12_meet_44 : decode cX12_meet 44 = .ok (.iload 4, 2) := by decide +kernel
theorem dX12_meet_46 : decode cX12_meet 46 = .ok (.iload 5, 2) := by decide +kernel
theorem dX12_meet_48 : decode cX12_meet 48 = .ok (.iload 6, 2) := by decide +kernel
theorem dX12_meet_50 : decode cX12_meet 50 = .ok (.iload 7, 2) := by decide +kernel
theorem dX12_meet_52 : decode cX12_meet 52 = .ok (.iload_n 2, 1) := by decide +kernel
theorem dX12_meet_53 : decode cX12_meet 53 = .ok (.iload_n 3, 1) := by decide +kernel
theorem dX12_meet_54 : decode cX12_meet 54 = .ok (.invokestatic 153, 3) := by decide +kernel
theorem dX12_meet_57 : decode cX12_meet 57 = .ok (.ifCond .eq 7, 3) := by decide +kernel
theorem dX12_meet_60 : decode cX12_meet 60 = .ok (.iconst 1, 1) := by decide +kernel
theorem dX12_meet_61 : decode cX12_meet 61 = .ok (.goto 4, 3) := by decide +kernel
theorem dX12_meet_64 : decode cX12_meet 64 = .ok (.iconst 0, 1) := by decide +kernel
theorem dX12_meet_65 : decode cX12_meet 65 = .ok (.istore 8, 2) := by decide +kernel
theorem dX12_meet_67 : decode cX12_meet 67 = .ok (.iload 8, 2) := by decide +kernel
theorem dX12_meet_69 : decode cX12_meet 69 = .ok (.ifCond .ne 59, 3) := by decide +kernel
theorem dX12_meet_72 : decode cX12_meet 72 = .ok (.iload_n 0, 1) := by decide +kernel
theorem dX12_meet_73 : decode cX12_meet 73 = .ok (.iload_n 1, 1) := by decide +kernel
theorem dX12_meet_74 : decode cX12_meet 74 = .ok (.iload_n 2, 1) := by decide +kernel
theorem dX12_meet_75 : decode cX12_meet 75 = .ok (.iload_n 3, 1) := by decide +kernel
theorem dX12_meet_76 : decode cX12_meet 76 = .ok (.iload 4, 2) := by decide +kernel
theorem dX12_meet_78 : decode cX12_meet 78 = .ok (.iload 5, 2) := by decide +kernel
theorem dX12_meet_80 : decode cX12_meet 80 = .ok (.invokestatic 146, 3) := by decide +kernel
theorem dX12_meet_83 : decode cX12_meet 83 = .ok (.iload_n 0, 1) := by decide +kernel
theorem dX12_meet_84 : decode cX12_meet 84 = .ok (.iload_n 1, 1) := by decide +kernel
theorem dX12_meet_85 : decode cX12_meet 85 = .ok (.iload_n 2, 1) := by decide +kernel
theorem dX12_meet_86 : decode cX12_meet 86 = .ok (.iload_n 3, 1) := by decide +kernel
theorem dX12_meet_87 : decode cX12_meet 87 = .ok (.iload 6, 2) := by decide +kernel
theorem dX12_meet_89 : decode cX12_meet 89 = .ok (.iload 7, 2) := by decide +kernel
theorem dX12_meet_91 : decode cX12_meet 91 = .ok (.invokestatic 146, 3) := by decide +kernel
theorem dX12_meet_94 : decode cX12_meet 94 = .ok (.imul, 1) := by decide +kernel
theorem dX12_meet_95 : decode cX12_meet 95 = .ok (.ifCond .ge 37, 3) := by decide +kernel
theorem dX12_meet_98 : decode cX12_meet 98 = .ok (.iload 4, 2) := by decide +kernel
theorem dX12_meet_100 : decode cX12_meet 100 = .ok (.iload 5, 2) := by decide +kernel
theorem dX12_meet_102 : decode cX12_meet 102 = .ok (.iload 6, 2) := by decide +kernel
theorem dX12_meet_104 : decode cX12_meet 104 = .ok (.iload 7, 2) := by decide +kernel
theorem dX12_meet_106 : decode cX12_meet 106 = .ok (.iload_n 0, 1) := by decide +kernel
theorem dX12_meet_107 : decode cX12_meet 107 = .ok (.iload_n 1, 1) := by decide +kernel
theorem dX12_meet_108 : decode cX12_meet 108 = .ok (.invokestatic 146, 3) := by decide +kernel
theorem dX12_meet_111 : decode cX12_meet 111 = .ok (.iload 4, 2) := by decide +kernel
theorem dX12_meet_113 : decode cX12_meet 113 = .ok (.iload 5, 2) := by decide +kernel
theorem dX12_meet_115 : decode cX12_meet 115 = .ok (.iload 6, 2) := by decide +kernel
theorem dX12_meet_117 : decode cX12_meet 117 = .ok (.iload 7, 2) := by decide +kernel
theorem dX12_meet_119 : decode cX12_meet 119 = .ok (.iload_n 2, 1) := by decide +kernel
theorem dX12_meet_120 : decode cX12_meet 120 = .ok (.iload_n 3, 1) := by decide +kernel
theorem dX12_meet_121 : decode cX12_meet 121 = .ok (.invokestatic 146, 3) := by decide +kernel
theorem dX12_meet_124 : decode cX12_meet 124 = .ok (.imul, 1) := by decide +kernel
theorem dX12_meet_125 : decode cX12_meet 125 = .ok (.ifCond .ge 7, 3) := by decide +kernel
theorem dX12_meet_128 : decode cX12_meet 128 = .ok (.iconst 1, 1) := by decide +kernel
theorem dX12_meet_129 : decode cX12_meet 129 = .ok (.goto 4, 3) := by decide +kernel
theorem dX12_meet_132 : decode cX12_meet 132 = .ok (.iconst 0, 1) := by decide +kernel
theorem dX12_meet_133 : decode cX12_meet 133 = .ok (.ireturn, 1) := by decide +kernel
theorem dX12_onPlane_0 : decode cX12_onPlane 0 = .ok (.aload_n 0, 1) := by decide +kernel
theorem dX12_onPlane_1 : decode cX12_onPlane 1 = .ok (.getfield 60, 3) := by decide +kernel
theorem dX12_onPlane_4 : decode cX12_onPlane 4 = .ok (.iconst 3, 1) := by decide +kernel
theorem dX12_onPlane_5 : decode cX12_onPlane 5 = .ok (.iload_n 3, 1) := by decide +kernel
theorem dX12_onPlane_6 : decode cX12_onPlane 6 = .ok (.imul, 1) := by decide +kernel
theorem dX12_onPlane_7 : decode cX12_onPlane 7 = .ok (.iaload, 1) := by decide +kernel
theorem dX12_onPlane_8 : decode cX12_onPlane 8 = .ok (.istore 6, 2) := by decide +kernel
theorem dX12_onPlane_10 : decode cX12_onPlane 10 = .ok (.aload_n 0, 1) := by decide +kernel
theorem dX12_onPlane_11 : decode cX12_onPlane 11 = .ok (.getfield 60, 3) := by decide +kernel
theorem dX12_onPlane_14 : decode cX12_onPlane 14 = .ok (.iconst 3, 1) := by decide +kernel
theorem dX12_onPlane_15 : decode cX12_onPlane 15 = .ok (.iload_n 3, 1) := by decide +kernel
theorem dX12_onPlane_16 : decode cX12_onPlane 16 = .ok (.imul, 1) := by decide +kernel
theorem dX12_onPlane_17 : decode cX12_onPlane 17 = .ok (.iconst 1, 1) := by decide +kernel
theorem dX12_onPlane_18 : decode cX12_onPlane 18 = .ok (.iadd, 1) := by decide +kernel
theorem dX12_onPlane_19 : decode cX12_onPlane 19 = .ok (.iaload, 1) := by decide +kernel
theorem dX12_onPlane_20 : decode cX12_onPlane 20 = .ok (.istore 7, 2) := by decide +kernel
theorem dX12_onPlane_22 : decode cX12_onPlane 22 = .ok (.aload_n 0, 1) := by decide +kernel
theorem dX12_onPlane_23 : decode cX12_onPlane 23 = .ok (.getfield 60, 3) := by decide +kernel
theorem dX12_onPlane_26 : decode cX12_onPlane 26 = .ok (.iconst 3, 1) := by decide +kernel
theorem dX12_onPlane_27 : decode cX12_onPlane 27 = .ok (.iload_n 3, 1) := by decide +kernel
theorem dX12_onPlane_28 : decode cX12_onPlane 28 = .ok (.imul, 1) := by decide +kernel
theorem dX12_onPlane_29 : decode cX12_onPlane 29 = .ok (.iconst 2, 1) := by decide +kernel
theorem dX12_onPlane_30 : decode cX12_onPlane 30 = .ok (.iadd, 1) := by decide +kernel
theorem dX12_onPlane_31 : decode cX12_onPlane 31 = .ok (.iaload, 1) := by decide +kernel
theorem dX12_onPlane_32 : decode cX12_onPlane 32 = .ok (.istore 8, 2) := by decide +kernel
theorem dX12_onPlane_34 : decode cX12_onPlane 34 = .ok (.aload_n 0, 1) := by decide +kernel
theorem dX12_onPlane_35 : decode cX12_onPlane 35 = .ok (.getfield 7, 3) := by decide +kernel
theorem dX12_onPlane_38 : decode cX12_onPlane 38 = .ok (.iload 7, 2) := by decide +kernel
theorem dX12_onPlane_40 : decode cX12_onPlane 40 = .ok (.iaload, 1) := by decide +kernel
theorem dX12_onPlane_41 : decode cX12_onPlane 41 = .ok (.aload_n 0, 1) := by decide +kernel
theorem dX12_onPlane_42 : decode cX12_onPlane 42 = .ok (.getfield 7, 3) := by decide +kernel
theorem dX12_onPlane_45 : decode cX12_onPlane 45 = .ok (.iload 6, 2) := by decide +kernel
theorem dX12_onPlane_47 : decode cX12_onPlane 47 = .ok (.iaload, 1) := by decide +kernel
theorem dX12_onPlane_48 : decode cX12_onPlane 48 = .ok (.isub, 1) := by decide +kernel
theorem dX12_onPlane_49 : decode cX12_onPlane 49 = .ok (.i2l, 1) := by decide +kernel
theorem dX12_onPlane_50 : decode cX12_onPlane 50 = .ok (.aload_n 0, 1) := by decide +kernel
theorem dX12_onPlane_51 : decode cX12_onPlane 51 = .ok (.getfield 13, 3) := by decide +kernel
theorem dX12_onPlane_54 : decode cX12_onPlane 54 = .ok (.iload 7, 2) := by decide +kernel
theorem dX12_onPlane_56 : decode cX12_onPlane 56 = .ok (.iaload, 1) := by decide +kernel
theorem dX12_onPlane_57 : decode cX12_onPlane 57 = .ok (.aload_n 0, 1) := by decide +kernel
theorem dX12_onPlane_58 : decode cX12_onPlane 58 = .ok (.getfield 13, 3) := by decide +kernel
theorem dX12_onPlane_61 : decode cX12_onPlane 61 = .ok (.iload 6, 2) := by decide +kernel
theorem dX12_onPlane_63 : decode cX12_onPlane 63 = .ok (.iaload, 1) := by decide +kernel
theorem dX12_onPlane_64 : decode cX12_onPlane 64 = .ok (.isub, 1) := by decide +kernel
theorem dX12_onPlane_65 : decode cX12_onPlane 65 = .ok (.i2l, 1) := by decide +kernel
theorem dX12_onPlane_66 : decode cX12_onPlane 66 = .ok (.aload_n 0, 1) := by decide +kernel
theorem dX12_onPlane_67 : decode cX12_onPlane 67 = .ok (.getfield 7, 3) := by decide +kernel
theorem dX12_onPlane_70 : decode cX12_onPlane 70 = .ok (.iload 8, 2) := by decide +kernel
theorem dX12_onPlane_72 : decode cX12_onPlane 72 = .ok (.iaload, 1) := by decide +kernel
theorem dX12_onPlane_73 : decode cX12_onPlane 73 = .ok (.aload_n 0, 1) := by decide +kernel
theorem dX12_onPlane_74 : decode cX12_onPlane 74 = .ok (.getfield 7, 3) := by decide +kernel
theorem dX12_onPlane_77 : decode cX12_onPlane 77 = .ok (.iload 6, 2) := by decide +kernel
theorem dX12_onPlane_79 : decode cX12_onPlane 79 = .ok (.iaload, 1) := by decide +kernel
theorem dX12_onPlane_80 : decode cX12_onPlane 80 = .ok (.isub, 1) := by decide +kernel
theorem dX12_onPlane_81 : decode cX12_onPlane 81 = .ok (.i2l, 1) := by decide +kernel
theorem dX12_onPlane_82 : decode cX12_onPlane 82 = .ok (.aload_n 0, 1) := by decide +kernel
theorem dX12_onPlane_83 : decode cX12_onPlane 83 = .ok (.getfield 13, 3) := by decide +kernel
theorem dX12_onPlane_86 : decode cX12_onPlane 86 = .ok (.iload 8, 2) := by decide +kernel
theorem dX12_onPlane_88 : decode cX12_onPlane 88 = .ok (.iaload, 1) := by decide +kernel
theorem dX12_onPlane_89 : decode cX12_onPlane 89 = .ok (.aload_n 0, 1) := by decide +kernel
theorem dX12_onPlane_90 : decode cX12_onPlane 90 = .ok (.getfield 13, 3) := by decide +kernel
theorem dX12_onPlane_93 : decode cX12_onPlane 93 = .ok (.iload 6, 2) := by decide +kernel
theorem dX12_onPlane_95 : decode cX12_onPlane 95 = .ok (.iaload, 1) := by decide +kernel
theorem dX12_onPlane_96 : decode cX12_onPlane 96 = .ok (.isub, 1) := by decide +kernel
theorem dX12_onPlane_97 : decode cX12_onPlane 97 = .ok (.i2l, 1) := by decide +kernel
theorem dX12_onPlane_98 : decode cX12_onPlane 98 = .ok (.invokestatic 142, 3) := by decide +kernel
theorem dX12_onPlane_101 : decode cX12_onPlane 101 = .ok (.lstore 9, 2) := by decide +kernel
theorem dX12_onPlane_103 : decode cX12_onPlane 103 = .ok (.aload_n 0, 1) := by decide +kernel
theorem dX12_onPlane_104 : decode cX12_onPlane 104 = .ok (.getfield 7, 3) := by decide +kernel
theorem dX12_onPlane_107 : decode cX12_onPlane 107 = .ok (.iload 7, 2) := by decide +kernel
theorem dX12_onPlane_109 : decode cX12_onPlane 109 = .ok (.iaload, 1) := by decide +kernel
theorem dX12_onPlane_110 : decode cX12_onPlane 110 = .ok (.iload 4, 2) := by decide +kernel
theorem dX12_onPlane_112 : decode cX12_onPlane 112 = .ok (.isub, 1) := by decide +kernel
theorem dX12_onPlane_113 : decode cX12_onPlane 113 = .ok (.i2l, 1) := by decide +kernel
theorem dX12_onPlane_114 : decode cX12_onPlane 114 = .ok (.aload_n 0, 1) := by decide +kernel
theorem dX12_onPlane_115 : decode cX12_onPlane 115 = .ok (.getfield 13, 3) := by decide +kernel
theorem dX12_onPlane_118 : decode cX12_onPlane 118 = .ok (.iload 7, 2) := by decide +kernel
theorem dX12_onPlane_120 : decode cX12_onPlane 120 = .ok (.iaload, 1) := by decide +kernel
theorem dX12_onPlane_121 : decode cX12_onPlane 121 = .ok (.iload 5, 2) := by decide +kernel
theorem dX12_onPlane_123 : decode cX12_onPlane 123 = .ok (.isub, 1) := by decide +kernel
theorem dX12_onPlane_124 : decode cX12_onPlane 124 = .ok (.i2l, 1) := by decide +kernel
theorem dX12_onPlane_125 : decode cX12_onPlane 125 = .ok (.aload_n 0, 1) := by decide +kernel
theorem dX12_onPlane_126 : decode cX12_onPlane 126 = .ok (.getfield 7, 3) := by decide +kernel
theorem dX12_onPlane_129 : decode cX12_onPlane 129 = .ok (.iload 8, 2) := by decide +kernel
theorem dX12_onPlane_131 : decode cX12_onPlane 131 = .ok (.iaload, 1) := by decide +kernel
theorem dX12_onPlane_132 : decode cX12_onPlane 132 = .ok (.iload 4, 2) := by decide +kernel
theorem dX12_onPlane_134 : decode cX12_onPlane 134 = .ok (.isub, 1) := by decide +kernel
theorem dX12_onPlane_135 : decode cX12_onPlane 135 = .ok (.i2l, 1) := by decide +kernel
theorem dX12_onPlane_136 : decode cX12_onPlane 136 = .ok (.aload_n 0, 1) := by decide +kernel
theorem dX12_onPlane_137 : decode cX12_onPlane 137 = .ok (.getfield 13, 3) := by decide +kernel
theorem dX12_onPlane_140 : decode cX12_onPlane 140 = .ok (.iload 8, 2) := by decide +kernel
theorem dX12_onPlane_142 : decode cX12_onPlane 142 = .ok (.iaload, 1) := by decide +kernel
theorem dX12_onPlane_143 : decode cX12_onPlane 143 = .ok (.iload 5, 2) := by decide +kernel
theorem dX12_onPlane_145 : decode cX12_onPlane 145 = .ok (.isub, 1) := by decide +kernel
theorem dX12_onPlane_146 : decode cX12_onPlane 146 = .ok (.i2l, 1) := by decide +kernel
theorem dX12_onPlane_147 : decode cX12_onPlane 147 = .ok (.invokestatic 142, 3) := by decide +kernel
theorem dX12_onPlane_150 : decode cX12_onPlane 150 = .ok (.lstore 11, 2) := by decide +kernel
theorem dX12_onPlane_152 : decode cX12_onPlane 152 = .ok (.aload_n 0, 1) := by decide +kernel
theorem dX12_onPlane_153 : decode cX12_onPlane 153 = .ok (.getfield 7, 3) := by decide +kernel
theorem dX12_onPlane_156 : decode cX12_onPlane 156 = .ok (.iload 8, 2) := by decide +kernel
theorem dX12_onPlane_158 : decode cX12_onPlane 158 = .ok (.iaload, 1) := by decide +kernel
theorem dX12_onPlane_159 : decode cX12_onPlane 159 = .ok (.iload 4, 2) := by decide +kernel
theorem dX12_onPlane_161 : decode cX12_onPlane 161 = .ok (.isub, 1) := by decide +kernel
theorem dX12_onPlane_162 : decode cX12_onPlane 162 = .ok (.i2l, 1) := by decide +kernel
theorem dX12_onPlane_163 : decode cX12_onPlane 163 = .ok (.aload_n 0, 1) := by decide +kernel
theorem dX12_onPlane_164 : decode cX12_onPlane 164 = .ok (.getfield 13, 3) := by decide +kernel
theorem dX12_onPlane_167 : decode cX12_onPlane 167 = .ok (.iload 8, 2) := by decide +kernel
theorem dX12_onPlane_169 : decode cX12_onPlane 169 = .ok (.iaload, 1) := by decide +kernel
theorem dX12_onPlane_170 : decode cX12_onPlane 170 = .ok (.iload 5, 2) := by decide +kernel
theorem dX12_onPlane_172 : decode cX12_onPlane 172 = .ok (.isub, 1) := by decide +kernel
theorem dX12_onPlane_173 : decode cX12_onPlane 173 = .ok (.i2l, 1) := by decide +kernel
theorem dX12_onPlane_174 : decode cX12_onPlane 174 = .ok (.aload_n 0, 1) := by decide +kernel
theorem dX12_onPlane_175 : decode cX12_onPlane 175 = .ok (.getfield 7, 3) := by decide +kernel
theorem dX12_onPlane_178 : decode cX12_onPlane 178 = .ok (.iload 6, 2) := by decide +kernel
theorem dX12_onPlane_180 : decode cX12_onPlane 180 = .ok (.iaload, 1) := by decide +kernel
theorem dX12_onPlane_181 : decode cX12_onPlane 181 = .ok (.iload 4, 2) := by decide +kernel
theorem dX12_onPlane_183 : decode cX12_onPlane 183 = .ok (.isub, 1) := by decide +kernel
theorem dX12_onPlane_184 : decode cX12_onPlane 184 = .ok (.i2l, 1) := by decide +kernel
theorem dX12_onPlane_185 : decode cX12_onPlane 185 = .ok (.aload_n 0, 1) := by decide +kernel
theorem dX12_onPlane_186 : decode cX12_onPlane 186 = .ok (.getfield 13, 3) := by decide +kernel
theorem dX12_onPlane_189 : decode cX12_onPlane 189 = .ok (.iload 6, 2) := by decide +kernel
theorem dX12_onPlane_191 : decode cX12_onPlane 191 = .ok (.iaload, 1) := by decide +kernel
theorem dX12_onPlane_192 : decode cX12_onPlane 192 = .ok (.iload 5, 2) := by decide +kernel
theorem dX12_onPlane_194 : decode cX12_onPlane 194 = .ok (.isub, 1) := by decide +kernel
theorem dX12_onPlane_195 : decode cX12_onPlane 195 = .ok (.i2l, 1) := by decide +kernel
theorem dX12_onPlane_196 : decode cX12_onPlane 196 = .ok (.invokestatic 142, 3) := by decide +kernel
theorem dX12_onPlane_199 : decode cX12_onPlane 199 = .ok (.lstore 13, 2) := by decide +kernel
theorem dX12_onPlane_201 : decode cX12_onPlane 201 = .ok (.aload_n 0, 1) := by decide +kernel
theorem dX12_onPlane_202 : decode cX12_onPlane 202 = .ok (.getfield 7, 3) := by decide +kernel
theorem dX12_onPlane_205 : decode cX12_onPlane 205 = .ok (.iload 6, 2) := by decide +kernel
theorem dX12_onPlane_207 : decode cX12_onPlane 207 = .ok (.iaload, 1) := by decide +kernel
theorem dX12_onPlane_208 : decode cX12_onPlane 208 = .ok (.iload 4, 2) := by decide +kernel
theorem dX12_onPlane_210 : decode cX12_onPlane 210 = .ok (.isub, 1) := by decide +kernel
theorem dX12_onPlane_211 : decode cX12_onPlane 211 = .ok (.i2l, 1) := by decide +kernel
theorem dX12_onPlane_212 : decode cX12_onPlane 212 = .ok (.aload_n 0, 1) := by decide +kernel
theorem dX12_onPlane_213 : decode cX12_onPlane 213 = .ok (.getfield 13, 3) := by decide +kernel
theorem dX12_onPlane_216 : decode cX12_onPlane 216 = .ok (.iload 6, 2) := by decide +kernel
theorem dX12_onPlane_218 : decode cX12_onPlane 218 = .ok (.iaload, 1) := by decide +kernel
theorem dX12_onPlane_219 : decode cX12_onPlane 219 = .ok (.iload 5, 2) := by decide +kernel
theorem dX12_onPlane_221 : decode cX12_onPlane 221 = .ok (.isub, 1) := by decide +kernel
theorem dX12_onPlane_222 : decode cX12_onPlane 222 = .ok (.i2l, 1) := by decide +kernel
theorem dX12_onPlane_223 : decode cX12_onPlane 223 = .ok (.aload_n 0, 1) := by decide +kernel
theorem dX12_onPlane_224 : decode cX12_onPlane 224 = .ok (.getfield 7, 3) := by decide +kernel
theorem dX12_onPlane_227 : decode cX12_onPlane 227 = .ok (.iload 7, 2) := by decide +kernel
theorem dX12_onPlane_229 : decode cX12_onPlane 229 = .ok (.iaload, 1) := by decide +kernel
theorem dX12_onPlane_230 : decode cX12_onPlane 230 = .ok (.iload 4, 2) := by decide +kernel
theorem dX12_onPlane_232 : decode cX12_onPlane 232 = .ok (.isub, 1) := by decide +kernel
theorem dX12_onPlane_233 : decode cX12_onPlane 233 = .ok (.i2l, 1) := by decide +kernel
theorem dX12_onPlane_234 : decode cX12_onPlane 234 = .ok (.aload_n 0, 1) := by decide +kernel
theorem dX12_onPlane_235 : decode cX12_onPlane 235 = .ok (.getfield 13, 3) := by decide +kernel
theorem dX12_onPlane_238 : decode cX12_onPlane 238 = .ok (.iload 7, 2) := by decide +kernel
theorem dX12_onPlane_240 : decode cX12_onPlane 240 = .ok (.iaload, 1) := by decide +kernel
theorem dX12_onPlane_241 : decode cX12_onPlane 241 = .ok (.iload 5, 2) := by decide +kernel
theorem dX12_onPlane_243 : decode cX12_onPlane 243 = .ok (.isub, 1) := by decide +kernel
theorem dX12_onPlane_244 : decode cX12_onPlane 244 = .ok (.i2l, 1) := by decide +kernel
theorem dX12_onPlane_245 : decode cX12_onPlane 245 = .ok (.invokestatic 142, 3) := by decide +kernel
theorem dX12_onPlane_248 : decode cX12_onPlane 248 = .ok (.lstore 15, 2) := by decide +kernel
theorem dX12_onPlane_250 : decode cX12_onPlane 250 = .ok (.aload_n 0, 1) := by decide +kernel
theorem dX12_onPlane_251 : decode cX12_onPlane 251 = .ok (.aload_n 0, 1) := by decide +kernel
theorem dX12_onPlane_252 : decode cX12_onPlane 252 = .ok (.iload_n 1, 1) := by decide +kernel
theorem dX12_onPlane_253 : decode cX12_onPlane 253 = .ok (.iload_n 2, 1) := by decide +kernel
theorem dX12_onPlane_254 : decode cX12_onPlane 254 = .ok (.iload 6, 2) := by decide +kernel
theorem dX12_onPlane_256 : decode cX12_onPlane 256 = .ok (.invokevirtual 234, 3) := by decide +kernel
theorem dX12_onPlane_259 : decode cX12_onPlane 259 = .ok (.lload 11, 2) := by decide +kernel
theorem dX12_onPlane_261 : decode cX12_onPlane 261 = .ok (.lmul, 1) := by decide +kernel
theorem dX12_onPlane_262 : decode cX12_onPlane 262 = .ok (.aload_n 0, 1) := by decide +kernel
theorem dX12_onPlane_263 : decode cX12_onPlane 263 = .ok (.iload_n 1, 1) := by decide +kernel
theorem dX12_onPlane_264 : decode cX12_onPlane 264 = .ok (.iload_n 2, 1) := by decide +kernel
theorem dX12_onPlane_265 : decode cX12_onPlane 265 = .ok (.iload 7, 2) := by decide +kernel
theorem dX12_onPlane_267 : decode cX12_onPlane 267 = .ok (.invokevirtual 234, 3) := by decide +kernel
theorem dX12_onPlane_270 : decode cX12_onPlane 270 = .ok (.lload 13, 2) := by decide +kernel
theorem dX12_onPlane_272 : decode cX12_onPlane 272 = .ok (.lmul, 1) := by decide +kernel
theorem dX12_onPlane_273 : decode cX12_onPlane 273 = .ok (.ladd, 1) := by decide +kernel
theorem dX12_onPlane_274 : decode cX12_onPlane 274 = .ok (.aload_n 0, 1) := by decide +kernel
theorem dX12_onPlane_275 : decode cX12_onPlane 275 = .ok (.iload_n 1, 1) := by decide +kernel
theorem dX12_onPlane_276 : decode cX12_onPlane 276 = .ok (.iload_n 2, 1) := by decide +kernel
theorem dX12_onPlane_277 : decode cX12_onPlane 277 = .ok (.iload 8, 2) := by decide +kernel
theorem dX12_onPlane_279 : decode cX12_onPlane 279 = .ok (.invokevirtual 234, 3) := by decide +kernel
theorem dX12_onPlane_282 : decode cX12_onPlane 282 = .ok (.lload 15, 2) := by decide +kernel
theorem dX12_onPlane_284 : decode cX12_onPlane 284 = .ok (.lmul, 1) := by decide +kernel
theorem dX12_onPlane_285 : decode cX12_onPlane 285 = .ok (.ladd, 1) := by decide +kernel
theorem dX12_onPlane_286 : decode cX12_onPlane 286 = .ok (.lload 9, 2) := by decide +kernel
theorem dX12_onPlane_288 : decode cX12_onPlane 288 = .ok (.invokevirtual 238, 3) := by decide +kernel
theorem dX12_onPlane_291 : decode cX12_onPlane 291 = .ok (.return_, 1) := by decide +kernel
theorem dX12_pairCost_0 : decode cX12_pairCost 0 = .ok (.bipush 12, 2) := by decide +kernel
theorem dX12_pairCost_2 : decode cX12_pairCost 2 = .ok (.iload_n 1, 1) := by decide +kernel
theorem dX12_pairCost_3 : decode cX12_pairCost 3 = .ok (.imul, 1) := by decide +kernel
theorem dX12_pairCost_4 : decode cX12_pairCost 4 = .ok (.iload_n 2, 1) := by decide +kernel
theorem dX12_pairCost_5 : decode cX12_pairCost 5 = .ok (.iadd, 1) := by decide +kernel
theorem dX12_pairCost_6 : decode cX12_pairCost 6 = .ok (.istore 5, 2) := by decide +kernel
theorem dX12_pairCost_8 : decode cX12_pairCost 8 = .ok (.bipush 12, 2) := by decide +kernel
theorem dX12_pairCost_10 : decode cX12_pairCost 10 = .ok (.iload_n 3, 1) := by decide +kernel
theorem dX12_pairCost_11 : decode cX12_pairCost 11 = .ok (.imul, 1) := by decide +kernel
theorem dX12_pairCost_12 : decode cX12_pairCost 12 = .ok (.iload 4, 2) := by decide +kernel
theorem dX12_pairCost_14 : decode cX12_pairCost 14 = .ok (.iadd, 1) := by decide +kernel
theorem dX12_pairCost_15 : decode cX12_pairCost 15 = .ok (.istore 6, 2) := by decide +kernel
theorem dX12_pairCost_17 : decode cX12_pairCost 17 = .ok (.aload_n 0, 1) := by decide +kernel
theorem dX12_pairCost_18 : decode cX12_pairCost 18 = .ok (.getfield 25, 3) := by decide +kernel
theorem dX12_pairCost_21 : decode cX12_pairCost 21 = .ok (.iload 5, 2) := by decide +kernel
theorem dX12_pairCost_23 : decode cX12_pairCost 23 = .ok (.iaload, 1) := by decide +kernel
theorem dX12_pairCost_24 : decode cX12_pairCost 24 = .ok (.aload_n 0, 1) := by decide +kernel
theorem dX12_pairCost_25 : decode cX12_pairCost 25 = .ok (.getfield 25, 3) := by decide +kernel
theorem dX12_pairCost_28 : decode cX12_pairCost 28 = .ok (.iload 6, 2) := by decide +kernel
theorem dX12_pairCost_30 : decode cX12_pairCost 30 = .ok (.iaload, 1) := by decide +kernel
theorem dX12_pairCost_31 : decode cX12_pairCost 31 = .ok (.isub, 1) := by decide +kernel
theorem dX12_pairCost_32 : decode cX12_pairCost 32 = .ok (.istore 7, 2) := by decide +kernel
theorem dX12_pairCost_34 : decode cX12_pairCost 34 = .ok (.aload_n 0, 1) := by decide +kernel
theorem dX12_pairCost_35 : decode cX12_pairCost 35 = .ok (.getfield 28, 3) := by decide +kernel
theorem dX12_pairCost_38 : decode cX12_pairCost 38 = .ok (.aload_n 0, 1) := by decide +kernel
theorem dX12_pairCost_39 : decode cX12_pairCost 39 = .ok (.getfield 22, 3) := by decide +kernel
theorem dX12_pairCost_42 : decode cX12_pairCost 42 = .ok (.iload 5, 2) := by decide +kernel
theorem dX12_pairCost_44 : decode cX12_pairCost 44 = .ok (.iaload, 1) := by decide +kernel
theorem dX12_pairCost_45 : decode cX12_pairCost 45 = .ok (.iaload, 1) := by decide +kernel
theorem dX12_pairCost_46 : decode cX12_pairCost 46 = .ok (.aload_n 0, 1) := by decide +kernel
theorem dX12_pairCost_47 : decode cX12_pairCost 47 = .ok (.getfield 28, 3) := by decide +kernel
theorem dX12_pairCost_50 : decode cX12_pairCost 50 = .ok (.aload_n 0, 1) := by decide +kernel
theorem dX12_pairCost_51 : decode cX12_pairCost 51 = .ok (.getfield 22, 3) := by decide +kernel
theorem dX12_pairCost_54 : decode cX12_pairCost 54 = .ok (.iload 6, 2) := by decide +kernel
theorem dX12_pairCost_56 : decode cX12_pairCost 56 = .ok (.iaload, 1) := by decide +kernel
theorem dX12_pairCost_57 : decode cX12_pairCost 57 = .ok (.iaload, 1) := by decide +kernel
theorem dX12_pairCost_58 : decode cX12_pairCost 58 = .ok (.isub, 1) := by decide +kernel
theorem dX12_pairCost_59 : decode cX12_pairCost 59 = .ok (.istore 8, 2) := by decide +kernel
theorem dX12_pairCost_61 : decode cX12_pairCost 61 = .ok (.iload 7, 2) := by decide +kernel
theorem dX12_pairCost_63 : decode cX12_pairCost 63 = .ok (.ifCond .ge 9, 3) := by decide +kernel
theorem dX12_pairCost_66 : decode cX12_pairCost 66 = .ok (.iload 7, 2) := by decide +kernel
theorem dX12_pairCost_68 : decode cX12_pairCost 68 = .ok (.ineg, 1) := by decide +kernel
theorem dX12_pairCost_69 : decode cX12_pairCost 69 = .ok (.goto 5, 3) := by decide +kernel
theorem dX12_pairCost_72 : decode cX12_pairCost 72 = .ok (.iload 7, 2) := by decide +kernel
theorem dX12_pairCost_74 : decode cX12_pairCost 74 = .ok (.aload_n 0, 1) := by decide +kernel
theorem dX12_pairCost_75 : decode cX12_pairCost 75 = .ok (.getfield 22, 3) := by decide +kernel
theorem dX12_pairCost_78 : decode cX12_pairCost 78 = .ok (.iload 5, 2) := by decide +kernel
theorem dX12_pairCost_80 : decode cX12_pairCost 80 = .ok (.iaload, 1) := by decide +kernel
theorem dX12_pairCost_81 : decode cX12_pairCost 81 = .ok (.aload_n 0, 1) := by decide +kernel
theorem dX12_pairCost_82 : decode cX12_pairCost 82 = .ok (.getfield 22, 3) := by decide +kernel
theorem dX12_pairCost_85 : decode cX12_pairCost 85 = .ok (.iload 6, 2) := by decide +kernel
theorem dX12_pairCost_87 : decode cX12_pairCost 87 = .ok (.iaload, 1) := by decide +kernel
theorem dX12_pairCost_88 : decode cX12_pairCost 88 = .ok (.if_icmp .ne 7, 3) := by decide +kernel
theorem dX12_pairCost_91 : decode cX12_pairCost 91 = .ok (.iconst 0, 1) := by decide +kernel
theorem dX12_pairCost_92 : decode cX12_pairCost 92 = .ok (.goto 22, 3) := by decide +kernel
theorem dX12_pairCost_95 : decode cX12_pairCost 95 = .ok (.bipush 100, 2) := by decide +kernel
theorem dX12_pairCost_97 : decode cX12_pairCost 97 = .ok (.bipush 50, 2) := by decide +kernel
theorem dX12_pairCost_99 : decode cX12_pairCost 99 = .ok (.iload 8, 2) := by decide +kernel
theorem dX12_pairCost_101 : decode cX12_pairCost 101 = .ok (.ifCond .ge 9, 3) := by decide +kernel
theorem dX12_pairCost_104 : decode cX12_pairCost 104 = .ok (.iload 8, 2) := by decide +kernel
theorem dX12_pairCost_106 : decode cX12_pairCost 106 = .ok (.ineg, 1) := by decide +kernel
theorem dX12_pairCost_107 : decode cX12_pairCost 107 = .ok (.goto 5, 3) := by decide +kernel
theorem dX12_pairCost_110 : decode cX12_pairCost 110 = .ok (.iload 8, 2) := by decide +kernel
theorem dX12_pairCost_112 : decode cX12_pairCost 112 = .ok (.imul, 1) := by decide +kernel
theorem dX12_pairCost_113 : decode cX12_pairCost 113 = .ok (.iadd, 1) := by decide +kernel
theorem dX12_pairCost_114 : decode cX12_pairCost 114 = .ok (.iadd, 1) := by decide +kernel
theorem dX12_pairCost_115 : decode cX12_pairCost 115 = .ok (.ireturn, 1) := by decide +kernel
theorem dX12_read_0 : decode cX12_read 0 = .ok (.aload_n 0, 1) := by decide +kernel
theorem dX12_read_1 : decode cX12_read 1 = .ok (.iconst 0, 1) := by decide +kernel
theorem dX12_read_2 : decode cX12_read 2 = .ok (.putfield 106, 3) := by decide +kernel
theorem dX12_read_5 : decode cX12_read 5 = .ok (.aload_n 0, 1) := by decide +kernel
theorem dX12_read_6 : decode cX12_read 6 = .ok (.invokevirtual 281, 3) := by decide +kernel
theorem dX12_read_9 : decode cX12_read 9 = .ok (.aload_n 0, 1) := by decide +kernel
theorem dX12_read_10 : decode cX12_read 10 = .ok (.invokevirtual 284, 3) := by decide +kernel
theorem dX12_read_13 : decode cX12_read 13 = .ok (.istore_n 1, 1) := by decide +kernel
theorem dX12_read_14 : decode cX12_read 14 = .ok (.aload_n 0, 1) := by decide +kernel
theorem dX12_read_15 : decode cX12_read 15 = .ok (.iconst 0, 1) := by decide +kernel
theorem dX12_read_16 : decode cX12_read 16 = .ok (.putfield 263, 3) := by decide +kernel
theorem dX12_read_19 : decode cX12_read 19 = .ok (.iload_n 1, 1) := by decide +kernel
theorem dX12_read_20 : decode cX12_read 20 = .ok (.iconst (-1), 1) := by decide +kernel
theorem dX12_read_21 : decode cX12_read 21 = .ok (.if_icmp .eq 7, 3) := by decide +kernel
theorem dX12_read_24 : decode cX12_read 24 = .ok (.iconst (-1), 1) := by decide +kernel
theorem dX12_read_25 : decode cX12_read 25 = .ok (.iload_n 1, 1) := by decide +kernel
theorem dX12_read_26 : decode cX12_read 26 = .ok (.isub, 1) := by decide +kernel
theorem dX12_read_27 : decode cX12_read 27 = .ok (.ireturn, 1) := by decide +kernel
theorem dX12_read_28 : decode cX12_read 28 = .ok (.iconst 0, 1) := by decide +kernel
theorem dX12_read_29 : decode cX12_read 29 = .ok (.istore_n 2, 1) := by decide +kernel
theorem dX12_read_30 : decode cX12_read 30 = .ok (.iload_n 2, 1) := by decide +kernel
theorem dX12_read_31 : decode cX12_read 31 = .ok (.aload_n 0, 1) := by decide +kernel
theorem dX12_read_32 : decode cX12_read 32 = .ok (.getfield 269, 3) := by decide +kernel
theorem dX12_read_35 : decode cX12_read 35 = .ok (.if_icmp .ge 152, 3) := by decide +kernel
theorem dX12_read_38 : decode cX12_read 38 = .ok (.aload_n 0, 1) := by decide +kernel
theorem dX12_read_39 : decode cX12_read 39 = .ok (.getfield 7, 3) := by decide +kernel
theorem dX12_read_42 : decode cX12_read 42 = .ok (.aload_n 0, 1) := by decide +kernel
theorem dX12_read_43 : decode cX12_read 43 = .ok (.getfield 113, 3) := by decide +kernel
theorem dX12_read_46 : decode cX12_read 46 = .ok (.aload_n 0, 1) := by decide +kernel
theorem dX12_read_47 : decode cX12_read 47 = .ok (.getfield 88, 3) := by decide +kernel
theorem dX12_read_50 : decode cX12_read 50 = .ok (.iload_n 2, 1) := by decide +kernel
theorem dX12_read_51 : decode cX12_read 51 = .ok (.iaload, 1) := by decide +kernel
theorem dX12_read_52 : decode cX12_read 52 = .ok (.iastore, 1) := by decide +kernel
theorem dX12_read_53 : decode cX12_read 53 = .ok (.aload_n 0, 1) := by decide +kernel
theorem dX12_read_54 : decode cX12_read 54 = .ok (.getfield 13, 3) := by decide +kernel
theorem dX12_read_57 : decode cX12_read 57 = .ok (.aload_n 0, 1) := by decide +kernel
theorem dX12_read_58 : decode cX12_read 58 = .ok (.getfield 113, 3) := by decide +kernel
theorem dX12_read_61 : decode cX12_read 61 = .ok (.aload_n 0, 1) := by decide +kernel
theorem dX12_read_62 : decode cX12_read 62 = .ok (.getfield 91, 3) := by decide +kernel
theorem dX12_read_65 : decode cX12_read 65 = .ok (.iload_n 2, 1) := by decide +kernel
theorem dX12_read_66 : decode cX12_read 66 = .ok (.iaload, 1) := by decide +kernel
theorem dX12_read_67 : decode cX12_read 67 = .ok (.iastore, 1) := by decide +kernel
theorem dX12_read_68 : decode cX12_read 68 = .ok (.aload_n 0, 1) := by decide +kernel
theorem dX12_read_69 : decode cX12_read 69 = .ok (.getfield 16, 3) := by decide +kernel
theorem dX12_read_72 : decode cX12_read 72 = .ok (.aload_n 0, 1) := by decide +kernel
theorem dX12_read_73 : decode cX12_read 73 = .ok (.getfield 113, 3) := by decide +kernel
theorem dX12_read_76 : decode cX12_read 76 = .ok (.aload_n 0, 1) := by decide +kernel
theorem dX12_read_77 : decode cX12_read 77 = .ok (.getfield 94, 3) := by decide +kernel
theorem dX12_read_80 : decode cX12_read 80 = .ok (.iload_n 2, 1) := by decide +kernel
theorem dX12_read_81 : decode cX12_read 81 = .ok (.iaload, 1) := by decide +kernel
theorem dX12_read_82 : decode cX12_read 82 = .ok (.iastore, 1) := by decide +kernel
theorem dX12_read_83 : decode cX12_read 83 = .ok (.aload_n 0, 1) := by decide +kernel
theorem dX12_read_84 : decode cX12_read 84 = .ok (.getfield 19, 3) := by decide +kernel
theorem dX12_read_87 : decode cX12_read 87 = .ok (.aload_n 0, 1) := by decide +kernel
theorem dX12_read_88 : decode cX12_read 88 = .ok (.getfield 113, 3) := by decide +kernel
theorem dX12_read_91 : decode cX12_read 91 = .ok (.aload_n 0, 1) := by decide +kernel
theorem dX12_read_92 : decode cX12_read 92 = .ok (.getfield 97, 3) := by decide +kernel
theorem dX12_read_95 : decode cX12_read 95 = .ok (.iload_n 2, 1) := by decide +kernel
theorem dX12_read_96 : decode cX12_read 96 = .ok (.iaload, 1) := by decide +kernel
theorem dX12_read_97 : decode cX12_read 97 = .ok (.iastore, 1) := by decide +kernel
theorem dX12_read_98 : decode cX12_read 98 = .ok (.iconst 0, 1) := by decide +kernel
theorem dX12_read_99 : decode cX12_read 99 = .ok (.istore_n 3, 1) := by decide +kernel
theorem dX12_read_100 : decode cX12_read 100 = .ok (.iload_n 3, 1) := by decide +kernel
theorem dX12_read_101 : decode cX12_read 101 = .ok (.aload_n 0, 1) := by decide +kernel
theorem dX12_read_102 : decode cX12_read 102 = .ok (.getfield 97, 3) := by decide +kernel
theorem dX12_read_105 : decode cX12_read 105 = .ok (.iload_n 2, 1) := by decide +kernel
theorem dX12_read_106 : decode cX12_read 106 = .ok (.iaload, 1) := by decide +kernel
theorem dX12_read_107 : decode cX12_read 107 = .ok (.if_icmp .ge 59, 3) := by decide +kernel
theorem dX12_read_110 : decode cX12_read 110 = .ok (.aload_n 0, 1) := by decide +kernel
theorem dX12_read_111 : decode cX12_read 111 = .ok (.getfield 22, 3) := by decide +kernel
theorem dX12_read_114 : decode cX12_read 114 = .ok (.bipush 12, 2) := by decide +kernel
theorem dX12_read_116 : decode cX12_read 116 = .ok (.aload_n 0, 1) := by decide +kernel
theorem dX12_read_117 : decode cX12_read 117 = .ok (.getfield 113, 3) := by decide +kernel
theorem dX12_read_120 : decode cX12_read 120 = .ok (.imul, 1) := by decide +kernel
theorem dX12_read_121 : decode cX12_read 121 = .ok (.iload_n 3, 1) := by decide +kernel
theorem dX12_read_122 : decode cX12_read 122 = .ok (.iadd, 1) := by decide +kernel
theorem dX12_read_123 : decode cX12_read 123 = .ok (.aload_n 0, 1) := by decide +kernel
theorem dX12_read_124 : decode cX12_read 124 = .ok (.getfield 100, 3) := by decide +kernel
theorem dX12_read_127 : decode cX12_read 127 = .ok (.bipush 12, 2) := by decide +kernel
theorem dX12_read_129 : decode cX12_read 129 = .ok (.iload_n 2, 1) := by decide +kernel
theorem dX12_read_130 : decode cX12_read 130 = .ok (.imul, 1) := by decide +kernel
theorem dX12_read_131 : decode cX12_read 131 = .ok (.iload_n 3, 1) := by decide +kernel
theorem dX12_read_132 : decode cX12_read 132 = .ok (.iadd, 1) := by decide +kernel
theorem dX12_read_133 : decode cX12_read 133 = .ok (.iaload, 1) := by decide +kernel
theorem dX12_read_134 : decode cX12_read 134 = .ok (.iastore, 1) := by decide +kernel
theorem dX12_read_135 : decode cX12_read 135 = .ok (.aload_n 0, 1) := by decide +kernel
theorem dX12_read_136 : decode cX12_read 136 = .ok (.getfield 25, 3) := by decide +kernel
theorem dX12_read_139 : decode cX12_read 139 = .ok (.bipush 12, 2) := by decide +kernel
theorem dX12_read_141 : decode cX12_read 141 = .ok (.aload_n 0, 1) := by decide +kernel
theorem dX12_read_142 : decode cX12_read 142 = .ok (.getfield 113, 3) := by decide +kernel
theorem dX12_read_145 : decode cX12_read 145 = .ok (.imul, 1) := by decide +kernel
theorem dX12_read_146 : decode cX12_read 146 = .ok (.iload_n 3, 1) := by decide +kernel
theorem dX12_read_147 : decode cX12_read 147 = .ok (.iadd, 1) := by decide +kernel
theorem dX12_read_148 : decode cX12_read 148 = .ok (.aload_n 0, 1) := by decide +kernel
theorem dX12_read_149 : decode cX12_read 149 = .ok (.getfield 103, 3) := by decide +kernel
theorem dX12_read_152 : decode cX12_read 152 = .ok (.bipush 12, 2) := by decide +kernel
theorem dX12_read_154 : decode cX12_read 154 = .ok (.iload_n 2, 1) := by decide +kernel
theorem dX12_read_155 : decode cX12_read 155 = .ok (.imul, 1) := by decide +kernel
theorem dX12_read_156 : decode cX12_read 156 = .ok (.iload_n 3, 1) := by decide +kernel
theorem dX12_read_157 : decode cX12_read 157 = .ok (.iadd, 1) := by decide +kernel
theorem dX12_read_158 : decode cX12_read 158 = .ok (.iaload, 1) := by decide +kernel
theorem dX12_read_159 : decode cX12_read 159 = .ok (.iastore, 1) := by decide +kernel
theorem dX12_read_160 : decode cX12_read 160 = .ok (.iinc 3 1, 3) := by decide +kernel
theorem dX12_read_163 : decode cX12_read 163 = .ok (.goto (-63), 3) := by decide +kernel
theorem dX12_read_166 : decode cX12_read 166 = .ok (.aload_n 0, 1) := by decide +kernel
theorem dX12_read_167 : decode cX12_read 167 = .ok (.dup, 1) := by decide +kernel
theorem dX12_read_168 : decode cX12_read 168 = .ok (.getfield 113, 3) := by decide +kernel
theorem dX12_read_171 : decode cX12_read 171 = .ok (.iconst 1, 1) := by decide +kernel
theorem dX12_read_172 : decode cX12_read 172 = .ok (.iadd, 1) := by decide +kernel
theorem dX12_read_173 : decode cX12_read 173 = .ok (.putfield 113, 3) := by decide +kernel
theorem dX12_read_176 : decode cX12_read 176 = .ok (.aload_n 0, 1) := by decide +kernel
theorem dX12_read_177 : decode cX12_read 177 = .ok (.iconst 0, 1) := by decide +kernel
theorem dX12_read_178 : decode cX12_read 178 = .ok (.putfield 125, 3) := by decide +kernel
theorem dX12_read_181 : decode cX12_read 181 = .ok (.iinc 2 1, 3) := by decide +kernel
theorem dX12_read_184 : decode cX12_read 184 = .ok (.goto (-154), 3) := by decide +kernel
theorem dX12_read_187 : decode cX12_read 187 = .ok (.aload_n 0, 1) := by decide +kernel
theorem dX12_read_188 : decode cX12_read 188 = .ok (.getfield 269, 3) := by decide +kernel
theorem dX12_read_191 : decode cX12_read 191 = .ok (.ireturn, 1) := by decide +kernel
