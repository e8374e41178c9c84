theorem dX12_at_0 : decode cX12_at 0 = .ok (.bipush 13, 2) := by decide +kernel
theorem dX12_at_2 : decode cX12_at 2 = .ok (.iload_n 0, 1) := by decide +kernel
theorem dX12_at_3 : decode cX12_at 3 = .ok (.imul, 1) := by decide +kernel
theorem dX12_at_4 : decode cX12_at 4 = .ok (.iload_n 1, 1) := by decide +kernel
theorem dX12_at_5 : decode cX12_at 5 = .ok (.iadd, 1) := by decide +kernel
theorem dX12_at_6 : decode cX12_at 6 = .ok (.ireturn, 1) := by decide +kernel
theorem dX12_at__0 : decode cX12_at_ 0 = .ok (.aload_n 0, 1) := by decide +kernel
theorem dX12_at__1 : decode cX12_at_ 1 = .ok (.invokevirtual 219, 3) := by decide +kernel
theorem dX12_at__4 : decode cX12_at_ 4 = .ok (.ifCond .ne 61, 3) := by decide +kernel
theorem dX12_at__7 : decode cX12_at_ 7 = .ok (.aload_n 0, 1) := by decide +kernel
theorem dX12_at__8 : decode cX12_at_ 8 = .ok (.iload_n 1, 1) := by decide +kernel
theorem dX12_at__9 : decode cX12_at_ 9 = .ok (.iconst 0, 1) := by decide +kernel
theorem dX12_at__10 : decode cX12_at_ 10 = .ok (.aload_n 0, 1) := by decide +kernel
theorem dX12_at__11 : decode cX12_at_ 11 = .ok (.getfield 196, 3) := by decide +kernel
theorem dX12_at__14 : decode cX12_at_ 14 = .ok (.iconst 1, 1) := by decide +kernel
theorem dX12_at__15 : decode cX12_at_ 15 = .ok (.isub, 1) := by decide +kernel
theorem dX12_at__16 : decode cX12_at_ 16 = .ok (.invokestatic 109, 3) := by decide +kernel
theorem dX12_at__19 : decode cX12_at_ 19 = .ok (.ifCond .ne 7, 3) := by decide +kernel
theorem dX12_at__22 : decode cX12_at_ 22 = .ok (.iconst 1, 1) := by decide +kernel
theorem dX12_at__23 : decode cX12_at_ 23 = .ok (.goto 4, 3) := by decide +kernel
theorem dX12_at__26 : decode cX12_at_ 26 = .ok (.iconst 0, 1) := by decide +kernel
theorem dX12_at__27 : decode cX12_at_ 27 = .ok (.iconst 2, 1) := by decide +kernel
theorem dX12_at__28 : decode cX12_at_ 28 = .ok (.invokevirtual 215, 3) := by decide +kernel
theorem dX12_at__31 : decode cX12_at_ 31 = .ok (.ifCond .ne 34, 3) := by decide +kernel
theorem dX12_at__34 : decode cX12_at_ 34 = .ok (.aload_n 0, 1) := by decide +kernel
theorem dX12_at__35 : decode cX12_at_ 35 = .ok (.iload_n 2, 1) := by decide +kernel
theorem dX12_at__36 : decode cX12_at_ 36 = .ok (.iload_n 3, 1) := by decide +kernel
theorem dX12_at__37 : decode cX12_at_ 37 = .ok (.invokestatic 116, 3) := by decide +kernel
theorem dX12_at__40 : decode cX12_at_ 40 = .ok (.ifCond .eq 13, 3) := by decide +kernel
theorem dX12_at__43 : decode cX12_at_ 43 = .ok (.iload 4, 2) := by decide +kernel
theorem dX12_at__45 : decode cX12_at_ 45 = .ok (.iconst 0, 1) := by decide +kernel
theorem dX12_at__46 : decode cX12_at_ 46 = .ok (.iconst 1, 1) := by decide +kernel
theorem dX12_at__47 : decode cX12_at_ 47 = .ok (.invokestatic 109, 3) := by decide +kernel
theorem dX12_at__50 : decode cX12_at_ 50 = .ok (.ifCond .ne 7, 3) := by decide +kernel
theorem dX12_at__53 : decode cX12_at_ 53 = .ok (.iconst 1, 1) := by decide +kernel
theorem dX12_at__54 : decode cX12_at_ 54 = .ok (.goto 4, 3) := by decide +kernel
theorem dX12_at__57 : decode cX12_at_ 57 = .ok (.iconst 0, 1) := by decide +kernel
theorem dX12_at__58 : decode cX12_at_ 58 = .ok (.iconst 3, 1) := by decide +kernel
theorem dX12_at__59 : decode cX12_at_ 59 = .ok (.invokevirtual 215, 3) := by decide +kernel
theorem dX12_at__62 : decode cX12_at_ 62 = .ok (.ifCond .eq 5, 3) := by decide +kernel
theorem dX12_at__65 : decode cX12_at_ 65 = .ok (.lconst 0, 1) := by decide +kernel
theorem dX12_at__66 : decode cX12_at_ 66 = .ok (.lreturn, 1) := by decide +kernel
theorem dX12_at__67 : decode cX12_at_ 67 = .ok (.aload_n 0, 1) := by decide +kernel
theorem dX12_at__68 : decode cX12_at_ 68 = .ok (.iload_n 1, 1) := by decide +kernel
theorem dX12_at__69 : decode cX12_at_ 69 = .ok (.iconst (-1), 1) := by decide +kernel
theorem dX12_at__70 : decode cX12_at_ 70 = .ok (.iload_n 2, 1) := by decide +kernel
theorem dX12_at__71 : decode cX12_at_ 71 = .ok (.iload_n 3, 1) := by decide +kernel
theorem dX12_at__72 : decode cX12_at_ 72 = .ok (.invokevirtual 249, 3) := by decide +kernel
theorem dX12_at__75 : decode cX12_at_ 75 = .ok (.iload 4, 2) := by decide +kernel
theorem dX12_at__77 : decode cX12_at_ 77 = .ok (.ifCond .ne 10, 3) := by decide +kernel
theorem dX12_at__80 : decode cX12_at_ 80 = .ok (.aload_n 0, 1) := by decide +kernel
theorem dX12_at__81 : decode cX12_at_ 81 = .ok (.getfield 227, 3) := by decide +kernel
theorem dX12_at__84 : decode cX12_at_ 84 = .ok (.goto 7, 3) := by decide +kernel
theorem dX12_at__87 : decode cX12_at_ 87 = .ok (.aload_n 0, 1) := by decide +kernel
theorem dX12_at__88 : decode cX12_at_ 88 = .ok (.getfield 231, 3) := by decide +kernel
theorem dX12_at__91 : decode cX12_at_ 91 = .ok (.lreturn, 1) := by decide +kernel
theorem dX12_bed_0 : decode cX12_bed 0 = .ok (.aload_n 0, 1) := by decide +kernel
theorem dX12_bed_1 : decode cX12_bed 1 = .ok (.invokevirtual 219, 3) := by decide +kernel
theorem dX12_bed_4 : decode cX12_bed 4 = .ok (.ifCond .ne 52, 3) := by decide +kernel
theorem dX12_bed_7 : decode cX12_bed 7 = .ok (.aload_n 0, 1) := by decide +kernel
theorem dX12_bed_8 : decode cX12_bed 8 = .ok (.iload_n 1, 1) := by decide +kernel
theorem dX12_bed_9 : decode cX12_bed 9 = .ok (.iconst 0, 1) := by decide +kernel
theorem dX12_bed_10 : decode cX12_bed 10 = .ok (.aload_n 0, 1) := by decide +kernel
theorem dX12_bed_11 : decode cX12_bed 11 = .ok (.getfield 196, 3) := by decide +kernel
theorem dX12_bed_14 : decode cX12_bed 14 = .ok (.iconst 1, 1) := by decide +kernel
theorem dX12_bed_15 : decode cX12_bed 15 = .ok (.isub, 1) := by decide +kernel
theorem dX12_bed_16 : decode cX12_bed 16 = .ok (.invokestatic 109, 3) := by decide +kernel
theorem dX12_bed_19 : decode cX12_bed 19 = .ok (.ifCond .ne 7, 3) := by decide +kernel
theorem dX12_bed_22 : decode cX12_bed 22 = .ok (.iconst 1, 1) := by decide +kernel
theorem dX12_bed_23 : decode cX12_bed 23 = .ok (.goto 4, 3) := by decide +kernel
theorem dX12_bed_26 : decode cX12_bed 26 = .ok (.iconst 0, 1) := by decide +kernel
theorem dX12_bed_27 : decode cX12_bed 27 = .ok (.iconst 2, 1) := by decide +kernel
theorem dX12_bed_28 : decode cX12_bed 28 = .ok (.invokevirtual 215, 3) := by decide +kernel
theorem dX12_bed_31 : decode cX12_bed 31 = .ok (.ifCond .ne 25, 3) := by decide +kernel
theorem dX12_bed_34 : decode cX12_bed 34 = .ok (.aload_n 0, 1) := by decide +kernel
theorem dX12_bed_35 : decode cX12_bed 35 = .ok (.iload_n 2, 1) := by decide +kernel
theorem dX12_bed_36 : decode cX12_bed 36 = .ok (.iconst 0, 1) := by decide +kernel
theorem dX12_bed_37 : decode cX12_bed 37 = .ok (.iconst 4, 1) := by decide +kernel
theorem dX12_bed_38 : decode cX12_bed 38 = .ok (.invokestatic 109, 3) := by decide +kernel
theorem dX12_bed_41 : decode cX12_bed 41 = .ok (.ifCond .ne 7, 3) := by decide +kernel
theorem dX12_bed_44 : decode cX12_bed 44 = .ok (.iconst 1, 1) := by decide +kernel
theorem dX12_bed_45 : decode cX12_bed 45 = .ok (.goto 4, 3) := by decide +kernel
theorem dX12_bed_48 : decode cX12_bed 48 = .ok (.iconst 0, 1) := by decide +kernel
theorem dX12_bed_49 : decode cX12_bed 49 = .ok (.iconst 3, 1) := by decide +kernel
theorem dX12_bed_50 : decode cX12_bed 50 = .ok (.invokevirtual 215, 3) := by decide +kernel
theorem dX12_bed_53 : decode cX12_bed 53 = .ok (.ifCond .eq 5, 3) := by decide +kernel
theorem dX12_bed_56 : decode cX12_bed 56 = .ok (.iconst 0, 1) := by decide +kernel
theorem dX12_bed_57 : decode cX12_bed 57 = .ok (.ireturn, 1) := by decide +kernel
theorem dX12_bed_58 : decode cX12_bed 58 = .ok (.iconst 0, 1) := by decide +kernel
theorem dX12_bed_59 : decode cX12_bed 59 = .ok (.istore_n 3, 1) := by decide +kernel
theorem dX12_bed_60 : decode cX12_bed 60 = .ok (.iconst 0, 1) := by decide +kernel
theorem dX12_bed_61 : decode cX12_bed 61 = .ok (.istore 4, 2) := by decide +kernel
theorem dX12_bed_63 : decode cX12_bed 63 = .ok (.iconst 0, 1) := by decide +kernel
theorem dX12_bed_64 : decode cX12_bed 64 = .ok (.istore 5, 2) := by decide +kernel
theorem dX12_bed_66 : decode cX12_bed 66 = .ok (.iload 5, 2) := by decide +kernel
theorem dX12_bed_68 : decode cX12_bed 68 = .ok (.aload_n 0, 1) := by decide +kernel
theorem dX12_bed_69 : decode cX12_bed 69 = .ok (.getfield 113, 3) := by decide +kernel
theorem dX12_bed_72 : decode cX12_bed 72 = .ok (.if_icmp .ge 80, 3) := by decide +kernel
theorem dX12_bed_75 : decode cX12_bed 75 = .ok (.iconst 0, 1) := by decide +kernel
theorem dX12_bed_76 : decode cX12_bed 76 = .ok (.istore 6, 2) := by decide +kernel
theorem dX12_bed_78 : decode cX12_bed 78 = .ok (.iconst 0, 1) := by decide +kernel
theorem dX12_bed_79 : decode cX12_bed 79 = .ok (.istore 7, 2) := by decide +kernel
theorem dX12_bed_81 : decode cX12_bed 81 = .ok (.iload 7, 2) := by decide +kernel
theorem dX12_bed_83 : decode cX12_bed 83 = .ok (.aload_n 0, 1) := by decide +kernel
theorem dX12_bed_84 : decode cX12_bed 84 = .ok (.getfield 19, 3) := by decide +kernel
theorem dX12_bed_87 : decode cX12_bed 87 = .ok (.iload 5, 2) := by decide +kernel
theorem dX12_bed_89 : decode cX12_bed 89 = .ok (.iaload, 1) := by decide +kernel
theorem dX12_bed_90 : decode cX12_bed 90 = .ok (.if_icmp .ge 36, 3) := by decide +kernel
theorem dX12_bed_93 : decode cX12_bed 93 = .ok (.iload 6, 2) := by decide +kernel
theorem dX12_bed_95 : decode cX12_bed 95 = .ok (.aload_n 0, 1) := by decide +kernel
theorem dX12_bed_96 : decode cX12_bed 96 = .ok (.getfield 63, 3) := by decide +kernel
theorem dX12_bed_99 : decode cX12_bed 99 = .ok (.bipush 12, 2) := by decide +kernel
theorem dX12_bed_101 : decode cX12_bed 101 = .ok (.iload 5, 2) := by decide +kernel
theorem dX12_bed_103 : decode cX12_bed 103 = .ok (.imul, 1) := by decide +kernel
theorem dX12_bed_104 : decode cX12_bed 104 = .ok (.iload 7, 2) := by decide +kernel
theorem dX12_bed_106 : decode cX12_bed 106 = .ok (.iadd, 1) := by decide +kernel
theorem dX12_bed_107 : decode cX12_bed 107 = .ok (.iaload, 1) := by decide +kernel
theorem dX12_bed_108 : decode cX12_bed 108 = .ok (.iload_n 1, 1) := by decide +kernel
theorem dX12_bed_109 : decode cX12_bed 109 = .ok (.if_icmp .ne 7, 3) := by decide +kernel
theorem dX12_bed_112 : decode cX12_bed 112 = .ok (.iconst 1, 1) := by decide +kernel
theorem dX12_bed_113 : decode cX12_bed 113 = .ok (.goto 4, 3) := by decide +kernel
theorem dX12_bed_116 : decode cX12_bed 116 = .ok (.iconst 0, 1) := by decide +kernel
theorem dX12_bed_117 : decode cX12_bed 117 = .ok (.iadd, 1) := by decide +kernel
theorem dX12_bed_118 : decode cX12_bed 118 = .ok (.istore 6, 2) := by decide +kernel
theorem dX12_bed_120 : decode cX12_bed 120 = .ok (.iinc 7 1, 3) := by decide +kernel
theorem dX12_bed_123 : decode cX12_bed 123 = .ok (.goto (-42), 3) := by decide +kernel
theorem dX12_bed_126 : decode cX12_bed 126 = .ok (.iload 4, 2) := by decide +kernel
theorem dX12_bed_128 : decode cX12_bed 128 = .ok (.iload 6, 2) := by decide +kernel
theorem dX12_bed_130 : decode cX12_bed 130 = .ok (.iadd, 1) := by decide +kernel
theorem dX12_bed_131 : decode cX12_bed 131 = .ok (.istore 4, 2) := by decide +kernel
theorem dX12_bed_133 : decode cX12_bed 133 = .ok (.iload_n 3, 1) := by decide +kernel
theorem dX12_bed_134 : decode cX12_bed 134 = .ok (.iload 6, 2) := by decide +kernel
theorem dX12_bed_136 : decode cX12_bed 136 = .ok (.ifCond .le 7, 3) := by decide +kernel
theorem dX12_bed_139 : decode cX12_bed 139 = .ok (.iconst 1, 1) := by decide +kernel
theorem dX12_bed_140 : decode cX12_bed 140 = .ok (.goto 4, 3) := by decide +kernel
theorem dX12_bed_143 : decode cX12_bed 143 = .ok (.iconst 0, 1) := by decide +kernel
theorem dX12_bed_144 : decode cX12_bed 144 = .ok (.iadd, 1) := by decide +kernel
theorem dX12_bed_145 : decode cX12_bed 145 = .ok (.istore_n 3, 1) := by decide +kernel
theorem dX12_bed_146 : decode cX12_bed 146 = .ok (.iinc 5 1, 3) := by decide +kernel
theorem dX12_bed_149 : decode cX12_bed 149 = .ok (.goto (-83), 3) := by decide +kernel
theorem dX12_bed_152 : decode cX12_bed 152 = .ok (.iload_n 2, 1) := by decide +kernel
theorem dX12_bed_153 : decode cX12_bed 153 = .ok (.ifCond .ne 17, 3) := by decide +kernel
theorem dX12_bed_156 : decode cX12_bed 156 = .ok (.aload_n 0, 1) := by decide +kernel
theorem dX12_bed_157 : decode cX12_bed 157 = .ok (.getfield 22, 3) := by decide +kernel
theorem dX12_bed_160 : decode cX12_bed 160 = .ok (.aload_n 0, 1) := by decide +kernel
theorem dX12_bed_161 : decode cX12_bed 161 = .ok (.getfield 66, 3) := by decide +kernel
theorem dX12_bed_164 : decode cX12_bed 164 = .ok (.iload_n 1, 1) := by decide +kernel
theorem dX12_bed_165 : decode cX12_bed 165 = .ok (.iaload, 1) := by decide +kernel
theorem dX12_bed_166 : decode cX12_bed 166 = .ok (.iaload, 1) := by decide +kernel
theorem dX12_bed_167 : decode cX12_bed 167 = .ok (.goto 48, 3) := by decide +kernel
theorem dX12_bed_170 : decode cX12_bed 170 = .ok (.iload_n 2, 1) := by decide +kernel
theorem dX12_bed_171 : decode cX12_bed 171 = .ok (.iconst 1, 1) := by decide +kernel
theorem dX12_bed_172 : decode cX12_bed 172 = .ok (.if_icmp .ne 7, 3) := by decide +kernel
theorem dX12_bed_175 : decode cX12_bed 175 = .ok (.iload_n 3, 1) := by decide +kernel
theorem dX12_bed_176 : decode cX12_bed 176 = .ok (.goto 39, 3) := by decide +kernel
theorem dX12_bed_179 : decode cX12_bed 179 = .ok (.iload_n 2, 1) := by decide +kernel
theorem dX12_bed_180 : decode cX12_bed 180 = .ok (.iconst 2, 1) := by decide +kernel
theorem dX12_bed_181 : decode cX12_bed 181 = .ok (.if_icmp .ne 8, 3) := by decide +kernel
theorem dX12_bed_184 : decode cX12_bed 184 = .ok (.iload 4, 2) := by decide +kernel
theorem dX12_bed_186 : decode cX12_bed 186 = .ok (.goto 29, 3) := by decide +kernel
theorem dX12_bed_189 : decode cX12_bed 189 = .ok (.iload_n 2, 1) := by decide +kernel
theorem dX12_bed_190 : decode cX12_bed 190 = .ok (.iconst 3, 1) := by decide +kernel
theorem dX12_bed_191 : decode cX12_bed 191 = .ok (.if_icmp .ne 15, 3) := by decide +kernel
theorem dX12_bed_194 : decode cX12_bed 194 = .ok (.aload_n 0, 1) := by decide +kernel
theorem dX12_bed_195 : decode cX12_bed 195 = .ok (.getfield 66, 3) := by decide +kernel
theorem dX12_bed_198 : decode cX12_bed 198 = .ok (.iload_n 1, 1) := by decide +kernel
theorem dX12_bed_199 : decode cX12_bed 199 = .ok (.iaload, 1) := by decide +kernel
theorem dX12_bed_200 : decode cX12_bed 200 = .ok (.bipush 12, 2) := by decide +kernel
theorem dX12_bed_202 : decode cX12_bed 202 = .ok (.idiv, 1) := by decide +kernel
theorem dX12_bed_203 : decode cX12_bed 203 = .ok (.goto 12, 3) := by decide +kernel
theorem dX12_bed_206 : decode cX12_bed 206 = .ok (.aload_n 0, 1) := by decide +kernel
theorem dX12_bed_207 : decode cX12_bed 207 = .ok (.getfield 66, 3) := by decide +kernel
theorem dX12_bed_210 : decode cX12_bed 210 = .ok (.iload_n 1, 1) := by decide +kernel
theorem dX12_bed_211 : decode cX12_bed 211 = .ok (.iaload, 1) := by decide +kernel
theorem dX12_bed_212 : decode cX12_bed 212 = .ok (.bipush 12, 2) := by decide +kernel
theorem dX12_bed_214 : decode cX12_bed 214 = .ok (.irem, 1) := by decide +kernel
theorem dX12_bed_215 : decode cX12_bed 215 = .ok (.ireturn, 1) := by decide +kernel
theorem dX12_bedOf_0 : decode cX12_bedOf 0 = .ok (.aload_n 0, 1) := by decide +kernel
theorem dX12_bedOf_1 : decode cX12_bedOf 1 = .ok (.invokevirtual 219, 3) := by decide +kernel
theorem dX12_bedOf_4 : decode cX12_bedOf 4 = .ok (.ifCond .ne 40, 3) := by decide +kernel
theorem dX12_bedOf_7 : decode cX12_bedOf 7 = .ok (.aload_n 0, 1) := by decide +kernel
theorem dX12_bedOf_8 : decode cX12_bedOf 8 = .ok (.aload_n 0, 1) := by decide +kernel
theorem dX12_bedOf_9 : decode cX12_bedOf 9 = .ok (.iload_n 1, 1) := by decide +kernel
theorem dX12_bedOf_10 : decode cX12_bedOf 10 = .ok (.invokevirtual 129, 3) := by decide +kernel
theorem dX12_bedOf_13 : decode cX12_bedOf 13 = .ok (.ifCond .eq 19, 3) := by decide +kernel
theorem dX12_bedOf_16 : decode cX12_bedOf 16 = .ok (.iload_n 2, 1) := by decide +kernel
theorem dX12_bedOf_17 : decode cX12_bedOf 17 = .ok (.iconst 0, 1) := by decide +kernel
theorem dX12_bedOf_18 : decode cX12_bedOf 18 = .ok (.aload_n 0, 1) := by decide +kernel
theorem dX12_bedOf_19 : decode cX12_bedOf 19 = .ok (.getfield 19, 3) := by decide +kernel
theorem dX12_bedOf_22 : decode cX12_bedOf 22 = .ok (.iload_n 1, 1) := by decide +kernel
theorem dX12_bedOf_23 : decode cX12_bedOf 23 = .ok (.iaload, 1) := by decide +kernel
theorem dX12_bedOf_24 : decode cX12_bedOf 24 = .ok (.iconst 1, 1) := by decide +kernel
theorem dX12_bedOf_25 : decode cX12_bedOf 25 = .ok (.isub, 1) := by decide +kernel
theorem dX12_bedOf_26 : decode cX12_bedOf 26 = .ok (.invokestatic 109, 3) := by decide +kernel
theorem dX12_bedOf_29 : decode cX12_bedOf 29 = .ok (.ifCond .ne 7, 3) := by decide +kernel
theorem dX12_bedOf_32 : decode cX12_bedOf 32 = .ok (.iconst 1, 1) := by decide +kernel
theorem dX12_bedOf_33 : decode cX12_bedOf 33 = .ok (.goto 4, 3) := by decide +kernel
theorem dX12_bedOf_36 : decode cX12_bedOf 36 = .ok (.iconst 0, 1) := by decide +kernel
theorem dX12_bedOf_37 : decode cX12_bedOf 37 = .ok (.iconst 2, 1) := by decide +kernel
theorem dX12_bedOf_38 : decode cX12_bedOf 38 = .ok (.invokevirtual 215, 3) := by decide +kernel
theorem dX12_bedOf_41 : decode cX12_bedOf 41 = .ok (.ifCond .eq 5, 3) := by decide +kernel
theorem dX12_bedOf_44 : decode cX12_bedOf 44 = .ok (.iconst 0, 1) := by decide +kernel
theorem dX12_bedOf_45 : decode cX12_bedOf 45 = .ok (.ireturn, 1) := by decide +kernel
theorem dX12_bedOf_46 : decode cX12_bedOf 46 = .ok (.aload_n 0, 1) := by decide +kernel
theorem dX12_bedOf_47 : decode cX12_bedOf 47 = .ok (.getfield 63, 3) := by decide +kernel
theorem dX12_bedOf_50 : decode cX12_bedOf 50 = .ok (.bipush 12, 2) := by decide +kernel
theorem dX12_bedOf_52 : decode cX12_bedOf 52 = .ok (.iload_n 1, 1) := by decide +kernel
theorem dX12_bedOf_53 : decode cX12_bedOf 53 = .ok (.imul, 1) := by decide +kernel
theorem dX12_bedOf_54 : decode cX12_bedOf 54 = .ok (.iload_n 2, 1) := by decide +kernel
theorem dX12_bedOf_55 : decode cX12_bedOf 55 = .ok (.iadd, 1) := by decide +kernel
theorem dX12_bedOf_56 : decode cX12_bedOf 56 = .ok (.iaload, 1) := by decide +kernel
theorem dX12_bedOf_57 : decode cX12_bedOf 57 = .ok (.ireturn, 1) := by decide +kernel
theorem dX12_boring_0 : decode cX12_boring 0 = .ok (.iload_n 1, 1) := by decide +kernel
theorem dX12_boring_1 : decode cX12_boring 1 = .ok (.iload_n 2, 1) := by decide +kernel
theorem dX12_boring_2 : decode cX12_boring 2 = .ok (.invokestatic 116, 3) := by decide +kernel
theorem dX12_boring_5 : decode cX12_boring 5 = .ok (.ifCond .eq 27, 3) := by decide +kernel
theorem dX12_boring_8 : decode cX12_boring 8 = .ok (.iload_n 3, 1) := by decide +kernel
theorem dX12_boring_9 : decode cX12_boring 9 = .ok (.ldc 120, 2) := by decide +kernel
theorem dX12_boring_11 : decode cX12_boring 11 = .ok (.ldc 121, 2) := by decide +kernel
theorem dX12_boring_13 : decode cX12_boring 13 = .ok (.invokestatic 109, 3) := by decide +kernel
theorem dX12_boring_16 : decode cX12_boring 16 = .ok (.ifCond .eq 16, 3) := by decide +kernel
theorem dX12_boring_19 : decode cX12_boring 19 = .ok (.aload_n 0, 1) := by decide +kernel
theorem dX12_boring_20 : decode cX12_boring 20 = .ok (.iload_n 1, 1) := by decide +kernel
theorem dX12_boring_21 : decode cX12_boring 21 = .ok (.iload_n 2, 1) := by decide +kernel
theorem dX12_boring_22 : decode cX12_boring 22 = .ok (.invokevirtual 122, 3) := by decide +kernel
theorem dX12_boring_25 : decode cX12_boring 25 = .ok (.ifCond .ne 7, 3) := by decide +kernel
theorem dX12_boring_28 : decode cX12_boring 28 = .ok (.iconst 1, 1) := by decide +kernel
theorem dX12_boring_29 : decode cX12_boring 29 = .ok (.goto 4, 3) := by decide +kernel
theorem dX12_boring_32 : decode cX12_boring 32 = .ok (.iconst 0, 1) := by decide +kernel
theorem dX12_boring_33 : decode cX12_boring 33 = .ok (.istore 4, 2) := by decide +kernel
theorem dX12_boring_35 : decode cX12_boring 35 = .ok (.aload_n 0, 1) := by decide +kernel
theorem dX12_boring_36 : decode cX12_boring 36 = .ok (.iload 4, 2) := by decide +kernel
theorem dX12_boring_38 : decode cX12_boring 38 = .ok (.ifCond .ne 7, 3) := by decide +kernel
theorem dX12_boring_41 : decode cX12_boring 41 = .ok (.iconst 1, 1) := by decide +kernel
theorem dX12_boring_42 : decode cX12_boring 42 = .ok (.goto 17, 3) := by decide +kernel
theorem dX12_boring_45 : decode cX12_boring 45 = .ok (.aload_n 0, 1) := by decide +kernel
theorem dX12_boring_46 : decode cX12_boring 46 = .ok (.getfield 113, 3) := by decide +kernel
theorem dX12_boring_49 : decode cX12_boring 49 = .ok (.bipush 16, 2) := by decide +kernel
theorem dX12_boring_51 : decode cX12_boring 51 = .ok (.if_icmp .ne 7, 3) := by decide +kernel
theorem dX12_boring_54 : decode cX12_boring 54 = .ok (.iconst 2, 1) := by decide +kernel
theorem dX12_boring_55 : decode cX12_boring 55 = .ok (.goto 4, 3) := by decide +kernel
theorem dX12_boring_58 : decode cX12_boring 58 = .ok (.iconst 0, 1) := by decide +kernel
theorem dX12_boring_59 : decode cX12_boring 59 = .ok (.putfield 106, 3) := by decide +kernel
theorem dX12_boring_62 : decode cX12_boring 62 = .ok (.aload_n 0, 1) := by decide +kernel
theorem dX12_boring_63 : decode cX12_boring 63 = .ok (.getfield 106, 3) := by decide +kernel
theorem dX12_boring_66 : decode cX12_boring 66 = .ok (.ifCond .le 5, 3) := by decide +kernel
theorem dX12_boring_69 : decode cX12_boring 69 = .ok (.iconst 0, 1) := by decide +kernel
theorem dX12_boring_70 : decode cX12_boring 70 = .ok (.ireturn, 1) := by decide +kernel
theorem dX12_boring_71 : decode cX12_boring 71 = .ok (.aload_n 0, 1) := by decide +kernel
theorem dX12_boring_72 : decode cX12_boring 72 = .ok (.getfield 7, 3) := by decide +kernel
theorem dX12_boring_75 : decode cX12_boring 75 = .ok (.aload_n 0, 1) := by decide +kernel
theorem dX12_boring_76 : decode cX12_boring 76 = .ok (.getfield 113, 3) := by decide +kernel
theorem dX12_boring_79 : decode cX12_boring 79 = .ok (.iload_n 1, 1) := by decide +kernel
theorem dX12_boring_80 : decode cX12_boring 80 = .ok (.iastore, 1) := by decide +kernel
theorem dX12_boring_81 : decode cX12_boring 81 = .ok (.aload_n 0, 1) := by decide +kernel
theorem dX12_boring_82 : decode cX12_boring 82 = .ok (.getfield 13, 3) := by decide +kernel
theorem dX12_boring_85 : decode cX12_boring 85 = .ok (.aload_n 0, 1) := by decide +kernel
theorem dX12_boring_86 : decode cX12_boring 86 = .ok (.getfield 113, 3) := by decide +kernel
theorem dX12_boring_89 : decode cX12_boring 89 = .ok (.iload_n 2, 1) := by decide +kernel
theorem dX12_boring_90 : decode cX12_boring 90 = .ok (.iastore, 1) := by decide +kernel
theorem dX12_boring_91 : decode cX12_boring 91 = .ok (.aload_n 0, 1) := by decide +kernel
theorem dX12_boring_92 : decode cX12_boring 92 = .ok (.getfield 16, 3) := by decide +kernel
theorem dX12_boring_95 : decode cX12_boring 95 = .ok (.aload_n 0, 1) := by decide +kernel
theorem dX12_boring_96 : decode cX12_boring 96 = .ok (.getfield 113, 3) := by decide +kernel
theorem dX12_boring_99 : decode cX12_boring 99 = .ok (.iload_n 3, 1) := by decide +kernel
theorem dX12_boring_100 : decode cX12_boring 100 = .ok (.iastore, 1) := by decide +kernel
theorem dX12_boring_101 : decode cX12_boring 101 = .ok (.aload_n 0, 1) := by decide +kernel
theorem dX12_boring_102 : decode cX12_boring 102 = .ok (.getfield 19, 3) := by decide +kernel
theorem dX12_boring_105 : decode cX12_boring 105 = .ok (.aload_n 0, 1) := by decide +kernel
theorem dX12_boring_106 : decode cX12_boring 106 = .ok (.getfield 113, 3) := by decide +kernel
theorem dX12_boring_109 : decode cX12_boring 109 = .ok (.iconst 0, 1) := by decide +kernel
theorem dX12_boring_110 : decode cX12_boring 110 = .ok (.iastore, 1) := by decide +kernel
theorem dX12_boring_111 : decode cX12_boring 111 = .ok (.aload_n 0, 1) := by decide +kernel
theorem dX12_boring_112 : decode cX12_boring 112 = .ok (.dup, 1) := by decide +kernel
theorem dX12_boring_113 : decode cX12_boring 113 = .ok (.getfield 113, 3) := by decide +kernel
theorem dX12_boring_116 : decode cX12_boring 116 = .ok (.iconst 1, 1) := by decide +kernel
theorem dX12_boring_117 : decode cX12_boring 117 = .ok (.iadd, 1) := by decide +kernel
theorem dX12_boring_118 : decode cX12_boring 118 = .ok (.putfield 113, 3) := by decide +kernel
theorem dX12_boring_121 : decode cX12_boring 121 = .ok (.aload_n 0, 1) := by decide +kernel
theorem dX12_boring_122 : decode cX12_boring 122 = .ok (.iconst 0, 1) := by decide +kernel
theorem dX12_boring_123 : decode cX12_boring 123 = .ok (.putfield 125, 3) := by decide +kernel
theorem dX12_boring_126 : decode cX12_boring 126 = .ok (.aload_n 0, 1) := by decide +kernel
theorem dX12_boring_127 : decode cX12_boring 127 = .ok (.getfield 113, 3) := by decide +kernel
theorem dX12_boring_130 : decode cX12_boring 130 = .ok (.iconst 1, 1) := by decide +kernel
theorem dX12_boring_131 : decode cX12_boring 131 = .ok (.isub, 1) := by decide +kernel
theorem dX12_boring_132 : decode cX12_boring 132 = .ok (.ireturn, 1) := by decide +kernel
theorem dX12_check_0 : decode cX12_check 0 = .ok (.aload_n 0, 1) := by decide +kernel
theorem dX12_check_1 : decode cX12_check 1 = .ok (.iconst 0, 1) := by decide +kernel
theorem dX12_check_2 : decode cX12_check 2 = .ok (.putfield 269, 3) := by decide +kernel
theorem dX12_check_5 : decode cX12_check 5 = .ok (.iconst 0, 1) := by decide +kernel
theorem dX12_check_6 : decode cX12_check 6 = .ok (.istore_n 1, 1) := by decide +kernel
theorem dX12_check_7 : decode cX12_check 7 = .ok (.iconst 0, 1) := by decide +kernel
theorem dX12_check_8 : decode cX12_check 8 = .ok (.istore_n 2, 1) := by decide +kernel
theorem dX12_check_9 : decode cX12_check 9 = .ok (.iload_n 2, 1) := by decide +kernel
theorem dX12_check_10 : decode cX12_check 10 = .ok (.aload_n 0, 1) := by decide +kernel
theorem dX12_check_11 : decode cX12_check 11 = .ok (.getfield 266, 3) := by decide +kernel
theorem dX12_check_14 : decode cX12_check 14 = .ok (.if_icmp .ge 358, 3) := by decide +kernel
theorem dX12_check_17 : decode cX12_check 17 = .ok (.iconst 1, 1) := by decide +kernel
theorem dX12_check_18 : decode cX12_check 18 = .ok (.istore_n 3, 1) := by decide +kernel
theorem dX12_check_19 : decode cX12_check 19 = .ok (.iload_n 1, 1) := by decide +kernel
theorem dX12_check_20 : decode cX12_check 20 = .ok (.ifCond .ne 36, 3) := by decide +kernel
theorem dX12_check_23 : decode cX12_check 23 = .ok (.aload_n 0, 1) := by decide +kernel
theorem dX12_check_24 : decode cX12_check 24 = .ok (.iload_n 2, 1) := by decide +kernel
theorem dX12_check_25 : decode cX12_check 25 = .ok (.bipush 98, 2) := by decide +kernel
theorem dX12_check_27 : decode cX12_check 27 = .ok (.invokevirtual 272, 3) := by decide +kernel
theorem dX12_check_30 : decode cX12_check 30 = .ok (.ifCond .eq 21, 3) := by decide +kernel
theorem dX12_check_33 : decode cX12_check 33 = .ok (.aload_n 0, 1) := by decide +kernel
theorem dX12_check_34 : decode cX12_check 34 = .ok (.getfield 113, 3) := by decide +kernel
theorem dX12_check_37 : decode cX12_check 37 = .ok (.aload_n 0, 1) := by decide +kernel
theorem dX12_check_38 : decode cX12_check 38 = .ok (.getfield 269, 3) := by decide +kernel
theorem dX12_check_41 : decode cX12_check 41 = .ok (.iadd, 1) := by decide +kernel
theorem dX12_check_42 : decode cX12_check 42 = .ok (.bipush 16, 2) := by decide +kernel
theorem dX12_check_44 : decode cX12_check 44 = .ok (.if_icmp .ge 7, 3) := by decide +kernel
theorem dX12_check_47 : decode cX12_check 47 = .ok (.iconst 1, 1) := by decide +kernel
theorem dX12_check_48 : decode cX12_check 48 = .ok (.goto 4, 3) := by decide +kernel
theorem dX12_check_51 : decode cX12_check 51 = .ok (.iconst 0, 1) := by decide +kernel
theorem dX12_check_52 : decode cX12_check 52 = .ok (.istore_n 3, 1) := by decide +kernel
theorem dX12_check_53 : decode cX12_check 53 = .ok (.goto 294, 3) := by decide +kernel
theorem dX12_check_56 : decode cX12_check 56 = .ok (.iload_n 1, 1) := by decide +kernel
theorem dX12_check_57 : decode cX12_check 57 = .ok (.iconst 1, 1) := by decide +kernel
theorem dX12_check_58 : decode cX12_check 58 = .ok (.if_icmp .ne 18, 3) := by decide +kernel
theorem dX12_check_61 : decode cX12_check 61 = .ok (.aload_n 0, 1) := by decide +kernel
theorem dX12_check_62 : decode cX12_check 62 = .ok (.iload_n 2, 1) := by decide +kernel
theorem dX12_check_63 : decode cX12_check 63 = .ok (.sipush (-1000), 3) := by decide +kernel
theorem dX12_check_66 : decode cX12_check 66 = .ok (.sipush 1000, 3) := by decide +kernel
theorem dX12_check_69 : decode cX12_check 69 = .ok (.invokevirtual 275, 3) := by decide +kernel
theorem dX12_check_72 : decode cX12_check 72 = .ok (.istore_n 3, 1) := by decide +kernel
theorem dX12_check_73 : decode cX12_check 73 = .ok (.goto 274, 3) := by decide +kernel
theorem dX12_check_76 : decode cX12_check 76 = .ok (.iload_n 1, 1) := by decide +kernel
theorem dX12_check_77 : decode cX12_check 77 = .ok (.iconst 2, 1) := by decide +kernel
theorem dX12_check_78 : decode cX12_check 78 = .ok (.if_icmp .ne 47, 3) := by decide +kernel
theorem dX12_check_81 : decode cX12_check 81 = .ok (.aload_n 0, 1) := by decide +kernel
theorem dX12_check_82 : decode cX12_check 82 = .ok (.iload_n 2, 1) := by decide +kernel
theorem dX12_check_83 : decode cX12_check 83 = .ok (.sipush (-1000), 3) := by decide +kernel
theorem dX12_check_86 : decode cX12_check 86 = .ok (.sipush 1000, 3) := by decide +kernel
theorem dX12_check_89 : decode cX12_check 89 = .ok (.invokevirtual 275, 3) := by decide +kernel
theorem dX12_check_92 : decode cX12_check 92 = .ok (.ifCond .eq 28, 3) := by decide +kernel
theorem dX12_check_95 : decode cX12_check 95 = .ok (.aload_n 0, 1) := by decide +kernel
theorem dX12_check_96 : decode cX12_check 96 = .ok (.aload_n 0, 1) := by decide +kernel
theorem dX12_check_97 : decode cX12_check 97 = .ok (.getfield 81, 3) := by decide +kernel
theorem dX12_check_100 : decode cX12_check 100 = .ok (.iload_n 2, 1) := by decide +kernel
theorem dX12_check_101 : decode cX12_check 101 = .ok (.iconst 1, 1) := by decide +kernel
theorem dX12_check_102 : decode cX12_check 102 = .ok (.isub, 1) := by decide +kernel
theorem dX12_check_103 : decode cX12_check 103 = .ok (.iaload, 1) := by decide +kernel
theorem dX12_check_104 : decode cX12_check 104 = .ok (.aload_n 0, 1) := by decide +kernel
theorem dX12_check_105 : decode cX12_check 105 = .ok (.getfield 81, 3) := by decide +kernel
theorem dX12_check_108 : decode cX12_check 108 = .ok (.iload_n 2, 1) := by decide +kernel
theorem dX12_check_109 : decode cX12_check 109 = .ok (.iaload, 1) := by decide +kernel
theorem dX12_check_110 : decode cX12_check 110 = .ok (.invokevirtual 278, 3) := by decide +kernel
theorem dX12_check_113 : decode cX12_check 113 = .ok (.ifCond .eq 7, 3) := by decide +kernel
theorem dX12_check_116 : decode cX12_check 116 = .ok (.iconst 1, 1) := by decide +kernel
theorem dX12_check_117 : decode cX12_check 117 = .ok (.goto 4, 3) := by decide +kernel
theorem dX12_check_120 : decode cX12_check 120 = .ok (.iconst 0, 1) := by decide +kernel
theorem dX12_check_121 : decode cX12_check 121 = .ok (.istore_n 3, 1) := by decide +kernel
theorem dX12_check_122 : decode cX12_check 122 = .ok (.goto 225, 3) := by decide +kernel
theorem dX12_check_125 : decode cX12_check 125 = .ok (.iload_n 1, 1) := by decide +kernel
theorem dX12_check_126 : decode cX12_check 126 = .ok (.iconst 3, 1) := by decide +kernel
theorem dX12_check_127 : decode cX12_check 127 = .ok (.if_icmp .ne 75, 3) := by decide +kernel
theorem dX12_check_130 : decode cX12_check 130 = .ok (.aload_n 0, 1) := by decide +kernel
theorem dX12_check_131 : decode cX12_check 131 = .ok (.iload_n 2, 1) := by decide +kernel
theorem dX12_check_132 : decode cX12_check 132 = .ok (.ldc 120, 2) := by decide +kernel
theorem dX12_check_134 : decode cX12_check 134 = .ok (.ldc 121, 2) := by decide +kernel
theorem dX12_check_136 : decode cX12_check 136 = .ok (.invokevirtual 275, 3) := by decide +kernel
theorem dX12_check_139 : decode cX12_check 139 = .ok (.istore_n 3, 1) := by decide +kernel
theorem dX12_check_140 : decode cX12_check 140 = .ok (.aload_n 0, 1) := by decide +kernel
theorem dX12_check_141 : decode cX12_check 141 = .ok (.getfield 88, 3) := by decide +kernel
theorem dX12_check_144 : decode cX12_check 144 = .ok (.aload_n 0, 1) := by decide +kernel
theorem dX12_check_145 : decode cX12_check 145 = .ok (.getfield 269, 3) := by decide +kernel
theorem dX12_check_148 : decode cX12_check 148 = .ok (.aload_n 0, 1) := by decide +kernel
theorem dX12_check_149 : decode cX12_check 149 = .ok (.getfield 81, 3) := by decide +kernel
theorem dX12_check_152 : decode cX12_check 152 = .ok (.iload_n 2, 1) := by decide +kernel
theorem dX12_check_153 : decode cX12_check 153 = .ok (.iconst 2, 1) := by decide +kernel
theorem dX12_check_154 : decode cX12_check 154 = .ok (.isub, 1) := by decide +kernel
theorem dX12_check_155 : decode cX12_check 155 = .ok (.iaload, 1) := by decide +kernel
theorem dX12_check_156 : decode cX12_check 156 = .ok (.iastore, 1) := by decide +kernel
theorem dX12_check_157 : decode cX12_check 157 = .ok (.aload_n 0, 1) := by decide +kernel
theorem dX12_check_158 : decode cX12_check 158 = .ok (.getfield 91, 3) := by decide +kernel
theorem dX12_check_161 : decode cX12_check 161 = .ok (.aload_n 0, 1) := by decide +kernel
theorem dX12_check_162 : decode cX12_check 162 = .ok (.getfield 269, 3) := by decide +kernel
theorem dX12_check_165 : decode cX12_check 165 = .ok (.aload_n 0, 1) := by decide +kernel
theorem dX12_check_166 : decode cX12_check 166 = .ok (.getfield 81, 3) := by decide +kernel
theorem dX12_check_169 : decode cX12_check 169 = .ok (.iload_n 2, 1) := by decide +kernel
theorem dX12_check_170 : decode cX12_check 170 = .ok (.iconst 1, 1) := by decide +kernel
theorem dX12_check_171 : decode cX12_check 171 = .ok (.isub, 1) := by decide +kernel
theorem dX12_check_172 : decode cX12_check 172 = .ok (.iaload, 1) := by decide +kernel
theorem dX12_check_173 : decode cX12_check 173 = .ok (.iastore, 1) := by decide +kernel
theorem dX12_check_174 : decode cX12_check 174 = .ok (.aload_n 0, 1) := by decide +kernel
theorem dX12_check_175 : decode cX12_check 175 = .ok (.getfield 94, 3) := by decide +kernel
theorem dX12_check_178 : decode cX12_check 178 = .ok (.aload_n 0, 1) := by decide +kernel
theorem dX12_check_179 : decode cX12_check 179 = .ok (.getfield 269, 3) := by decide +kernel
theorem dX12_check_182 : decode cX12_check 182 = .ok (.aload_n 0, 1) := by decide +kernel
theorem dX12_check_183 : decode cX12_check 183 = .ok (.getfield 81, 3) := by decide +kernel
theorem dX12_check_186 : decode cX12_check 186 = .ok (.iload_n 2, 1) := by decide +kernel
theorem dX12_check_187 : decode cX12_check 187 = .ok (.iaload, 1) := by decide +kernel
theorem dX12_check_188 : decode cX12_check 188 = .ok (.iastore, 1) := by decide +kernel
theorem dX12_check_189 : decode cX12_check 189 = .ok (.aload_n 0, 1) := by decide +kernel
theorem dX12_check_190 : decode cX12_check 190 = .ok (.getfield 97, 3) := by decide +kernel
theorem dX12_check_193 : decode cX12_check 193 = .ok (.aload_n 0, 1) := by decide +kernel
theorem dX12_check_194 : decode cX12_check 194 = .ok (.getfield 269, 3) := by decide +kernel
theorem dX12_check_197 : decode cX12_check 197 = .ok (.iconst 0, 1) := by decide +kernel
theorem dX12_check_198 : decode cX12_check 198 = .ok (.iastore, 1) := by decide +kernel
theorem dX12_check_199 : decode cX12_check 199 = .ok (.goto 148, 3) := by decide +kernel
theorem dX12_check_202 : decode cX12_check 202 = .ok (.iload_n 1, 1) := by decide +kernel
theorem dX12_check_203 : decode cX12_check 203 = .ok (.iconst 5, 1) := by decide +kernel
theorem dX12_check_204 : decode cX12_check 204 = .ok (.if_icmp .ne 87, 3) := by decide +kernel
theorem dX12_check_207 : decode cX12_check 207 = .ok (.aload_n 0, 1) := by decide +kernel
theorem dX12_check_208 : decode cX12_check 208 = .ok (.iload_n 2, 1) := by decide +kernel
theorem dX12_check_209 : decode cX12_check 209 = .ok (.iconst 1, 1) := by decide +kernel
theorem dX12_check_210 : decode cX12_check 210 = .ok (.sipush 10000, 3) := by decide +kernel
theorem dX12_check_213 : decode cX12_check 213 = .ok (.invokevirtual 275, 3) := by decide +kernel
theorem dX12_check_216 : decode cX12_check 216 = .ok (.istore_n 3, 1) := by decide +kernel
theorem dX12_check_217 : decode cX12_check 217 = .ok (.aload_n 0, 1) := by decide +kernel
theorem dX12_check_218 : decode cX12_check 218 = .ok (.getfield 100, 3) := by decide +kernel
theorem dX12_check_221 : decode cX12_check 221 = .ok (.bipush 12, 2) := by decide +kernel
theorem dX12_check_223 : decode cX12_check 223 = .ok (.aload_n 0, 1) := by decide +kernel
theorem dX12_check_224 : decode cX12_check 224 = .ok (.getfield 269, 3) := by decide +kernel
theorem dX12_check_227 : decode cX12_check 227 = .ok (.imul, 1) := by decide +kernel
theorem dX12_check_228 : decode cX12_check 228 = .ok (.aload_n 0, 1) := by decide +kernel
theorem dX12_check_229 : decode cX12_check 229 = .ok (.getfield 97, 3) := by decide +kernel
theorem dX12_check_232 : decode cX12_check 232 = .ok (.aload_n 0, 1) := by decide +kernel
theorem dX12_check_233 : decode cX12_check 233 = .ok (.getfield 269, 3) := by decide +kernel
theorem dX12_check_236 : decode cX12_check 236 = .ok (.iaload, 1) := by decide +kernel
theorem dX12_check_237 : decode cX12_check 237 = .ok (.iadd, 1) := by decide +kernel
theorem dX12_check_238 : decode cX12_check 238 = .ok (.aload_n 0, 1) := by decide +kernel
theorem dX12_check_239 : decode cX12_check 239 = .ok (.getfield 81, 3) := by decide +kernel
theorem dX12_check_242 : decode cX12_check 242 = .ok (.iload_n 2, 1) := by decide +kernel
theorem dX12_check_243 : decode cX12_check 243 = .ok (.iconst 1, 1) := by decide +kernel
theorem dX12_check_244 : decode cX12_check 244 = .ok (.isub, 1) := by decide +kernel
theorem dX12_check_245 : decode cX12_check 245 = .ok (.iaload, 1) := by decide +kernel
theorem dX12_check_246 : decode cX12_check 246 = .ok (.iastore, 1) := by decide +kernel
theorem dX12_check_247 : decode cX12_check 247 = .ok (.aload_n 0, 1) := by decide +kernel
theorem dX12_check_248 : decode cX12_check 248 = .ok (.getfield 103, 3) := by decide +kernel
theorem dX12_check_251 : decode cX12_check 251 = .ok (.bipush 12, 2) := by decide +kernel
theorem dX12_check_253 : decode cX12_check 253 = .ok (.aload_n 0, 1) := by decide +kernel
theorem dX12_check_254 : decode cX12_check 254 = .ok (.getfield 269, 3) := by decide +kernel
theorem dX12_check_257 : decode cX12_check 257 = .ok (.imul, 1) := by decide +kernel
theorem dX12_check_258 : decode cX12_check 258 = .ok (.aload_n 0, 1) := by decide +kernel
theorem dX12_check_259 : decode cX12_check 259 = .ok (.getfield 97, 3) := by decide +kernel
theorem dX12_check_262 : decode cX12_check 262 = .ok (.aload_n 0, 1) := by decide +kernel
theorem dX12_check_263 : decode cX12_check 263 = .ok (.getfield 269, 3) := by decide +kernel
theorem dX12_check_266 : decode cX12_check 266 = .ok (.iaload, 1) := by decide +kernel
theorem dX12_check_267 : decode cX12_check 267 = .ok (.iadd, 1) := by decide +kernel
theorem dX12_check_268 : decode cX12_check 268 = .ok (.aload_n 0, 1) := by decide +kernel
theorem dX12_check_269 : decode cX12_check 269 = .ok (.getfield 81, 3) := by decide +kernel
theorem dX12_check_272 : decode cX12_check 272 = .ok (.iload_n 2, 1) := by decide +kernel
theorem dX12_check_273 : decode cX12_check 273 = .ok (.iaload, 1) := by decide +kernel
theorem dX12_check_274 : decode cX12_check 274 = .ok (.iastore, 1) := by decide +kernel
theorem dX12_check_275 : decode cX12_check 275 = .ok (.aload_n 0, 1) := by decide +kernel
theorem dX12_check_276 : decode cX12_check 276 = .ok (.getfield 97, 3) := by decide +kernel
theorem dX12_check_279 : decode cX12_check 279 = .ok (.aload_n 0, 1) := by decide +kernel
theorem dX12_check_280 : decode cX12_check 280 = .ok (.getfield 269, 3) := by decide +kernel
theorem dX12_check_283 : decode cX12_check 283 = .ok (.dup2, 1) := by decide +kernel
theorem dX12_check_284 : decode cX12_check 284 = .ok (.iaload, 1) := by decide +kernel
theorem dX12_check_285 : decode cX12_check 285 = .ok (.iconst 1, 1) := by decide +kernel
theorem dX12_check_286 : decode cX12_check 286 = .ok (.iadd, 1) := by decide +kernel
theorem dX12_check_287 : decode cX12_check 287 = .ok (.iastore, 1) := by decide +kernel
theorem dX12_check_288 : decode cX12_check 288 = .ok (.goto 59, 3) := by decide +kernel
theorem dX12_check_291 : decode cX12_check 291 = .ok (.aload_n 0, 1) := by decide +kernel
theorem dX12_check_292 : decode cX12_check 292 = .ok (.iload_n 2, 1) := by decide +kernel
theorem dX12_check_293 : decode cX12_check 293 = .ok (.bipush 101, 2) := by decide +kernel
theorem dX12_check_295 : decode cX12_check 295 = .ok (.invokevirtual 272, 3) := by decide +kernel
theorem dX12_check_298 : decode cX12_check 298 = .ok (.ifCond .eq 18, 3) := by decide +kernel
theorem dX12_check_301 : decode cX12_check 301 = .ok (.aload_n 0, 1) := by decide +kernel
theorem dX12_check_302 : decode cX12_check 302 = .ok (.dup, 1) := by decide +kernel
theorem dX12_check_303 : decode cX12_check 303 = .ok (.getfield 269, 3) := by decide +kernel
theorem dX12_check_306 : decode cX12_check 306 = .ok (.iconst 1, 1) := by decide +kernel
theorem dX12_check_307 : decode cX12_check 307 = .ok (.iadd, 1) := by decide +kernel
theorem dX12_check_308 : decode cX12_check 308 = .ok (.putfield 269, 3) := by decide +kernel
theorem dX12_check_311 : decode cX12_check 311 = .ok (.iconst (-1), 1) := by decide +kernel
theorem dX12_check_312 : decode cX12_check 312 = .ok (.istore_n 1, 1) := by decide +kernel
theorem dX12_check_313 : decode cX12_check 313 = .ok (.goto 34, 3) := by decide +kernel
theorem dX12_check_316 : decode cX12_check 316 = .ok (.aload_n 0, 1) := by decide +kernel
theorem dX12_check_317 : decode cX12_check 317 = .ok (.getfield 97, 3) := by decide +kernel
theorem dX12_check_320 : decode cX12_check 320 = .ok (.aload_n 0, 1) := by decide +kernel
theorem dX12_check_321 : decode cX12_check 321 = .ok (.getfield 269, 3) := by decide +kernel
theorem dX12_check_324 : decode cX12_check 324 = .ok (.iaload, 1) := by decide +kernel
theorem dX12_check_325 : decode cX12_check 325 = .ok (.bipush 12, 2) := by decide +kernel
theorem dX12_check_327 : decode cX12_check 327 = .ok (.if_icmp .ge 18, 3) := by decide +kernel
theorem dX12_check_330 : decode cX12_check 330 = .ok (.aload_n 0, 1) := by decide +kernel
theorem dX12_check_331 : decode cX12_check 331 = .ok (.iload_n 2, 1) := by decide +kernel
theorem dX12_check_332 : decode cX12_check 332 = .ok (.iconst 0, 1) := by decide +kernel
theorem dX12_check_333 : decode cX12_check 333 = .ok (.bipush 7, 2) := by decide +kernel
theorem dX12_check_335 : decode cX12_check 335 = .ok (.invokevirtual 275, 3) := by decide +kernel
theorem dX12_check_338 : decode cX12_check 338 = .ok (.ifCond .eq 7, 3) := by decide +kernel
theorem dX12_check_341 : decode cX12_check 341 = .ok (.iconst 1, 1) := by decide +kernel
theorem dX12_check_342 : decode cX12_check 342 = .ok (.goto 4, 3) := by decide +kernel
theorem dX12_check_345 : decode cX12_check 345 = .ok (.iconst 0, 1) := by decide +kernel
theorem dX12_check_346 : decode cX12_check 346 = .ok (.istore_n 3, 1) := by decide +kernel
theorem dX12_check_347 : decode cX12_check 347 = .ok (.iload_n 3, 1) := by decide +kernel
theorem dX12_check_348 : decode cX12_check 348 = .ok (.ifCond .ne 5, 3) := by decide +kernel
theorem dX12_check_351 : decode cX12_check 351 = .ok (.iload_n 2, 1) := by decide +kernel
theorem dX12_check_352 : decode cX12_check 352 = .ok (.ireturn, 1) := by decide +kernel
theorem dX12_check_353 : decode cX12_check 353 = .ok (.iload_n 1, 1) := by decide +kernel
theorem dX12_check_354 : decode cX12_check 354 = .ok (.iconst 5, 1) := by decide +kernel
theorem dX12_check_355 : decode cX12_check 355 = .ok (.if_icmp .ne 7, 3) := by decide +kernel
theorem dX12_check_358 : decode cX12_check 358 = .ok (.iconst 4, 1) := by decide +kernel
theorem dX12_check_359 : decode cX12_check 359 = .ok (.goto 6, 3) := by decide +kernel
theorem dX12_check_362 : decode cX12_check 362 = .ok (.iload_n 1, 1) := by decide +kernel
theorem dX12_check_363 : decode cX12_check 363 = .ok (.iconst 1, 1) := by decide +kernel
theorem dX12_check_364 : decode cX12_check 364 = .ok (.iadd, 1) := by decide +kernel
theorem dX12_check_365 : decode cX12_check 365 = .ok (.istore_n 1, 1) := by decide +kernel
theorem dX12_check_366 : decode cX12_check 366 = .ok (.iinc 2 1, 3) := by decide +kernel
theorem dX12_check_369 : decode cX12_check 369 = .ok (.goto (-360), 3) := by decide +kernel
theorem dX12_check_372 : decode cX12_check 372 = .ok (.iload_n 1, 1) := by decide +kernel
theorem dX12_check_373 : decode cX12_check 373 = .ok (.ifCond .ne 7, 3) := by decide +kernel
theorem dX12_check_376 : decode cX12_check 376 = .ok (.iconst (-1), 1) := by decide +kernel
theorem dX12_check_377 : decode cX12_check 377 = .ok (.goto 7, 3) := by decide +kernel
theorem dX12_check_380 : decode cX12_check 380 = .ok (.aload_n 0, 1) := by decide +kernel
theorem dX12_check_381 : decode cX12_check 381 = .ok (.getfield 266, 3) := by decide +kernel
theorem dX12_check_384 : decode cX12_check 384 = .ok (.ireturn, 1) := by decide +kernel
theorem dX12_count_0 : decode cX12_count 0 = .ok (.aload_n 0, 1) := by decide +kernel
theorem dX12_count_1 : decode cX12_count 1 = .ok (.iconst 0, 1) := by decide +kernel
theorem dX12_count_2 : decode cX12_count 2 = .ok (.putfield 106, 3) := by decide +kernel
theorem dX12_count_5 : decode cX12_count 5 = .ok (.iload_n 1, 1) := by decide +kernel
theorem dX12_count_6 : decode cX12_count 6 = .ok (.iconst 0, 1) := by decide +kernel
theorem dX12_count_7 : decode cX12_count 7 = .ok (.bipush 6, 2) := by decide +kernel
theorem dX12_count_9 : decode cX12_count 9 = .ok (.invokestatic 109, 3) := by decide +kernel
theorem dX12_count_12 : decode cX12_count 12 = .ok (.ifCond .ne 5, 3) := by decide +kernel
theorem dX12_count_15 : decode cX12_count 15 = .ok (.iconst (-1), 1) := by decide +kernel
theorem dX12_count_16 : decode cX12_count 16 = .ok (.ireturn, 1) := by decide +kernel
theorem dX12_count_17 : decode cX12_count 17 = .ok (.iload_n 1, 1) := by decide +kernel
theorem dX12_count_18 : decode cX12_count 18 = .ok (.iconst 3, 1) := by decide +kernel
theorem dX12_count_19 : decode cX12_count 19 = .ok (.if_icmp .ge 31, 3) := by decide +kernel
theorem dX12_count_22 : decode cX12_count 22 = .ok (.iload_n 1, 1) := by decide +kernel
theorem dX12_count_23 : decode cX12_count 23 = .ok (.ifCond .ne 10, 3) := by decide +kernel
theorem dX12_count_26 : decode cX12_count 26 = .ok (.aload_n 0, 1) := by decide +kernel
theorem dX12_count_27 : decode cX12_count 27 = .ok (.getfield 113, 3) := by decide +kernel
theorem dX12_count_30 : decode cX12_count 30 = .ok (.goto 19, 3) := by decide +kernel
theorem dX12_count_33 : decode cX12_count 33 = .ok (.iload_n 1, 1) := by decide +kernel
theorem dX12_count_34 : decode cX12_count 34 = .ok (.iconst 1, 1) := by decide +kernel
theorem dX12_count_35 : decode cX12_count 35 = .ok (.if_icmp .ne 10, 3) := by decide +kernel
theorem dX12_count_38 : decode cX12_count 38 = .ok (.aload_n 0, 1) := by decide +kernel
theorem dX12_count_39 : decode cX12_count 39 = .ok (.getfield 133, 3) := by decide +kernel
theorem dX12_count_42 : decode cX12_count 42 = .ok (.goto 7, 3) := by decide +kernel
theorem dX12_count_45 : decode cX12_count 45 = .ok (.aload_n 0, 1) := by decide +kernel
theorem dX12_count_46 : decode cX12_count 46 = .ok (.getfield 136, 3) := by decide +kernel
theorem dX12_count_49 : decode cX12_count 49 = .ok (.ireturn, 1) := by decide +kernel
theorem dX12_count_50 : decode cX12_count 50 = .ok (.aload_n 0, 1) := by decide +kernel
theorem dX12_count_51 : decode cX12_count 51 = .ok (.invokevirtual 219, 3) := by decide +kernel
theorem dX12_count_54 : decode cX12_count 54 = .ok (.ifCond .eq 5, 3) := by decide +kernel
theorem dX12_count_57 : decode cX12_count 57 = .ok (.iconst 0, 1) := by decide +kernel
theorem dX12_count_58 : decode cX12_count 58 = .ok (.ireturn, 1) := by decide +kernel
theorem dX12_count_59 : decode cX12_count 59 = .ok (.iconst 0, 1) := by decide +kernel
theorem dX12_count_60 : decode cX12_count 60 = .ok (.istore_n 2, 1) := by decide +kernel
theorem dX12_count_61 : decode cX12_count 61 = .ok (.iconst 0, 1) := by decide +kernel
theorem dX12_count_62 : decode cX12_count 62 = .ok (.istore_n 3, 1) := by decide +kernel
theorem dX12_count_63 : decode cX12_count 63 = .ok (.iload_n 3, 1) := by decide +kernel
theorem dX12_count_64 : decode cX12_count 64 = .ok (.aload_n 0, 1) := by decide +kernel
theorem dX12_count_65 : decode cX12_count 65 = .ok (.getfield 157, 3) := by decide +kernel
theorem dX12_count_68 : decode cX12_count 68 = .ok (.if_icmp .ge 26, 3) := by decide +kernel
theorem dX12_count_71 : decode cX12_count 71 = .ok (.iload_n 2, 1) := by decide +kernel
theorem dX12_count_72 : decode cX12_count 72 = .ok (.aload_n 0, 1) := by decide +kernel
theorem dX12_count_73 : decode cX12_count 73 = .ok (.getfield 47, 3) := by decide +kernel
theorem dX12_count_76 : decode cX12_count 76 = .ok (.iload_n 3, 1) := by decide +kernel
theorem dX12_count_77 : decode cX12_count 77 = .ok (.baload, 1) := by decide +kernel
theorem dX12_count_78 : decode cX12_count 78 = .ok (.ifCond .eq 7, 3) := by decide +kernel
theorem dX12_count_81 : decode cX12_count 81 = .ok (.iconst 1, 1) := by decide +kernel
theorem dX12_count_82 : decode cX12_count 82 = .ok (.goto 4, 3) := by decide +kernel
theorem dX12_count_85 : decode cX12_count 85 = .ok (.iconst 0, 1) := by decide +kernel
theorem dX12_count_86 : decode cX12_count 86 = .ok (.iadd, 1) := by decide +kernel
theorem dX12_count_87 : decode cX12_count 87 = .ok (.istore_n 2, 1) := by decide +kernel
theorem dX12_count_88 : decode cX12_count 88 = .ok (.iinc 3 1, 3) := by decide +kernel
theorem dX12_count_91 : decode cX12_count 91 = .ok (.goto (-28), 3) := by decide +kernel
theorem dX12_count_94 : decode cX12_count 94 = .ok (.iload_n 1, 1) := by decide +kernel
theorem dX12_count_95 : decode cX12_count 95 = .ok (.iconst 3, 1) := by decide +kernel
theorem dX12_count_96 : decode cX12_count 96 = .ok (.if_icmp .ne 10, 3) := by decide +kernel
theorem dX12_count_99 : decode cX12_count 99 = .ok (.aload_n 0, 1) := by decide +kernel
theorem dX12_count_100 : decode cX12_count 100 = .ok (.getfield 157, 3) := by decide +kernel
theorem dX12_count_103 : decode cX12_count 103 = .ok (.goto 28, 3) := by decide +kernel
theorem dX12_count_106 : decode cX12_count 106 = .ok (.iload_n 1, 1) := by decide +kernel
theorem dX12_count_107 : decode cX12_count 107 = .ok (.iconst 4, 1) := by decide +kernel
theorem dX12_count_108 : decode cX12_count 108 = .ok (.if_icmp .ne 7, 3) := by decide +kernel
theorem dX12_count_111 : decode cX12_count 111 = .ok (.iload_n 2, 1) := by decide +kernel
theorem dX12_count_112 : decode cX12_count 112 = .ok (.goto 19, 3) := by decide +kernel
theorem dX12_count_115 : decode cX12_count 115 = .ok (.iload_n 1, 1) := by decide +kernel
theorem dX12_count_116 : decode cX12_count 116 = .ok (.iconst 5, 1) := by decide +kernel
theorem dX12_count_117 : decode cX12_count 117 = .ok (.if_icmp .ne 10, 3) := by decide +kernel
theorem dX12_count_120 : decode cX12_count 120 = .ok (.aload_n 0, 1) := by decide +kernel
theorem dX12_count_121 : decode cX12_count 121 = .ok (.getfield 182, 3) := by decide +kernel
theorem dX12_count_124 : decode cX12_count 124 = .ok (.goto 7, 3) := by decide +kernel
theorem dX12_count_127 : decode cX12_count 127 = .ok (.aload_n 0, 1) := by decide +kernel
theorem dX12_count_128 : decode cX12_count 128 = .ok (.getfield 196, 3) := by decide +kernel
theorem dX12_count_131 : decode cX12_count 131 = .ok (.ireturn, 1) := by decide +kernel
theorem dX12_cross_0 : decode cX12_cross 0 = .ok (.lload_n 0, 1) := by decide +kernel
theorem dX12_cross_1 : decode cX12_cross 1 = .ok (.lload 6, 2) := by decide +kernel
theorem dX12_cross_3 : decode cX12_cross 3 = .ok (.lmul, 1) := by decide +kernel
theorem dX12_cross_4 : decode cX12_cross 4 = .ok (.lload_n 2, 1) := by decide +kernel
theorem dX12_cross_5 : decode cX12_cross 5 = .ok (.lload 4, 2) := by decide +kernel
theorem dX12_cross_7 : decode cX12_cross 7 = .ok (.lmul, 1) := by decide +kernel
theorem dX12_cross_8 : decode cX12_cross 8 = .ok (.lsub, 1) := by decide +kernel
theorem dX12_cross_9 : decode cX12_cross 9 = .ok (.lreturn, 1) := by decide +kernel
theorem dX12_crosses_0 : decode cX12_crosses 0 = .ok (.aload_n 0, 1) := by decide +kernel
theorem dX12_crosses_1 : decode cX12_crosses 1 = .ok (.invokevirtual 219, 3) := by decide +kernel
theorem dX12_crosses_4 : decode cX12_crosses 4 = .ok (.ifCond .eq 5, 3) := by decide +kernel
theorem dX12_crosses_7 : decode cX12_crosses 7 = .ok (.iconst 0, 1) := by decide +kernel
theorem dX12_crosses_8 : decode cX12_crosses 8 = .ok (.ireturn, 1) := by decide +kernel
theorem dX12_crosses_9 : decode cX12_crosses 9 = .ok (.iconst 0, 1) := by decide +kernel
theorem dX12_crosses_10 : decode cX12_crosses 10 = .ok (.istore_n 1, 1) := by decide +kernel
theorem dX12_crosses_11 : decode cX12_crosses 11 = .ok (.iconst 0, 1) := by decide +kernel
theorem dX12_crosses_12 : decode cX12_crosses 12 = .ok (.istore_n 2, 1) := by decide +kernel
theorem dX12_crosses_13 : decode cX12_crosses 13 = .ok (.iload_n 2, 1) := by decide +kernel
theorem dX12_crosses_14 : decode cX12_crosses 14 = .ok (.aload_n 0, 1) := by decide +kernel
theorem dX12_crosses_15 : decode cX12_crosses 15 = .ok (.getfield 157, 3) := by decide +kernel
theorem dX12_crosses_18 : decode cX12_crosses 18 = .ok (.if_icmp .ge 94, 3) := by decide +kernel
theorem dX12_crosses_21 : decode cX12_crosses 21 = .ok (.iconst (-1), 1) := by decide +kernel
theorem dX12_crosses_22 : decode cX12_crosses 22 = .ok (.istore_n 3, 1) := by decide +kernel
theorem dX12_crosses_23 : decode cX12_crosses 23 = .ok (.iconst 0, 1) := by decide +kernel
theorem dX12_crosses_24 : decode cX12_crosses 24 = .ok (.istore 4, 2) := by decide +kernel
theorem dX12_crosses_26 : decode cX12_crosses 26 = .ok (.iload 4, 2) := by decide +kernel
theorem dX12_crosses_28 : decode cX12_crosses 28 = .ok (.aload_n 0, 1) := by decide +kernel
theorem dX12_crosses_29 : decode cX12_crosses 29 = .ok (.getfield 19, 3) := by decide +kernel
theorem dX12_crosses_32 : decode cX12_crosses 32 = .ok (.aload_n 0, 1) := by decide +kernel
theorem dX12_crosses_33 : decode cX12_crosses 33 = .ok (.getfield 41, 3) := by decide +kernel
theorem dX12_crosses_36 : decode cX12_crosses 36 = .ok (.iload_n 2, 1) := by decide +kernel
theorem dX12_crosses_37 : decode cX12_crosses 37 = .ok (.iaload, 1) := by decide +kernel
theorem dX12_crosses_38 : decode cX12_crosses 38 = .ok (.iaload, 1) := by decide +kernel
theorem dX12_crosses_39 : decode cX12_crosses 39 = .ok (.if_icmp .ge 67, 3) := by decide +kernel
theorem dX12_crosses_42 : decode cX12_crosses 42 = .ok (.aload_n 0, 1) := by decide +kernel
theorem dX12_crosses_43 : decode cX12_crosses 43 = .ok (.getfield 47, 3) := by decide +kernel
theorem dX12_crosses_46 : decode cX12_crosses 46 = .ok (.iload_n 2, 1) := by decide +kernel
theorem dX12_crosses_47 : decode cX12_crosses 47 = .ok (.baload, 1) := by decide +kernel
theorem dX12_crosses_48 : decode cX12_crosses 48 = .ok (.ifCond .ne 58, 3) := by decide +kernel
theorem dX12_crosses_51 : decode cX12_crosses 51 = .ok (.aload_n 0, 1) := by decide +kernel
theorem dX12_crosses_52 : decode cX12_crosses 52 = .ok (.getfield 54, 3) := by decide +kernel
theorem dX12_crosses_55 : decode cX12_crosses 55 = .ok (.bipush 12, 2) := by decide +kernel
theorem dX12_crosses_57 : decode cX12_crosses 57 = .ok (.iload_n 2, 1) := by decide +kernel
theorem dX12_crosses_58 : decode cX12_crosses 58 = .ok (.imul, 1) := by decide +kernel
theorem dX12_crosses_59 : decode cX12_crosses 59 = .ok (.iload 4, 2) := by decide +kernel
theorem dX12_crosses_61 : decode cX12_crosses 61 = .ok (.iadd, 1) := by decide +kernel
theorem dX12_crosses_62 : decode cX12_crosses 62 = .ok (.iaload, 1) := by decide +kernel
theorem dX12_crosses_63 : decode cX12_crosses 63 = .ok (.istore 5, 2) := by decide +kernel
theorem dX12_crosses_65 : decode cX12_crosses 65 = .ok (.iload_n 1, 1) := by decide +kernel
theorem dX12_crosses_66 : decode cX12_crosses 66 = .ok (.ifCond .ne 15, 3) := by decide +kernel
theorem dX12_crosses_69 : decode cX12_crosses 69 = .ok (.iload 5, 2) := by decide +kernel
theorem dX12_crosses_71 : decode cX12_crosses 71 = .ok (.iconst (-1), 1) := by decide +kernel
theorem dX12_crosses_72 : decode cX12_crosses 72 = .ok (.if_icmp .eq 13, 3) := by decide +kernel
theorem dX12_crosses_75 : decode cX12_crosses 75 = .ok (.iload 5, 2) := by decide +kernel
theorem dX12_crosses_77 : decode cX12_crosses 77 = .ok (.iload_n 3, 1) := by decide +kernel
theorem dX12_crosses_78 : decode cX12_crosses 78 = .ok (.if_icmp .gt 7, 3) := by decide +kernel
theorem dX12_crosses_81 : decode cX12_crosses 81 = .ok (.iconst 1, 1) := by decide +kernel
theorem dX12_crosses_82 : decode cX12_crosses 82 = .ok (.goto 4, 3) := by decide +kernel
theorem dX12_crosses_85 : decode cX12_crosses 85 = .ok (.iconst 0, 1) := by decide +kernel
theorem dX12_crosses_86 : decode cX12_crosses 86 = .ok (.istore_n 1, 1) := by decide +kernel
theorem dX12_crosses_87 : decode cX12_crosses 87 = .ok (.iload 5, 2) := by decide +kernel
theorem dX12_crosses_89 : decode cX12_crosses 89 = .ok (.iconst (-1), 1) := by decide +kernel
theorem dX12_crosses_90 : decode cX12_crosses 90 = .ok (.if_icmp .ne 7, 3) := by decide +kernel
theorem dX12_crosses_93 : decode cX12_crosses 93 = .ok (.iload_n 3, 1) := by decide +kernel
theorem dX12_crosses_94 : decode cX12_crosses 94 = .ok (.goto 5, 3) := by decide +kernel
theorem dX12_crosses_97 : decode cX12_crosses 97 = .ok (.iload 5, 2) := by decide +kernel
theorem dX12_crosses_99 : decode cX12_crosses 99 = .ok (.istore_n 3, 1) := by decide +kernel
theorem dX12_crosses_100 : decode cX12_crosses 100 = .ok (.iinc 4 1, 3) := by decide +kernel
theorem dX12_crosses_103 : decode cX12_crosses 103 = .ok (.goto (-77), 3) := by decide +kernel
theorem dX12_crosses_106 : decode cX12_crosses 106 = .ok (.iinc 2 1, 3) := by decide +kernel
theorem dX12_crosses_109 : decode cX12_crosses 109 = .ok (.goto (-96), 3) := by decide +kernel
theorem dX12_crosses_112 : decode cX12_crosses 112 = .ok (.iload_n 1, 1) := by decide +kernel
theorem dX12_crosses_113 : decode cX12_crosses 113 = .ok (.ireturn, 1) := by decide +kernel
theorem dX12_doubt_0 : decode cX12_doubt 0 = .ok (.aload_n 0, 1) := by decide +kernel
theorem dX12_doubt_1 : decode cX12_doubt 1 = .ok (.iconst 0, 1) := by decide +kernel
theorem dX12_doubt_2 : decode cX12_doubt 2 = .ok (.putfield 106, 3) := by decide +kernel
theorem dX12_doubt_5 : decode cX12_doubt 5 = .ok (.iconst (-1), 1) := by decide +kernel
theorem dX12_doubt_6 : decode cX12_doubt 6 = .ok (.istore_n 3, 1) := by decide +kernel
theorem dX12_doubt_7 : decode cX12_doubt 7 = .ok (.iconst 0, 1) := by decide +kernel
theorem dX12_doubt_8 : decode cX12_doubt 8 = .ok (.istore 4, 2) := by decide +kernel
theorem dX12_doubt_10 : decode cX12_doubt 10 = .ok (.iconst 0, 1) := by decide +kernel
theorem dX12_doubt_11 : decode cX12_doubt 11 = .ok (.istore 5, 2) := by decide +kernel
theorem dX12_doubt_13 : decode cX12_doubt 13 = .ok (.iload 5, 2) := by decide +kernel
theorem dX12_doubt_15 : decode cX12_doubt 15 = .ok (.aload_n 0, 1) := by decide +kernel
theorem dX12_doubt_16 : decode cX12_doubt 16 = .ok (.getfield 113, 3) := by decide +kernel
theorem dX12_doubt_19 : decode cX12_doubt 19 = .ok (.if_icmp .ge 77, 3) := by decide +kernel
theorem dX12_doubt_22 : decode cX12_doubt 22 = .ok (.iload_n 1, 1) := by decide +kernel
theorem dX12_doubt_23 : decode cX12_doubt 23 = .ok (.iload_n 2, 1) := by decide +kernel
theorem dX12_doubt_24 : decode cX12_doubt 24 = .ok (.invokestatic 116, 3) := by decide +kernel
theorem dX12_doubt_27 : decode cX12_doubt 27 = .ok (.ifCond .eq 69, 3) := by decide +kernel
theorem dX12_doubt_30 : decode cX12_doubt 30 = .ok (.aload_n 0, 1) := by decide +kernel
theorem dX12_doubt_31 : decode cX12_doubt 31 = .ok (.getfield 7, 3) := by decide +kernel
theorem dX12_doubt_34 : decode cX12_doubt 34 = .ok (.iload 5, 2) := by decide +kernel
theorem dX12_doubt_36 : decode cX12_doubt 36 = .ok (.iaload, 1) := by decide +kernel
theorem dX12_doubt_37 : decode cX12_doubt 37 = .ok (.iload_n 1, 1) := by decide +kernel
theorem dX12_doubt_38 : decode cX12_doubt 38 = .ok (.isub, 1) := by decide +kernel
theorem dX12_doubt_39 : decode cX12_doubt 39 = .ok (.aload_n 0, 1) := by decide +kernel
theorem dX12_doubt_40 : decode cX12_doubt 40 = .ok (.getfield 7, 3) := by decide +kernel
theorem dX12_doubt_43 : decode cX12_doubt 43 = .ok (.iload 5, 2) := by decide +kernel
theorem dX12_doubt_45 : decode cX12_doubt 45 = .ok (.iaload, 1) := by decide +kernel
theorem dX12_doubt_46 : decode cX12_doubt 46 = .ok (.iload_n 1, 1) := by decide +kernel
theorem dX12_doubt_47 : decode cX12_doubt 47 = .ok (.isub, 1) := by decide +kernel
theorem dX12_doubt_48 : decode cX12_doubt 48 = .ok (.imul, 1) := by decide +kernel
theorem dX12_doubt_49 : decode cX12_doubt 49 = .ok (.aload_n 0, 1) := by decide +kernel
theorem dX12_doubt_50 : decode cX12_doubt 50 = .ok (.getfield 13, 3) := by decide +kernel
theorem dX12_doubt_53 : decode cX12_doubt 53 = .ok (.iload 5, 2) := by decide +kernel
theorem dX12_doubt_55 : decode cX12_doubt 55 = .ok (.iaload, 1) := by decide +kernel
theorem dX12_doubt_56 : decode cX12_doubt 56 = .ok (.iload_n 2, 1) := by decide +kernel
theorem dX12_doubt_57 : decode cX12_doubt 57 = .ok (.isub, 1) := by decide +kernel
theorem dX12_doubt_58 : decode cX12_doubt 58 = .ok (.aload_n 0, 1) := by decide +kernel
theorem dX12_doubt_59 : decode cX12_doubt 59 = .ok (.getfield 13, 3) := by decide +kernel
theorem dX12_doubt_62 : decode cX12_doubt 62 = .ok (.iload 5, 2) := by decide +kernel
theorem dX12_doubt_64 : decode cX12_doubt 64 = .ok (.iaload, 1) := by decide +kernel
theorem dX12_doubt_65 : decode cX12_doubt 65 = .ok (.iload_n 2, 1) := by decide +kernel
theorem dX12_doubt_66 : decode cX12_doubt 66 = .ok (.isub, 1) := by decide +kernel
theorem dX12_doubt_67 : decode cX12_doubt 67 = .ok (.imul, 1) := by decide +kernel
theorem dX12_doubt_68 : decode cX12_doubt 68 = .ok (.iadd, 1) := by decide +kernel
theorem dX12_doubt_69 : decode cX12_doubt 69 = .ok (.istore 6, 2) := by decide +kernel
theorem dX12_doubt_71 : decode cX12_doubt 71 = .ok (.iload_n 3, 1) := by decide +kernel
theorem dX12_doubt_72 : decode cX12_doubt 72 = .ok (.iconst (-1), 1) := by decide +kernel
theorem dX12_doubt_73 : decode cX12_doubt 73 = .ok (.if_icmp .eq 10, 3) := by decide +kernel
theorem dX12_doubt_76 : decode cX12_doubt 76 = .ok (.iload 6, 2) := by decide +kernel
theorem dX12_doubt_78 : decode cX12_doubt 78 = .ok (.iload 4, 2) := by decide +kernel
theorem dX12_doubt_80 : decode cX12_doubt 80 = .ok (.if_icmp .ge 10, 3) := by decide +kernel
theorem dX12_doubt_83 : decode cX12_doubt 83 = .ok (.iload 5, 2) := by decide +kernel
theorem dX12_doubt_85 : decode cX12_doubt 85 = .ok (.istore_n 3, 1) := by decide +kernel
theorem dX12_doubt_86 : decode cX12_doubt 86 = .ok (.iload 6, 2) := by decide +kernel
theorem dX12_doubt_88 : decode cX12_doubt 88 = .ok (.istore 4, 2) := by decide +kernel
theorem dX12_doubt_90 : decode cX12_doubt 90 = .ok (.iinc 5 1, 3) := by decide +kernel
theorem dX12_doubt_93 : decode cX12_doubt 93 = .ok (.goto (-80), 3) := by decide +kernel
theorem dX12_doubt_96 : decode cX12_doubt 96 = .ok (.iload_n 3, 1) := by decide +kernel
theorem dX12_doubt_97 : decode cX12_doubt 97 = .ok (.ireturn, 1) := by decide +kernel
theorem dX12_edge_0 : decode cX12_edge 0 = .ok (.aload_n 0, 1) := by decide +kernel
theorem dX12_edge_1 : decode cX12_edge 1 = .ok (.invokevirtual 219, 3) := by decide +kernel
theorem dX12_edge_4 : decode cX12_edge 4 = .ok (.ifCond .ne 52, 3) := by decide +kernel
theorem dX12_edge_7 : decode cX12_edge 7 = .ok (.aload_n 0, 1) := by decide +kernel
theorem dX12_edge_8 : decode cX12_edge 8 = .ok (.iload_n 1, 1) := by decide +kernel
theorem dX12_edge_9 : decode cX12_edge 9 = .ok (.iconst 0, 1) := by decide +kernel
theorem dX12_edge_10 : decode cX12_edge 10 = .ok (.aload_n 0, 1) := by decide +kernel
theorem dX12_edge_11 : decode cX12_edge 11 = .ok (.getfield 157, 3) := by decide +kernel
theorem dX12_edge_14 : decode cX12_edge 14 = .ok (.iconst 1, 1) := by decide +kernel
theorem dX12_edge_15 : decode cX12_edge 15 = .ok (.isub, 1) := by decide +kernel
theorem dX12_edge_16 : decode cX12_edge 16 = .ok (.invokestatic 109, 3) := by decide +kernel
theorem dX12_edge_19 : decode cX12_edge 19 = .ok (.ifCond .ne 7, 3) := by decide +kernel
theorem dX12_edge_22 : decode cX12_edge 22 = .ok (.iconst 1, 1) := by decide +kernel
theorem dX12_edge_23 : decode cX12_edge 23 = .ok (.goto 4, 3) := by decide +kernel
theorem dX12_edge_26 : decode cX12_edge 26 = .ok (.iconst 0, 1) := by decide +kernel
theorem dX12_edge_27 : decode cX12_edge 27 = .ok (.iconst 2, 1) := by decide +kernel
theorem dX12_edge_28 : decode cX12_edge 28 = .ok (.invokevirtual 215, 3) := by decide +kernel
theorem dX12_edge_31 : decode cX12_edge 31 = .ok (.ifCond .ne 25, 3) := by decide +kernel
theorem dX12_edge_34 : decode cX12_edge 34 = .ok (.aload_n 0, 1) := by decide +kernel
theorem dX12_edge_35 : decode cX12_edge 35 = .ok (.iload_n 2, 1) := by decide +kernel
theorem dX12_edge_36 : decode cX12_edge 36 = .ok (.iconst 0, 1) := by decide +kernel
theorem dX12_edge_37 : decode cX12_edge 37 = .ok (.iconst 2, 1) := by decide +kernel
theorem dX12_edge_38 : decode cX12_edge 38 = .ok (.invokestatic 109, 3) := by decide +kernel
theorem dX12_edge_41 : decode cX12_edge 41 = .ok (.ifCond .ne 7, 3) := by decide +kernel
theorem dX12_edge_44 : decode cX12_edge 44 = .ok (.iconst 1, 1) := by decide +kernel
theorem dX12_edge_45 : decode cX12_edge 45 = .ok (.goto 4, 3) := by decide +kernel
theorem dX12_edge_48 : decode cX12_edge 48 = .ok (.iconst 0, 1) := by decide +kernel
theorem dX12_edge_49 : decode cX12_edge 49 = .ok (.iconst 3, 1) := by decide +kernel
theorem dX12_edge_50 : decode cX12_edge 50 = .ok (.invokevirtual 215, 3) := by decide +kernel
theorem dX12_edge_53 : decode cX12_edge 53 = .ok (.ifCond .eq 5, 3) := by decide +kernel
theorem dX12_edge_56 : decode cX12_edge 56 = .ok (.iconst 0, 1) := by decide +kernel
theorem dX12_edge_57 : decode cX12_edge 57 = .ok (.ireturn, 1) := by decide +kernel
theorem dX12_edge_58 : decode cX12_edge 58 = .ok (.iload_n 2, 1) := by decide +kernel
theorem dX12_edge_59 : decode cX12_edge 59 = .ok (.ifCond .ne 12, 3) := by decide +kernel
theorem dX12_edge_62 : decode cX12_edge 62 = .ok (.aload_n 0, 1) := by decide +kernel
theorem dX12_edge_63 : decode cX12_edge 63 = .ok (.getfield 41, 3) := by decide +kernel
theorem dX12_edge_66 : decode cX12_edge 66 = .ok (.iload_n 1, 1) := by decide +kernel
theorem dX12_edge_67 : decode cX12_edge 67 = .ok (.iaload, 1) := by decide +kernel
theorem dX12_edge_68 : decode cX12_edge 68 = .ok (.goto 31, 3) := by decide +kernel
theorem dX12_edge_71 : decode cX12_edge 71 = .ok (.iload_n 2, 1) := by decide +kernel
theorem dX12_edge_72 : decode cX12_edge 72 = .ok (.iconst 1, 1) := by decide +kernel
theorem dX12_edge_73 : decode cX12_edge 73 = .ok (.if_icmp .ne 12, 3) := by decide +kernel
theorem dX12_edge_76 : decode cX12_edge 76 = .ok (.aload_n 0, 1) := by decide +kernel
theorem dX12_edge_77 : decode cX12_edge 77 = .ok (.getfield 44, 3) := by decide +kernel
theorem dX12_edge_80 : decode cX12_edge 80 = .ok (.iload_n 1, 1) := by decide +kernel
theorem dX12_edge_81 : decode cX12_edge 81 = .ok (.iaload, 1) := by decide +kernel
theorem dX12_edge_82 : decode cX12_edge 82 = .ok (.goto 17, 3) := by decide +kernel
theorem dX12_edge_85 : decode cX12_edge 85 = .ok (.aload_n 0, 1) := by decide +kernel
theorem dX12_edge_86 : decode cX12_edge 86 = .ok (.getfield 47, 3) := by decide +kernel
theorem dX12_edge_89 : decode cX12_edge 89 = .ok (.iload_n 1, 1) := by decide +kernel
theorem dX12_edge_90 : decode cX12_edge 90 = .ok (.baload, 1) := by decide +kernel
theorem dX12_edge_91 : decode cX12_edge 91 = .ok (.ifCond .eq 7, 3) := by decide +kernel
theorem dX12_edge_94 : decode cX12_edge 94 = .ok (.iconst 1, 1) := by decide +kernel
theorem dX12_edge_95 : decode cX12_edge 95 = .ok (.goto 4, 3) := by decide +kernel
theorem dX12_edge_98 : decode cX12_edge 98 = .ok (.iconst 0, 1) := by decide +kernel
theorem dX12_edge_99 : decode cX12_edge 99 = .ok (.ireturn, 1) := by decide +kernel
theorem dX12_fails_0 : decode cX12_fails 0 = .ok (.aload_n 0, 1) := by decide +kernel
theorem dX12_fails_1 : decode cX12_fails 1 = .ok (.getfield 106, 3) := by decide +kernel
theorem dX12_fails_4 : decode cX12_fails 4 = .ok (.ifCond .ne 12, 3) := by decide +kernel
theorem dX12_fails_7 : decode cX12_fails 7 = .ok (.iload_n 1, 1) := by decide +kernel
theorem dX12_fails_8 : decode cX12_fails 8 = .ok (.ifCond .eq 8, 3) := by decide +kernel
theorem dX12_fails_11 : decode cX12_fails 11 = .ok (.aload_n 0, 1) := by decide +kernel
theorem dX12_fails_12 : decode cX12_fails 12 = .ok (.iload_n 2, 1) := by decide +kernel
theorem dX12_fails_13 : decode cX12_fails 13 = .ok (.putfield 106, 3) := by decide +kernel
theorem dX12_fails_16 : decode cX12_fails 16 = .ok (.aload_n 0, 1) := by decide +kernel
theorem dX12_fails_17 : decode cX12_fails 17 = .ok (.getfield 106, 3) := by decide +kernel
theorem dX12_fails_20 : decode cX12_fails 20 = .ok (.ifCond .le 7, 3) := by decide +kernel
theorem dX12_fails_23 : decode cX12_fails 23 = .ok (.iconst 1, 1) := by decide +kernel
theorem dX12_fails_24 : decode cX12_fails 24 = .ok (.goto 4, 3) := by decide +kernel
theorem dX12_fails_27 : decode cX12_fails 27 = .ok (.iconst 0, 1) := by decide +kernel
theorem dX12_fails_28 : decode cX12_fails 28 = .ok (.ireturn, 1) := by decide +kernel
theorem dX12_fault_0 : decode cX12_fault 0 = .ok (.aload_n 0, 1) := by decide +kernel
theorem dX12_fault_1 : decode cX12_fault 1 = .ok (.iconst 0, 1) := by decide +kernel
theorem dX12_fault_2 : decode cX12_fault 2 = .ok (.putfield 106, 3) := by decide +kernel
theorem dX12_fault_5 : decode cX12_fault 5 = .ok (.iload_n 1, 1) := by decide +kernel
theorem dX12_fault_6 : decode cX12_fault 6 = .ok (.iload_n 2, 1) := by decide +kernel
theorem dX12_fault_7 : decode cX12_fault 7 = .ok (.invokestatic 116, 3) := by decide +kernel
theorem dX12_fault_10 : decode cX12_fault 10 = .ok (.ifCond .eq 32, 3) := by decide +kernel
theorem dX12_fault_13 : decode cX12_fault 13 = .ok (.iload_n 3, 1) := by decide +kernel
theorem dX12_fault_14 : decode cX12_fault 14 = .ok (.iload 4, 2) := by decide +kernel
theorem dX12_fault_16 : decode cX12_fault 16 = .ok (.invokestatic 116, 3) := by decide +kernel
theorem dX12_fault_19 : decode cX12_fault 19 = .ok (.ifCond .eq 23, 3) := by decide +kernel
theorem dX12_fault_22 : decode cX12_fault 22 = .ok (.iload_n 1, 1) := by decide +kernel
theorem dX12_fault_23 : decode cX12_fault 23 = .ok (.iload_n 3, 1) := by decide +kernel
theorem dX12_fault_24 : decode cX12_fault 24 = .ok (.if_icmp .ne 9, 3) := by decide +kernel
theorem dX12_fault_27 : decode cX12_fault 27 = .ok (.iload_n 2, 1) := by decide +kernel
theorem dX12_fault_28 : decode cX12_fault 28 = .ok (.iload 4, 2) := by decide +kernel
theorem dX12_fault_30 : decode cX12_fault 30 = .ok (.if_icmp .eq 12, 3) := by decide +kernel
theorem dX12_fault_33 : decode cX12_fault 33 = .ok (.aload_n 0, 1) := by decide +kernel
theorem dX12_fault_34 : decode cX12_fault 34 = .ok (.getfield 133, 3) := by decide +kernel
theorem dX12_fault_37 : decode cX12_fault 37 = .ok (.bipush 8, 2) := by decide +kernel
theorem dX12_fault_39 : decode cX12_fault 39 = .ok (.if_icmp .ne 5, 3) := by decide +kernel
theorem dX12_fault_42 : decode cX12_fault 42 = .ok (.iconst 0, 1) := by decide +kernel
theorem dX12_fault_43 : decode cX12_fault 43 = .ok (.ireturn, 1) := by decide +kernel
theorem dX12_fault_44 : decode cX12_fault 44 = .ok (.aload_n 0, 1) := by decide +kernel
theorem dX12_fault_45 : decode cX12_fault 45 = .ok (.getfield 31, 3) := by decide +kernel
theorem dX12_fault_48 : decode cX12_fault 48 = .ok (.iconst 4, 1) := by decide +kernel
theorem dX12_fault_49 : decode cX12_fault 49 = .ok (.aload_n 0, 1) := by decide +kernel
theorem dX12_fault_50 : decode cX12_fault 50 = .ok (.getfield 133, 3) := by decide +kernel
theorem dX12_fault_53 : decode cX12_fault 53 = .ok (.imul, 1) := by decide +kernel
theorem dX12_fault_54 : decode cX12_fault 54 = .ok (.iload_n 1, 1) := by decide +kernel
theorem dX12_fault_55 : decode cX12_fault 55 = .ok (.iastore, 1) := by decide +kernel
theorem dX12_fault_56 : decode cX12_fault 56 = .ok (.aload_n 0, 1) := by decide +kernel
theorem dX12_fault_57 : decode cX12_fault 57 = .ok (.getfield 31, 3) := by decide +kernel
theorem dX12_fault_60 : decode cX12_fault 60 = .ok (.iconst 4, 1) := by decide +kernel
theorem dX12_fault_61 : decode cX12_fault 61 = .ok (.aload_n 0, 1) := by decide +kernel
theorem dX12_fault_62 : decode cX12_fault 62 = .ok (.getfield 133, 3) := by decide +kernel
theorem dX12_fault_65 : decode cX12_fault 65 = .ok (.imul, 1) := by decide +kernel
theorem dX12_fault_66 : decode cX12_fault 66 = .ok (.iconst 1, 1) := by decide +kernel
theorem dX12_fault_67 : decode cX12_fault 67 = .ok (.iadd, 1) := by decide +kernel
theorem dX12_fault_68 : decode cX12_fault 68 = .ok (.iload_n 2, 1) := by decide +kernel
theorem dX12_fault_69 : decode cX12_fault 69 = .ok (.iastore, 1) := by decide +kernel
theorem dX12_fault_70 : decode cX12_fault 70 = .ok (.aload_n 0, 1) := by decide +kernel
theorem dX12_fault_71 : decode cX12_fault 71 = .ok (.getfield 31, 3) := by decide +kernel
theorem dX12_fault_74 : decode cX12_fault 74 = .ok (.iconst 4, 1) := by decide +kernel
theorem dX12_fault_75 : decode cX12_fault 75 = .ok (.aload_n 0, 1) := by decide +kernel
theorem dX12_fault_76 : decode cX12_fault 76 = .ok (.getfield 133, 3) := by decide +kernel
theorem dX12_fault_79 : decode cX12_fault 79 = .ok (.imul, 1) := by decide +kernel
theorem dX12_fault_80 : decode cX12_fault 80 = .ok (.iconst 2, 1) := by decide +kernel
theorem dX12_fault_81 : decode cX12_fault 81 = .ok (.iadd, 1) := by decide +kernel
theorem dX12_fault_82 : decode cX12_fault 82 = .ok (.iload_n 3, 1) := by decide +kernel
theorem dX12_fault_83 : decode cX12_fault 83 = .ok (.iastore, 1) := by decide +kernel
theorem dX12_fault_84 : decode cX12_fault 84 = .ok (.aload_n 0, 1) := by decide +kernel
theorem dX12_fault_85 : decode cX12_fault 85 = .ok (.getfield 31, 3) := by decide +kernel
theorem dX12_fault_88 : decode cX12_fault 88 = .ok (.iconst 4, 1) := by decide +kernel
theorem dX12_fault_89 : decode cX12_fault 89 = .ok (.aload_n 0, 1) := by decide +kernel
theorem dX12_fault_90 : decode cX12_fault 90 = .ok (.getfield 133, 3) := by decide +kernel
theorem dX12_fault_93 : decode cX12_fault 93 = .ok (.imul, 1) := by decide +kernel
theorem dX12_fault_94 : decode cX12_fault 94 = .ok (.iconst 3, 1) := by decide +kernel
theorem dX12_fault_95 : decode cX12_fault 95 = .ok (.iadd, 1) := by decide +kernel
theorem dX12_fault_96 : decode cX12_fault 96 = .ok (.iload 4, 2) := by decide +kernel
theorem dX12_fault_98 : decode cX12_fault 98 = .ok (.iastore, 1) := by decide +kernel
theorem dX12_fault_99 : decode cX12_fault 99 = .ok (.aload_n 0, 1) := by decide +kernel
theorem dX12_fault_100 : decode cX12_fault 100 = .ok (.dup, 1) := by decide +kernel
theorem dX12_fault_101 : decode cX12_fault 101 = .ok (.getfield 133, 3) := by decide +kernel
theorem dX12_fault_104 : decode cX12_fault 104 = .ok (.iconst 1, 1) := by decide +kernel
theorem dX12_fault_105 : decode cX12_fault 105 = .ok (.iadd, 1) := by decide +kernel
theorem dX12_fault_106 : decode cX12_fault 106 = .ok (.putfield 133, 3) := by decide +kernel
theorem dX12_fault_109 : decode cX12_fault 109 = .ok (.aload_n 0, 1) := by decide +kernel
theorem dX12_fault_110 : decode cX12_fault 110 = .ok (.iconst 0, 1) := by decide +kernel
theorem dX12_fault_111 : decode cX12_fault 111 = .ok (.putfield 125, 3) := by decide +kernel
theorem dX12_fault_114 : decode cX12_fault 114 = .ok (.iconst 1, 1) := by decide +kernel
theorem dX12_fault_115 : decode cX12_fault 115 = .ok (.ireturn, 1) := by decide +kernel
theorem dX12_findBeds_0 : decode cX12_findBeds 0 = .ok (.aload_n 0, 1) := by decide +kernel
theorem dX12_findBeds_1 : decode cX12_findBeds 1 = .ok (.iconst 0, 1) := by decide +kernel
theorem dX12_findBeds_2 : decode cX12_findBeds 2 = .ok (.putfield 196, 3) := by decide +kernel
theorem dX12_findBeds_5 : decode cX12_findBeds 5 = .ok (.iconst 0, 1) := by decide +kernel
theorem dX12_findBeds_6 : decode cX12_findBeds 6 = .ok (.istore_n 1, 1) := by decide +kernel
theorem dX12_findBeds_7 : decode cX12_findBeds 7 = .ok (.iload_n 1, 1) := by decide +kernel
theorem dX12_findBeds_8 : decode cX12_findBeds 8 = .ok (.sipush 192, 3) := by decide +kernel
theorem dX12_findBeds_11 : decode cX12_findBeds 11 = .ok (.if_icmp .ge 16, 3) := by decide +kernel
theorem dX12_findBeds_14 : decode cX12_findBeds 14 = .ok (.aload_n 0, 1) := by decide +kernel
theorem dX12_findBeds_15 : decode cX12_findBeds 15 = .ok (.getfield 63, 3) := by decide +kernel
theorem dX12_findBeds_18 : decode cX12_findBeds 18 = .ok (.iload_n 1, 1) := by decide +kernel
theorem dX12_findBeds_19 : decode cX12_findBeds 19 = .ok (.iconst (-1), 1) := by decide +kernel
theorem dX12_findBeds_20 : decode cX12_findBeds 20 = .ok (.iastore, 1) := by decide +kernel
theorem dX12_findBeds_21 : decode cX12_findBeds 21 = .ok (.iinc 1 1, 3) := by decide +kernel
theorem dX12_findBeds_24 : decode cX12_findBeds 24 = .ok (.goto (-17), 3) := by decide +kernel
theorem dX12_findBeds_27 : decode cX12_findBeds 27 = .ok (.iconst 0, 1) := by decide +kernel
theorem dX12_findBeds_28 : decode cX12_findBeds 28 = .ok (.istore_n 1, 1) := by decide +kernel
theorem dX12_findBeds_29 : decode cX12_findBeds 29 = .ok (.iload_n 1, 1) := by decide +kernel
theorem dX12_findBeds_30 : decode cX12_findBeds 30 = .ok (.aload_n 0, 1) := by decide +kernel
theorem dX12_findBeds_31 : decode cX12_findBeds 31 = .ok (.getfield 113, 3) := by decide +kernel
theorem dX12_findBeds_34 : decode cX12_findBeds 34 = .ok (.if_icmp .ge 90, 3) := by decide +kernel
theorem dX12_findBeds_37 : decode cX12_findBeds 37 = .ok (.iconst 0, 1) := by decide +kernel
theorem dX12_findBeds_38 : decode cX12_findBeds 38 = .ok (.istore_n 2, 1) := by decide +kernel
theorem dX12_findBeds_39 : decode cX12_findBeds 39 = .ok (.iload_n 2, 1) := by decide +kernel
theorem dX12_findBeds_40 : decode cX12_findBeds 40 = .ok (.aload_n 0, 1) := by decide +kernel
theorem dX12_findBeds_41 : decode cX12_findBeds 41 = .ok (.getfield 19, 3) := by decide +kernel
theorem dX12_findBeds_44 : decode cX12_findBeds 44 = .ok (.iload_n 1, 1) := by decide +kernel
theorem dX12_findBeds_45 : decode cX12_findBeds 45 = .ok (.iaload, 1) := by decide +kernel
theorem dX12_findBeds_46 : decode cX12_findBeds 46 = .ok (.if_icmp .ge 72, 3) := by decide +kernel
theorem dX12_findBeds_49 : decode cX12_findBeds 49 = .ok (.aload_n 0, 1) := by decide +kernel
theorem dX12_findBeds_50 : decode cX12_findBeds 50 = .ok (.getfield 63, 3) := by decide +kernel
theorem dX12_findBeds_53 : decode cX12_findBeds 53 = .ok (.bipush 12, 2) := by decide +kernel
theorem dX12_findBeds_55 : decode cX12_findBeds 55 = .ok (.iload_n 1, 1) := by decide +kernel
theorem dX12_findBeds_56 : decode cX12_findBeds 56 = .ok (.imul, 1) := by decide +kernel
theorem dX12_findBeds_57 : decode cX12_findBeds 57 = .ok (.iload_n 2, 1) := by decide +kernel
theorem dX12_findBeds_58 : decode cX12_findBeds 58 = .ok (.iadd, 1) := by decide +kernel
theorem dX12_findBeds_59 : decode cX12_findBeds 59 = .ok (.iaload, 1) := by decide +kernel
theorem dX12_findBeds_60 : decode cX12_findBeds 60 = .ok (.iconst (-1), 1) := by decide +kernel
theorem dX12_findBeds_61 : decode cX12_findBeds 61 = .ok (.if_icmp .ne 51, 3) := by decide +kernel
theorem dX12_findBeds_64 : decode cX12_findBeds 64 = .ok (.aload_n 0, 1) := by decide +kernel
theorem dX12_findBeds_65 : decode cX12_findBeds 65 = .ok (.getfield 63, 3) := by decide +kernel
theorem dX12_findBeds_68 : decode cX12_findBeds 68 = .ok (.bipush 12, 2) := by decide +kernel
theorem dX12_findBeds_70 : decode cX12_findBeds 70 = .ok (.iload_n 1, 1) := by decide +kernel
theorem dX12_findBeds_71 : decode cX12_findBeds 71 = .ok (.imul, 1) := by decide +kernel
theorem dX12_findBeds_72 : decode cX12_findBeds 72 = .ok (.iload_n 2, 1) := by decide +kernel
theorem dX12_findBeds_73 : decode cX12_findBeds 73 = .ok (.iadd, 1) := by decide +kernel
theorem dX12_findBeds_74 : decode cX12_findBeds 74 = .ok (.aload_n 0, 1) := by decide +kernel
theorem dX12_findBeds_75 : decode cX12_findBeds 75 = .ok (.getfield 196, 3) := by decide +kernel
theorem dX12_findBeds_78 : decode cX12_findBeds 78 = .ok (.iastore, 1) := by decide +kernel
theorem dX12_findBeds_79 : decode cX12_findBeds 79 = .ok (.aload_n 0, 1) := by decide +kernel
theorem dX12_findBeds_80 : decode cX12_findBeds 80 = .ok (.getfield 66, 3) := by decide +kernel
theorem dX12_findBeds_83 : decode cX12_findBeds 83 = .ok (.aload_n 0, 1) := by decide +kernel
theorem dX12_findBeds_84 : decode cX12_findBeds 84 = .ok (.getfield 196, 3) := by decide +kernel
theorem dX12_findBeds_87 : decode cX12_findBeds 87 = .ok (.bipush 12, 2) := by decide +kernel
theorem dX12_findBeds_89 : decode cX12_findBeds 89 = .ok (.iload_n 1, 1) := by decide +kernel
theorem dX12_findBeds_90 : decode cX12_findBeds 90 = .ok (.imul, 1) := by decide +kernel
theorem dX12_findBeds_91 : decode cX12_findBeds 91 = .ok (.iload_n 2, 1) := by decide +kernel
theorem dX12_findBeds_92 : decode cX12_findBeds 92 = .ok (.iadd, 1) := by decide +kernel
theorem dX12_findBeds_93 : decode cX12_findBeds 93 = .ok (.iastore, 1) := by decide +kernel
theorem dX12_findBeds_94 : decode cX12_findBeds 94 = .ok (.aload_n 0, 1) := by decide +kernel
theorem dX12_findBeds_95 : decode cX12_findBeds 95 = .ok (.aload_n 0, 1) := by decide +kernel
theorem dX12_findBeds_96 : decode cX12_findBeds 96 = .ok (.getfield 196, 3) := by decide +kernel
theorem dX12_findBeds_99 : decode cX12_findBeds 99 = .ok (.invokevirtual 199, 3) := by decide +kernel
theorem dX12_findBeds_102 : decode cX12_findBeds 102 = .ok (.aload_n 0, 1) := by decide +kernel
theorem dX12_findBeds_103 : decode cX12_findBeds 103 = .ok (.dup, 1) := by decide +kernel
theorem dX12_findBeds_104 : decode cX12_findBeds 104 = .ok (.getfield 196, 3) := by decide +kernel
theorem dX12_findBeds_107 : decode cX12_findBeds 107 = .ok (.iconst 1, 1) := by decide +kernel
theorem dX12_findBeds_108 : decode cX12_findBeds 108 = .ok (.iadd, 1) := by decide +kernel
theorem dX12_findBeds_109 : decode cX12_findBeds 109 = .ok (.putfield 196, 3) := by decide +kernel
theorem dX12_findBeds_112 : decode cX12_findBeds 112 = .ok (.iinc 2 1, 3) := by decide +kernel
theorem dX12_findBeds_115 : decode cX12_findBeds 115 = .ok (.goto (-76), 3) := by decide +kernel
theorem dX12_findBeds_118 : decode cX12_findBeds 118 = .ok (.iinc 1 1, 3) := by decide +kernel
theorem dX12_findBeds_121 : decode cX12_findBeds 121 = .ok (.goto (-92), 3) := by decide +kernel
theorem dX12_findBeds_124 : decode cX12_findBeds 124 = .ok (.return_, 1) := by decide +kernel
theorem dX12_findEdges_0 : decode cX12_findEdges 0 = .ok (.aload_n 0, 1) := by decide +kernel
theorem dX12_findEdges_1 : decode cX12_findEdges 1 = .ok (.iconst 0, 1) := by decide +kernel
theorem dX12_findEdges_2 : decode cX12_findEdges 2 = .ok (.putfield 157, 3) := by decide +kernel
theorem dX12_findEdges_5 : decode cX12_findEdges 5 = .ok (.iconst 0, 1) := by decide +kernel
theorem dX12_findEdges_6 : decode cX12_findEdges 6 = .ok (.istore_n 1, 1) := by decide +kernel
theorem dX12_findEdges_7 : decode cX12_findEdges 7 = .ok (.iload_n 1, 1) := by decide +kernel
theorem dX12_findEdges_8 : decode cX12_findEdges 8 = .ok (.sipush 256, 3) := by decide +kernel
theorem dX12_findEdges_11 : decode cX12_findEdges 11 = .ok (.if_icmp .ge 16, 3) := by decide +kernel
theorem dX12_findEdges_14 : decode cX12_findEdges 14 = .ok (.aload_n 0, 1) := by decide +kernel
theorem dX12_findEdges_15 : decode cX12_findEdges 15 = .ok (.getfield 51, 3) := by decide +kernel
theorem dX12_findEdges_18 : decode cX12_findEdges 18 = .ok (.iload_n 1, 1) := by decide +kernel
theorem dX12_findEdges_19 : decode cX12_findEdges 19 = .ok (.iconst (-1), 1) := by decide +kernel
theorem dX12_findEdges_20 : decode cX12_findEdges 20 = .ok (.iastore, 1) := by decide +kernel
theorem dX12_findEdges_21 : decode cX12_findEdges 21 = .ok (.iinc 1 1, 3) := by decide +kernel
theorem dX12_findEdges_24 : decode cX12_findEdges 24 = .ok (.goto (-17), 3) := by decide +kernel
theorem dX12_findEdges_27 : decode cX12_findEdges 27 = .ok (.iconst (-1), 1) := by decide +kernel
theorem dX12_findEdges_28 : decode cX12_findEdges 28 = .ok (.istore_n 1, 1) := by decide +kernel
theorem dX12_findEdges_29 : decode cX12_findEdges 29 = .ok (.iconst (-1), 1) := by decide +kernel
theorem dX12_findEdges_30 : decode cX12_findEdges 30 = .ok (.istore_n 2, 1) := by decide +kernel
theorem dX12_findEdges_31 : decode cX12_findEdges 31 = .ok (.iconst 1, 1) := by decide +kernel
theorem dX12_findEdges_32 : decode cX12_findEdges 32 = .ok (.istore_n 3, 1) := by decide +kernel
theorem dX12_findEdges_33 : decode cX12_findEdges 33 = .ok (.iload_n 3, 1) := by decide +kernel
theorem dX12_findEdges_34 : decode cX12_findEdges 34 = .ok (.ifCond .eq 175, 3) := by decide +kernel
theorem dX12_findEdges_37 : decode cX12_findEdges 37 = .ok (.iconst (-1), 1) := by decide +kernel
theorem dX12_findEdges_38 : decode cX12_findEdges 38 = .ok (.istore 4, 2) := by decide +kernel
theorem dX12_findEdges_40 : decode cX12_findEdges 40 = .ok (.iconst 0, 1) := by decide +kernel
theorem dX12_findEdges_41 : decode cX12_findEdges 41 = .ok (.istore 5, 2) := by decide +kernel
theorem dX12_findEdges_43 : decode cX12_findEdges 43 = .ok (.iconst 0, 1) := by decide +kernel
theorem dX12_findEdges_44 : decode cX12_findEdges 44 = .ok (.istore 6, 2) := by decide +kernel
theorem dX12_findEdges_46 : decode cX12_findEdges 46 = .ok (.iload 6, 2) := by decide +kernel
theorem dX12_findEdges_48 : decode cX12_findEdges 48 = .ok (.aload_n 0, 1) := by decide +kernel
theorem dX12_findEdges_49 : decode cX12_findEdges 49 = .ok (.getfield 113, 3) := by decide +kernel
theorem dX12_findEdges_52 : decode cX12_findEdges 52 = .ok (.if_icmp .ge 102, 3) := by decide +kernel
theorem dX12_findEdges_55 : decode cX12_findEdges 55 = .ok (.iload 6, 2) := by decide +kernel
theorem dX12_findEdges_57 : decode cX12_findEdges 57 = .ok (.iconst 1, 1) := by decide +kernel
theorem dX12_findEdges_58 : decode cX12_findEdges 58 = .ok (.iadd, 1) := by decide +kernel
theorem dX12_findEdges_59 : decode cX12_findEdges 59 = .ok (.istore 7, 2) := by decide +kernel
theorem dX12_findEdges_61 : decode cX12_findEdges 61 = .ok (.iload 7, 2) := by decide +kernel
theorem dX12_findEdges_63 : decode cX12_findEdges 63 = .ok (.aload_n 0, 1) := by decide +kernel
theorem dX12_findEdges_64 : decode cX12_findEdges 64 = .ok (.getfield 113, 3) := by decide +kernel
theorem dX12_findEdges_67 : decode cX12_findEdges 67 = .ok (.if_icmp .ge 81, 3) := by decide +kernel
theorem dX12_findEdges_70 : decode cX12_findEdges 70 = .ok (.aload_n 0, 1) := by decide +kernel
theorem dX12_findEdges_71 : decode cX12_findEdges 71 = .ok (.iload 6, 2) := by decide +kernel
theorem dX12_findEdges_73 : decode cX12_findEdges 73 = .ok (.iload 7, 2) := by decide +kernel
theorem dX12_findEdges_75 : decode cX12_findEdges 75 = .ok (.invokevirtual 164, 3) := by decide +kernel
theorem dX12_findEdges_78 : decode cX12_findEdges 78 = .ok (.istore 8, 2) := by decide +kernel
theorem dX12_findEdges_80 : decode cX12_findEdges 80 = .ok (.iload 8, 2) := by decide +kernel
theorem dX12_findEdges_82 : decode cX12_findEdges 82 = .ok (.iload_n 1, 1) := by decide +kernel
theorem dX12_findEdges_83 : decode cX12_findEdges 83 = .ok (.if_icmp .gt 21, 3) := by decide +kernel
theorem dX12_findEdges_86 : decode cX12_findEdges 86 = .ok (.iload 8, 2) := by decide +kernel
theorem dX12_findEdges_88 : decode cX12_findEdges 88 = .ok (.iload_n 1, 1) := by decide +kernel
theorem dX12_findEdges_89 : decode cX12_findEdges 89 = .ok (.if_icmp .ne 19, 3) := by decide +kernel
theorem dX12_findEdges_92 : decode cX12_findEdges 92 = .ok (.bipush 16, 2) := by decide +kernel
theorem dX12_findEdges_94 : decode cX12_findEdges 94 = .ok (.iload 6, 2) := by decide +kernel
theorem dX12_findEdges_96 : decode cX12_findEdges 96 = .ok (.imul, 1) := by decide +kernel
theorem dX12_findEdges_97 : decode cX12_findEdges 97 = .ok (.iload 7, 2) := by decide +kernel
theorem dX12_findEdges_99 : decode cX12_findEdges 99 = .ok (.iadd, 1) := by decide +kernel
theorem dX12_findEdges_100 : decode cX12_findEdges 100 = .ok (.iload_n 2, 1) := by decide +kernel
theorem dX12_findEdges_101 : decode cX12_findEdges 101 = .ok (.if_icmp .le 7, 3) := by decide +kernel
theorem dX12_findEdges_104 : decode cX12_findEdges 104 = .ok (.iconst 1, 1) := by decide +kernel
theorem dX12_findEdges_105 : decode cX12_findEdges 105 = .ok (.goto 4, 3) := by decide +kernel
theorem dX12_findEdges_108 : decode cX12_findEdges 108 = .ok (.iconst 0, 1) := by decide +kernel
theorem dX12_findEdges_109 : decode cX12_findEdges 109 = .ok (.istore 9, 2) := by decide +kernel
theorem dX12_findEdges_111 : decode cX12_findEdges 111 = .ok (.iload 9, 2) := by decide +kernel
theorem dX12_findEdges_113 : decode cX12_findEdges 113 = .ok (.ifCond .eq 29, 3) := by decide +kernel
theorem dX12_findEdges_116 : decode cX12_findEdges 116 = .ok (.iload 4, 2) := by decide +kernel
theorem dX12_findEdges_118 : decode cX12_findEdges 118 = .ok (.ifCond .lt 10, 3) := by decide +kernel
theorem dX12_findEdges_121 : decode cX12_findEdges 121 = .ok (.iload 8, 2) := by decide +kernel
theorem dX12_findEdges_123 : decode cX12_findEdges 123 = .ok (.iload 5, 2) := by decide +kernel
theorem dX12_findEdges_125 : decode cX12_findEdges 125 = .ok (.if_icmp .ge 17, 3) := by decide +kernel
theorem dX12_findEdges_128 : decode cX12_findEdges 128 = .ok (.bipush 16, 2) := by decide +kernel
theorem dX12_findEdges_130 : decode cX12_findEdges 130 = .ok (.iload 6, 2) := by decide +kernel
theorem dX12_findEdges_132 : decode cX12_findEdges 132 = .ok (.imul, 1) := by decide +kernel
theorem dX12_findEdges_133 : decode cX12_findEdges 133 = .ok (.iload 7, 2) := by decide +kernel
theorem dX12_findEdges_135 : decode cX12_findEdges 135 = .ok (.iadd, 1) := by decide +kernel
theorem dX12_findEdges_136 : decode cX12_findEdges 136 = .ok (.istore 4, 2) := by decide +kernel
theorem dX12_findEdges_138 : decode cX12_findEdges 138 = .ok (.iload 8, 2) := by decide +kernel
theorem dX12_findEdges_140 : decode cX12_findEdges 140 = .ok (.istore 5, 2) := by decide +kernel
theorem dX12_findEdges_142 : decode cX12_findEdges 142 = .ok (.iinc 7 1, 3) := by decide +kernel
theorem dX12_findEdges_145 : decode cX12_findEdges 145 = .ok (.goto (-84), 3) := by decide +kernel
theorem dX12_findEdges_148 : decode cX12_findEdges 148 = .ok (.iinc 6 1, 3) := by decide +kernel
theorem dX12_findEdges_151 : decode cX12_findEdges 151 = .ok (.goto (-105), 3) := by decide +kernel
theorem dX12_findEdges_154 : decode cX12_findEdges 154 = .ok (.iload 4, 2) := by decide +kernel
theorem dX12_findEdges_156 : decode cX12_findEdges 156 = .ok (.ifCond .lt 7, 3) := by decide +kernel
theorem dX12_findEdges_159 : decode cX12_findEdges 159 = .ok (.iconst 1, 1) := by decide +kernel
theorem dX12_findEdges_160 : decode cX12_findEdges 160 = .ok (.goto 4, 3) := by decide +kernel
theorem dX12_findEdges_163 : decode cX12_findEdges 163 = .ok (.iconst 0, 1) := by decide +kernel
theorem dX12_findEdges_164 : decode cX12_findEdges 164 = .ok (.istore_n 3, 1) := by decide +kernel
theorem dX12_findEdges_165 : decode cX12_findEdges 165 = .ok (.iload 5, 2) := by decide +kernel
theorem dX12_findEdges_167 : decode cX12_findEdges 167 = .ok (.istore_n 1, 1) := by decide +kernel
theorem dX12_findEdges_168 : decode cX12_findEdges 168 = .ok (.iload 4, 2) := by decide +kernel
theorem dX12_findEdges_170 : decode cX12_findEdges 170 = .ok (.istore_n 2, 1) := by decide +kernel
theorem dX12_findEdges_171 : decode cX12_findEdges 171 = .ok (.iload_n 3, 1) := by decide +kernel
theorem dX12_findEdges_172 : decode cX12_findEdges 172 = .ok (.ifCond .eq 34, 3) := by decide +kernel
theorem dX12_findEdges_175 : decode cX12_findEdges 175 = .ok (.aload_n 0, 1) := by decide +kernel
theorem dX12_findEdges_176 : decode cX12_findEdges 176 = .ok (.iload 4, 2) := by decide +kernel
theorem dX12_findEdges_178 : decode cX12_findEdges 178 = .ok (.bipush 16, 2) := by decide +kernel
theorem dX12_findEdges_180 : decode cX12_findEdges 180 = .ok (.idiv, 1) := by decide +kernel
theorem dX12_findEdges_181 : decode cX12_findEdges 181 = .ok (.iload 4, 2) := by decide +kernel
theorem dX12_findEdges_183 : decode cX12_findEdges 183 = .ok (.bipush 16, 2) := by decide +kernel
theorem dX12_findEdges_185 : decode cX12_findEdges 185 = .ok (.irem, 1) := by decide +kernel
theorem dX12_findEdges_186 : decode cX12_findEdges 186 = .ok (.invokevirtual 168, 3) := by decide +kernel
theorem dX12_findEdges_189 : decode cX12_findEdges 189 = .ok (.ifCond .eq 17, 3) := by decide +kernel
theorem dX12_findEdges_192 : decode cX12_findEdges 192 = .ok (.aload_n 0, 1) := by decide +kernel
theorem dX12_findEdges_193 : decode cX12_findEdges 193 = .ok (.iload 4, 2) := by decide +kernel
theorem dX12_findEdges_195 : decode cX12_findEdges 195 = .ok (.bipush 16, 2) := by decide +kernel
theorem dX12_findEdges_197 : decode cX12_findEdges 197 = .ok (.idiv, 1) := by decide +kernel
theorem dX12_findEdges_198 : decode cX12_findEdges 198 = .ok (.iload 4, 2) := by decide +kernel
theorem dX12_findEdges_200 : decode cX12_findEdges 200 = .ok (.bipush 16, 2) := by decide +kernel
theorem dX12_findEdges_202 : decode cX12_findEdges 202 = .ok (.irem, 1) := by decide +kernel
theorem dX12_findEdges_203 : decode cX12_findEdges 203 = .ok (.invokevirtual 171, 3) := by decide +kernel
theorem dX12_findEdges_206 : decode cX12_findEdges 206 = .ok (.goto (-173), 3) := by decide +kernel
theorem dX12_findEdges_209 : decode cX12_findEdges 209 = .ok (.return_, 1) := by decide +kernel
theorem dX12_findLevel_0 : decode cX12_findLevel 0 = .ok (.aload_n 0, 1) := by decide +kernel
theorem dX12_findLevel_1 : decode cX12_findLevel 1 = .ok (.lconst 0, 1) := by decide +kernel
theorem dX12_findLevel_2 : decode cX12_findLevel 2 = .ok (.putfield 227, 3) := by decide +kernel
theorem dX12_findLevel_5 : decode cX12_findLevel 5 = .ok (.aload_n 0, 1) := by decide +kernel
theorem dX12_findLevel_6 : decode cX12_findLevel 6 = .ok (.lconst 0, 1) := by decide +kernel
theorem dX12_findLevel_7 : decode cX12_findLevel 7 = .ok (.putfield 231, 3) := by decide +kernel
theorem dX12_findLevel_10 : decode cX12_findLevel 10 = .ok (.aload_n 0, 1) := by decide +kernel
theorem dX12_findLevel_11 : decode cX12_findLevel 11 = .ok (.getfield 113, 3) := by decide +kernel
theorem dX12_findLevel_14 : decode cX12_findLevel 14 = .ok (.iconst 1, 1) := by decide +kernel
theorem dX12_findLevel_15 : decode cX12_findLevel 15 = .ok (.if_icmp .ne 25, 3) := by decide +kernel
theorem dX12_findLevel_18 : decode cX12_findLevel 18 = .ok (.aload_n 0, 1) := by decide +kernel
theorem dX12_findLevel_19 : decode cX12_findLevel 19 = .ok (.iload_n 1, 1) := by decide +kernel
theorem dX12_findLevel_20 : decode cX12_findLevel 20 = .ok (.iload_n 2, 1) := by decide +kernel
theorem dX12_findLevel_21 : decode cX12_findLevel 21 = .ok (.iconst 0, 1) := by decide +kernel
theorem dX12_findLevel_22 : decode cX12_findLevel 22 = .ok (.invokevirtual 242, 3) := by decide +kernel
theorem dX12_findLevel_25 : decode cX12_findLevel 25 = .ok (.ifCond .eq 15, 3) := by decide +kernel
theorem dX12_findLevel_28 : decode cX12_findLevel 28 = .ok (.aload_n 0, 1) := by decide +kernel
theorem dX12_findLevel_29 : decode cX12_findLevel 29 = .ok (.aload_n 0, 1) := by decide +kernel
theorem dX12_findLevel_30 : decode cX12_findLevel 30 = .ok (.iload_n 1, 1) := by decide +kernel
theorem dX12_findLevel_31 : decode cX12_findLevel 31 = .ok (.iload_n 2, 1) := by decide +kernel
theorem dX12_findLevel_32 : decode cX12_findLevel 32 = .ok (.iconst 0, 1) := by decide +kernel
theorem dX12_findLevel_33 : decode cX12_findLevel 33 = .ok (.invokevirtual 234, 3) := by decide +kernel
theorem dX12_findLevel_36 : decode cX12_findLevel 36 = .ok (.lconst 1, 1) := by decide +kernel
theorem dX12_findLevel_37 : decode cX12_findLevel 37 = .ok (.invokevirtual 238, 3) := by decide +kernel
theorem dX12_findLevel_40 : decode cX12_findLevel 40 = .ok (.iconst 0, 1) := by decide +kernel
theorem dX12_findLevel_41 : decode cX12_findLevel 41 = .ok (.istore 5, 2) := by decide +kernel
theorem dX12_findLevel_43 : decode cX12_findLevel 43 = .ok (.iload 5, 2) := by decide +kernel
theorem dX12_findLevel_45 : decode cX12_findLevel 45 = .ok (.aload_n 0, 1) := by decide +kernel
theorem dX12_findLevel_46 : decode cX12_findLevel 46 = .ok (.getfield 113, 3) := by decide +kernel
theorem dX12_findLevel_49 : decode cX12_findLevel 49 = .ok (.if_icmp .ge 65, 3) := by decide +kernel
theorem dX12_findLevel_52 : decode cX12_findLevel 52 = .ok (.aload_n 0, 1) := by decide +kernel
theorem dX12_findLevel_53 : decode cX12_findLevel 53 = .ok (.getfield 231, 3) := by decide +kernel
theorem dX12_findLevel_56 : decode cX12_findLevel 56 = .ok (.lconst 0, 1) := by decide +kernel
theorem dX12_findLevel_57 : decode cX12_findLevel 57 = .ok (.lcmp, 1) := by decide +kernel
theorem dX12_findLevel_58 : decode cX12_findLevel 58 = .ok (.ifCond .ne 56, 3) := by decide +kernel
theorem dX12_findLevel_61 : decode cX12_findLevel 61 = .ok (.aload_n 0, 1) := by decide +kernel
theorem dX12_findLevel_62 : decode cX12_findLevel 62 = .ok (.getfield 7, 3) := by decide +kernel
theorem dX12_findLevel_65 : decode cX12_findLevel 65 = .ok (.iload 5, 2) := by decide +kernel
theorem dX12_findLevel_67 : decode cX12_findLevel 67 = .ok (.iaload, 1) := by decide +kernel
theorem dX12_findLevel_68 : decode cX12_findLevel 68 = .ok (.iload_n 3, 1) := by decide +kernel
theorem dX12_findLevel_69 : decode cX12_findLevel 69 = .ok (.if_icmp .ne 39, 3) := by decide +kernel
theorem dX12_findLevel_72 : decode cX12_findLevel 72 = .ok (.aload_n 0, 1) := by decide +kernel
theorem dX12_findLevel_73 : decode cX12_findLevel 73 = .ok (.getfield 13, 3) := by decide +kernel
theorem dX12_findLevel_76 : decode cX12_findLevel 76 = .ok (.iload 5, 2) := by decide +kernel
theorem dX12_findLevel_78 : decode cX12_findLevel 78 = .ok (.iaload, 1) := by decide +kernel
theorem dX12_findLevel_79 : decode cX12_findLevel 79 = .ok (.iload 4, 2) := by decide +kernel
theorem dX12_findLevel_81 : decode cX12_findLevel 81 = .ok (.if_icmp .ne 27, 3) := by decide +kernel
theorem dX12_findLevel_84 : decode cX12_findLevel 84 = .ok (.aload_n 0, 1) := by decide +kernel
theorem dX12_findLevel_85 : decode cX12_findLevel 85 = .ok (.iload_n 1, 1) := by decide +kernel
theorem dX12_findLevel_86 : decode cX12_findLevel 86 = .ok (.iload_n 2, 1) := by decide +kernel
theorem dX12_findLevel_87 : decode cX12_findLevel 87 = .ok (.iload 5, 2) := by decide +kernel
theorem dX12_findLevel_89 : decode cX12_findLevel 89 = .ok (.invokevirtual 242, 3) := by decide +kernel
theorem dX12_findLevel_92 : decode cX12_findLevel 92 = .ok (.ifCond .eq 16, 3) := by decide +kernel
theorem dX12_findLevel_95 : decode cX12_findLevel 95 = .ok (.aload_n 0, 1) := by decide +kernel
theorem dX12_findLevel_96 : decode cX12_findLevel 96 = .ok (.aload_n 0, 1) := by decide +kernel
theorem dX12_findLevel_97 : decode cX12_findLevel 97 = .ok (.iload_n 1, 1) := by decide +kernel
theorem dX12_findLevel_98 : decode cX12_findLevel 98 = .ok (.iload_n 2, 1) := by decide +kernel
theorem dX12_findLevel_99 : decode cX12_findLevel 99 = .ok (.iload 5, 2) := by decide +kernel
theorem dX12_findLevel_101 : decode cX12_findLevel 101 = .ok (.invokevirtual 234, 3) := by decide +kernel
theorem dX12_findLevel_104 : decode cX12_findLevel 104 = .ok (.lconst 1, 1) := by decide +kernel
theorem dX12_findLevel_105 : decode cX12_findLevel 105 = .ok (.invokevirtual 238, 3) := by decide +kernel
theorem dX12_findLevel_108 : decode cX12_findLevel 108 = .ok (.iinc 5 1, 3) := by decide +kernel
theorem dX12_findLevel_111 : decode cX12_findLevel 111 = .ok (.goto (-68), 3) := by decide +kernel
theorem dX12_findLevel_114 : decode cX12_findLevel 114 = .ok (.iconst 0, 1) := by decide +kernel
theorem dX12_findLevel_115 : decode cX12_findLevel 115 = .ok (.istore 5, 2) := by decide +kernel
theorem dX12_findLevel_117 : decode cX12_findLevel 117 = .ok (.iload 5, 2) := by decide +kernel
theorem dX12_findLevel_119 : decode cX12_findLevel 119 = .ok (.aload_n 0, 1) := by decide +kernel
theorem dX12_findLevel_120 : decode cX12_findLevel 120 = .ok (.getfield 182, 3) := by decide +kernel
theorem dX12_findLevel_123 : decode cX12_findLevel 123 = .ok (.if_icmp .ge 115, 3) := by decide +kernel
theorem dX12_findLevel_126 : decode cX12_findLevel 126 = .ok (.aload_n 0, 1) := by decide +kernel
theorem dX12_findLevel_127 : decode cX12_findLevel 127 = .ok (.getfield 231, 3) := by decide +kernel
theorem dX12_findLevel_130 : decode cX12_findLevel 130 = .ok (.lconst 0, 1) := by decide +kernel
theorem dX12_findLevel_131 : decode cX12_findLevel 131 = .ok (.lcmp, 1) := by decide +kernel
theorem dX12_findLevel_132 : decode cX12_findLevel 132 = .ok (.ifCond .ne 106, 3) := by decide +kernel
theorem dX12_findLevel_135 : decode cX12_findLevel 135 = .ok (.aload_n 0, 1) := by decide +kernel
theorem dX12_findLevel_136 : decode cX12_findLevel 136 = .ok (.getfield 60, 3) := by decide +kernel
theorem dX12_findLevel_139 : decode cX12_findLevel 139 = .ok (.iconst 3, 1) := by decide +kernel
theorem dX12_findLevel_140 : decode cX12_findLevel 140 = .ok (.iload 5, 2) := by decide +kernel
theorem dX12_findLevel_142 : decode cX12_findLevel 142 = .ok (.imul, 1) := by decide +kernel
theorem dX12_findLevel_143 : decode cX12_findLevel 143 = .ok (.iaload, 1) := by decide +kernel
theorem dX12_findLevel_144 : decode cX12_findLevel 144 = .ok (.istore 6, 2) := by decide +kernel
theorem dX12_findLevel_146 : decode cX12_findLevel 146 = .ok (.aload_n 0, 1) := by decide +kernel
theorem dX12_findLevel_147 : decode cX12_findLevel 147 = .ok (.getfield 60, 3) := by decide +kernel
theorem dX12_findLevel_150 : decode cX12_findLevel 150 = .ok (.iconst 3, 1) := by decide +kernel
theorem dX12_findLevel_151 : decode cX12_findLevel 151 = .ok (.iload 5, 2) := by decide +kernel
theorem dX12_findLevel_153 : decode cX12_findLevel 153 = .ok (.imul, 1) := by decide +kernel
theorem dX12_findLevel_154 : decode cX12_findLevel 154 = .ok (.iconst 1, 1) := by decide +kernel
theorem dX12_findLevel_155 : decode cX12_findLevel 155 = .ok (.iadd, 1) := by decide +kernel
theorem dX12_findLevel_156 : decode cX12_findLevel 156 = .ok (.iaload, 1) := by decide +kernel
theorem dX12_findLevel_157 : decode cX12_findLevel 157 = .ok (.istore 7, 2) := by decide +kernel
theorem dX12_findLevel_159 : decode cX12_findLevel 159 = .ok (.aload_n 0, 1) := by decide +kernel
theorem dX12_findLevel_160 : decode cX12_findLevel 160 = .ok (.getfield 60, 3) := by decide +kernel
theorem dX12_findLevel_163 : decode cX12_findLevel 163 = .ok (.iconst 3, 1) := by decide +kernel
theorem dX12_findLevel_164 : decode cX12_findLevel 164 = .ok (.iload 5, 2) := by decide +kernel
theorem dX12_findLevel_166 : decode cX12_findLevel 166 = .ok (.imul, 1) := by decide +kernel
theorem dX12_findLevel_167 : decode cX12_findLevel 167 = .ok (.iconst 2, 1) := by decide +kernel
theorem dX12_findLevel_168 : decode cX12_findLevel 168 = .ok (.iadd, 1) := by decide +kernel
theorem dX12_findLevel_169 : decode cX12_findLevel 169 = .ok (.iaload, 1) := by decide +kernel
theorem dX12_findLevel_170 : decode cX12_findLevel 170 = .ok (.istore 8, 2) := by decide +kernel
theorem dX12_findLevel_172 : decode cX12_findLevel 172 = .ok (.aload_n 0, 1) := by decide +kernel
theorem dX12_findLevel_173 : decode cX12_findLevel 173 = .ok (.iload 6, 2) := by decide +kernel
theorem dX12_findLevel_175 : decode cX12_findLevel 175 = .ok (.iload 7, 2) := by decide +kernel
theorem dX12_findLevel_177 : decode cX12_findLevel 177 = .ok (.iload 8, 2) := by decide +kernel
theorem dX12_findLevel_179 : decode cX12_findLevel 179 = .ok (.iload_n 3, 1) := by decide +kernel
theorem dX12_findLevel_180 : decode cX12_findLevel 180 = .ok (.iload 4, 2) := by decide +kernel
theorem dX12_findLevel_182 : decode cX12_findLevel 182 = .ok (.invokevirtual 178, 3) := by decide +kernel
theorem dX12_findLevel_185 : decode cX12_findLevel 185 = .ok (.ifCond .eq 47, 3) := by decide +kernel
theorem dX12_findLevel_188 : decode cX12_findLevel 188 = .ok (.aload_n 0, 1) := by decide +kernel
theorem dX12_findLevel_189 : decode cX12_findLevel 189 = .ok (.iload_n 1, 1) := by decide +kernel
theorem dX12_findLevel_190 : decode cX12_findLevel 190 = .ok (.iload_n 2, 1) := by decide +kernel
theorem dX12_findLevel_191 : decode cX12_findLevel 191 = .ok (.iload 6, 2) := by decide +kernel
theorem dX12_findLevel_193 : decode cX12_findLevel 193 = .ok (.invokevirtual 242, 3) := by decide +kernel
theorem dX12_findLevel_196 : decode cX12_findLevel 196 = .ok (.ifCond .eq 36, 3) := by decide +kernel
theorem dX12_findLevel_199 : decode cX12_findLevel 199 = .ok (.aload_n 0, 1) := by decide +kernel
theorem dX12_findLevel_200 : decode cX12_findLevel 200 = .ok (.iload_n 1, 1) := by decide +kernel
theorem dX12_findLevel_201 : decode cX12_findLevel 201 = .ok (.iload_n 2, 1) := by decide +kernel
theorem dX12_findLevel_202 : decode cX12_findLevel 202 = .ok (.iload 7, 2) := by decide +kernel
theorem dX12_findLevel_204 : decode cX12_findLevel 204 = .ok (.invokevirtual 242, 3) := by decide +kernel
theorem dX12_findLevel_207 : decode cX12_findLevel 207 = .ok (.ifCond .eq 25, 3) := by decide +kernel
theorem dX12_findLevel_210 : decode cX12_findLevel 210 = .ok (.aload_n 0, 1) := by decide +kernel
theorem dX12_findLevel_211 : decode cX12_findLevel 211 = .ok (.iload_n 1, 1) := by decide +kernel
theorem dX12_findLevel_212 : decode cX12_findLevel 212 = .ok (.iload_n 2, 1) := by decide +kernel
theorem dX12_findLevel_213 : decode cX12_findLevel 213 = .ok (.iload 8, 2) := by decide +kernel
theorem dX12_findLevel_215 : decode cX12_findLevel 215 = .ok (.invokevirtual 242, 3) := by decide +kernel
theorem dX12_findLevel_218 : decode cX12_findLevel 218 = .ok (.ifCond .eq 14, 3) := by decide +kernel
theorem dX12_findLevel_221 : decode cX12_findLevel 221 = .ok (.aload_n 0, 1) := by decide +kernel
theorem dX12_findLevel_222 : decode cX12_findLevel 222 = .ok (.iload_n 1, 1) := by decide +kernel
theorem dX12_findLevel_223 : decode cX12_findLevel 223 = .ok (.iload_n 2, 1) := by decide +kernel
theorem dX12_findLevel_224 : decode cX12_findLevel 224 = .ok (.iload 5, 2) := by decide +kernel
theorem dX12_findLevel_226 : decode cX12_findLevel 226 = .ok (.iload_n 3, 1) := by decide +kernel
theorem dX12_findLevel_227 : decode cX12_findLevel 227 = .ok (.iload 4, 2) := by decide +kernel
theorem dX12_findLevel_229 : decode cX12_findLevel 229 = .ok (.invokevirtual 245, 3) := by decide +kernel
theorem dX12_findLevel_232 : decode cX12_findLevel 232 = .ok (.iinc 5 1, 3) := by decide +kernel
theorem dX12_findLevel_235 : decode cX12_findLevel 235 = .ok (.goto (-118), 3) := by decide +kernel
theorem dX12_findLevel_238 : decode cX12_findLevel 238 = .ok (.return_, 1) := by decide +kernel
theorem dX12_findTriangles_0 : decode cX12_findTriangles 0 = .ok (.aload_n 0, 1) := by decide +kernel
theorem dX12_findTriangles_1 : decode cX12_findTriangles 1 = .ok (.iconst 0, 1) := by decide +kernel
theorem dX12_findTriangles_2 : decode cX12_findTriangles 2 = .ok (.putfield 182, 3) := by decide +kernel
theorem dX12_findTriangles_5 : decode cX12_findTriangles 5 = .ok (.iconst 0, 1) := by decide +kernel
theorem dX12_findTriangles_6 : decode cX12_findTriangles 6 = .ok (.istore_n 1, 1) := by decide +kernel
theorem dX12_findTriangles_7 : decode cX12_findTriangles 7 = .ok (.iload_n 1, 1) := by decide +kernel
theorem dX12_findTriangles_8 : decode cX12_findTriangles 8 = .ok (.aload_n 0, 1) := by decide +kernel
theorem dX12_findTriangles_9 : decode cX12_findTriangles 9 = .ok (.getfield 113, 3) := by decide +kernel
theorem dX12_findTriangles_12 : decode cX12_findTriangles 12 = .ok (.if_icmp .ge 105, 3) := by decide +kernel
theorem dX12_findTriangles_15 : decode cX12_findTriangles 15 = .ok (.iload_n 1, 1) := by decide +kernel
theorem dX12_findTriangles_16 : decode cX12_findTriangles 16 = .ok (.iconst 1, 1) := by decide +kernel
theorem dX12_findTriangles_17 : decode cX12_findTriangles 17 = .ok (.iadd, 1) := by decide +kernel
theorem dX12_findTriangles_18 : decode cX12_findTriangles 18 = .ok (.istore_n 2, 1) := by decide +kernel
theorem dX12_findTriangles_19 : decode cX12_findTriangles 19 = .ok (.iload_n 2, 1) := by decide +kernel
theorem dX12_findTriangles_20 : decode cX12_findTriangles 20 = .ok (.aload_n 0, 1) := by decide +kernel
theorem dX12_findTriangles_21 : decode cX12_findTriangles 21 = .ok (.getfield 113, 3) := by decide +kernel
theorem dX12_findTriangles_24 : decode cX12_findTriangles 24 = .ok (.if_icmp .ge 87, 3) := by decide +kernel
theorem dX12_findTriangles_27 : decode cX12_findTriangles 27 = .ok (.iload_n 2, 1) := by decide +kernel
theorem dX12_findTriangles_28 : decode cX12_findTriangles 28 = .ok (.iconst 1, 1) := by decide +kernel
theorem dX12_findTriangles_29 : decode cX12_findTriangles 29 = .ok (.iadd, 1) := by decide +kernel
theorem dX12_findTriangles_30 : decode cX12_findTriangles 30 = .ok (.istore_n 3, 1) := by decide +kernel
theorem dX12_findTriangles_31 : decode cX12_findTriangles 31 = .ok (.iload_n 3, 1) := by decide +kernel
theorem dX12_findTriangles_32 : decode cX12_findTriangles 32 = .ok (.aload_n 0, 1) := by decide +kernel
theorem dX12_findTriangles_33 : decode cX12_findTriangles 33 = .ok (.getfield 113, 3) := by decide +kernel
theorem dX12_findTriangles_36 : decode cX12_findTriangles 36 = .ok (.if_icmp .ge 69, 3) := by decide +kernel
theorem dX12_findTriangles_39 : decode cX12_findTriangles 39 = .ok (.aload_n 0, 1) := by decide +kernel
theorem dX12_findTriangles_40 : decode cX12_findTriangles 40 = .ok (.iload_n 1, 1) := by decide +kernel
theorem dX12_findTriangles_41 : decode cX12_findTriangles 41 = .ok (.iload_n 2, 1) := by decide +kernel
theorem dX12_findTriangles_42 : decode cX12_findTriangles 42 = .ok (.iload_n 3, 1) := by decide +kernel
theorem dX12_findTriangles_43 : decode cX12_findTriangles 43 = .ok (.invokevirtual 185, 3) := by decide +kernel
theorem dX12_findTriangles_46 : decode cX12_findTriangles 46 = .ok (.ifCond .eq 53, 3) := by decide +kernel
theorem dX12_findTriangles_49 : decode cX12_findTriangles 49 = .ok (.aload_n 0, 1) := by decide +kernel
theorem dX12_findTriangles_50 : decode cX12_findTriangles 50 = .ok (.getfield 60, 3) := by decide +kernel
theorem dX12_findTriangles_53 : decode cX12_findTriangles 53 = .ok (.iconst 3, 1) := by decide +kernel
theorem dX12_findTriangles_54 : decode cX12_findTriangles 54 = .ok (.aload_n 0, 1) := by decide +kernel
theorem dX12_findTriangles_55 : decode cX12_findTriangles 55 = .ok (.getfield 182, 3) := by decide +kernel
theorem dX12_findTriangles_58 : decode cX12_findTriangles 58 = .ok (.imul, 1) := by decide +kernel
theorem dX12_findTriangles_59 : decode cX12_findTriangles 59 = .ok (.iload_n 1, 1) := by decide +kernel
theorem dX12_findTriangles_60 : decode cX12_findTriangles 60 = .ok (.iastore, 1) := by decide +kernel
theorem dX12_findTriangles_61 : decode cX12_findTriangles 61 = .ok (.aload_n 0, 1) := by decide +kernel
theorem dX12_findTriangles_62 : decode cX12_findTriangles 62 = .ok (.getfield 60, 3) := by decide +kernel
theorem dX12_findTriangles_65 : decode cX12_findTriangles 65 = .ok (.iconst 3, 1) := by decide +kernel
theorem dX12_findTriangles_66 : decode cX12_findTriangles 66 = .ok (.aload_n 0, 1) := by decide +kernel
theorem dX12_findTriangles_67 : decode cX12_findTriangles 67 = .ok (.getfield 182, 3) := by decide +kernel
theorem dX12_findTriangles_70 : decode cX12_findTriangles 70 = .ok (.imul, 1) := by decide +kernel
theorem dX12_findTriangles_71 : decode cX12_findTriangles 71 = .ok (.iconst 1, 1) := by decide +kernel
theorem dX12_findTriangles_72 : decode cX12_findTriangles 72 = .ok (.iadd, 1) := by decide +kernel
theorem dX12_findTriangles_73 : decode cX12_findTriangles 73 = .ok (.iload_n 2, 1) := by decide +kernel
theorem dX12_findTriangles_74 : decode cX12_findTriangles 74 = .ok (.iastore, 1) := by decide +kernel
theorem dX12_findTriangles_75 : decode cX12_findTriangles 75 = .ok (.aload_n 0, 1) := by decide +kernel
theorem dX12_findTriangles_76 : decode cX12_findTriangles 76 = .ok (.getfield 60, 3) := by decide +kernel
theorem dX12_findTriangles_79 : decode cX12_findTriangles 79 = .ok (.iconst 3, 1) := by decide +kernel
theorem dX12_findTriangles_80 : decode cX12_findTriangles 80 = .ok (.aload_n 0, 1) := by decide +kernel
theorem dX12_findTriangles_81 : decode cX12_findTriangles 81 = .ok (.getfield 182, 3) := by decide +kernel
theorem dX12_findTriangles_84 : decode cX12_findTriangles 84 = .ok (.imul, 1) := by decide +kernel
theorem dX12_findTriangles_85 : decode cX12_findTriangles 85 = .ok (.iconst 2, 1) := by decide +kernel
theorem dX12_findTriangles_86 : decode cX12_findTriangles 86 = .ok (.iadd, 1) := by decide +kernel
theorem dX12_findTriangles_87 : decode cX12_findTriangles 87 = .ok (.iload_n 3, 1) := by decide +kernel
theorem dX12_findTriangles_88 : decode cX12_findTriangles 88 = .ok (.iastore, 1) := by decide +kernel
theorem dX12_findTriangles_89 : decode cX12_findTriangles 89 = .ok (.aload_n 0, 1) := by decide +kernel
theorem dX12_findTriangles_90 : decode cX12_findTriangles 90 = .ok (.dup, 1) := by decide +kernel
theorem dX12_findTriangles_91 : decode cX12_findTriangles 91 = .ok (.getfield 182, 3) := by decide +kernel
theorem dX12_findTriangles_94 : decode cX12_findTriangles 94 = .ok (.iconst 1, 1) := by decide +kernel
theorem dX12_findTriangles_95 : decode cX12_findTriangles 95 = .ok (.iadd, 1) := by decide +kernel
theorem dX12_findTriangles_96 : decode cX12_findTriangles 96 = .ok (.putfield 182, 3) := by decide +kernel
theorem dX12_findTriangles_99 : decode cX12_findTriangles 99 = .ok (.iinc 3 1, 3) := by decide +kernel
theorem dX12_findTriangles_102 : decode cX12_findTriangles 102 = .ok (.goto (-71), 3) := by decide +kernel
theorem dX12_findTriangles_105 : decode cX12_findTriangles 105 = .ok (.iinc 2 1, 3) := by decide +kernel
theorem dX12_findTriangles_108 : decode cX12_findTriangles 108 = .ok (.goto (-89), 3) := by decide +kernel
theorem dX12_findTriangles_111 : decode cX12_findTriangles 111 = .ok (.iinc 1 1, 3) := by decide +kernel
theorem dX12_findTriangles_114 : decode cX12_findTriangles 114 = .ok (.goto (-107), 3) := by decide +kernel
theorem dX12_findTriangles_117 : decode cX12_findTriangles 117 = .ok (.return_, 1) := by decide +kernel
theorem dX12_findWords_0 : decode cX12_findWords 0 = .ok (.aload_n 0, 1) := by decide +kernel
theorem dX12_findWords_1 : decode cX12_findWords 1 = .ok (.iconst 0, 1) := by decide +kernel
theorem dX12_findWords_2 : decode cX12_findWords 2 = .ok (.putfield 266, 3) := by decide +kernel
theorem dX12_findWords_5 : decode cX12_findWords 5 = .ok (.iconst 0, 1) := by decide +kernel
theorem dX12_findWords_6 : decode cX12_findWords 6 = .ok (.istore_n 1, 1) := by decide +kernel
theorem dX12_findWords_7 : decode cX12_findWords 7 = .ok (.iload_n 1, 1) := by decide +kernel
theorem dX12_findWords_8 : decode cX12_findWords 8 = .ok (.aload_n 0, 1) := by decide +kernel
theorem dX12_findWords_9 : decode cX12_findWords 9 = .ok (.getfield 263, 3) := by decide +kernel
theorem dX12_findWords_12 : decode cX12_findWords 12 = .ok (.if_icmp .ge 119, 3) := by decide +kernel
theorem dX12_findWords_15 : decode cX12_findWords 15 = .ok (.aload_n 0, 1) := by decide +kernel
theorem dX12_findWords_16 : decode cX12_findWords 16 = .ok (.getfield 72, 3) := by decide +kernel
theorem dX12_findWords_19 : decode cX12_findWords 19 = .ok (.iload_n 1, 1) := by decide +kernel
theorem dX12_findWords_20 : decode cX12_findWords 20 = .ok (.iaload, 1) := by decide +kernel
theorem dX12_findWords_21 : decode cX12_findWords 21 = .ok (.bipush 32, 2) := by decide +kernel
theorem dX12_findWords_23 : decode cX12_findWords 23 = .ok (.if_icmp .eq 14, 3) := by decide +kernel
theorem dX12_findWords_26 : decode cX12_findWords 26 = .ok (.aload_n 0, 1) := by decide +kernel
theorem dX12_findWords_27 : decode cX12_findWords 27 = .ok (.getfield 72, 3) := by decide +kernel
theorem dX12_findWords_30 : decode cX12_findWords 30 = .ok (.iload_n 1, 1) := by decide +kernel
theorem dX12_findWords_31 : decode cX12_findWords 31 = .ok (.iaload, 1) := by decide +kernel
theorem dX12_findWords_32 : decode cX12_findWords 32 = .ok (.bipush 10, 2) := by decide +kernel
theorem dX12_findWords_34 : decode cX12_findWords 34 = .ok (.if_icmp .ne 7, 3) := by decide +kernel
theorem dX12_findWords_37 : decode cX12_findWords 37 = .ok (.iconst 1, 1) := by decide +kernel
theorem dX12_findWords_38 : decode cX12_findWords 38 = .ok (.goto 4, 3) := by decide +kernel
theorem dX12_findWords_41 : decode cX12_findWords 41 = .ok (.iconst 0, 1) := by decide +kernel
theorem dX12_findWords_42 : decode cX12_findWords 42 = .ok (.istore_n 2, 1) := by decide +kernel
theorem dX12_findWords_43 : decode cX12_findWords 43 = .ok (.iload_n 1, 1) := by decide +kernel
theorem dX12_findWords_44 : decode cX12_findWords 44 = .ok (.ifCond .eq 29, 3) := by decide +kernel
theorem dX12_findWords_47 : decode cX12_findWords 47 = .ok (.aload_n 0, 1) := by decide +kernel
theorem dX12_findWords_48 : decode cX12_findWords 48 = .ok (.getfield 72, 3) := by decide +kernel
theorem dX12_findWords_51 : decode cX12_findWords 51 = .ok (.iload_n 1, 1) := by decide +kernel
theorem dX12_findWords_52 : decode cX12_findWords 52 = .ok (.iconst 1, 1) := by decide +kernel
theorem dX12_findWords_53 : decode cX12_findWords 53 = .ok (.isub, 1) := by decide +kernel
theorem dX12_findWords_54 : decode cX12_findWords 54 = .ok (.iaload, 1) := by decide +kernel
theorem dX12_findWords_55 : decode cX12_findWords 55 = .ok (.bipush 32, 2) := by decide +kernel
theorem dX12_findWords_57 : decode cX12_findWords 57 = .ok (.if_icmp .eq 16, 3) := by decide +kernel
theorem dX12_findWords_60 : decode cX12_findWords 60 = .ok (.aload_n 0, 1) := by decide +kernel
theorem dX12_findWords_61 : decode cX12_findWords 61 = .ok (.getfield 72, 3) := by decide +kernel
theorem dX12_findWords_64 : decode cX12_findWords 64 = .ok (.iload_n 1, 1) := by decide +kernel
theorem dX12_findWords_65 : decode cX12_findWords 65 = .ok (.iconst 1, 1) := by decide +kernel
theorem dX12_findWords_66 : decode cX12_findWords 66 = .ok (.isub, 1) := by decide +kernel
theorem dX12_findWords_67 : decode cX12_findWords 67 = .ok (.iaload, 1) := by decide +kernel
theorem dX12_findWords_68 : decode cX12_findWords 68 = .ok (.bipush 10, 2) := by decide +kernel
theorem dX12_findWords_70 : decode cX12_findWords 70 = .ok (.if_icmp .ne 7, 3) := by decide +kernel
theorem dX12_findWords_73 : decode cX12_findWords 73 = .ok (.iconst 1, 1) := by decide +kernel
theorem dX12_findWords_74 : decode cX12_findWords 74 = .ok (.goto 4, 3) := by decide +kernel
theorem dX12_findWords_77 : decode cX12_findWords 77 = .ok (.iconst 0, 1) := by decide +kernel
theorem dX12_findWords_78 : decode cX12_findWords 78 = .ok (.istore_n 3, 1) := by decide +kernel
theorem dX12_findWords_79 : decode cX12_findWords 79 = .ok (.iload_n 2, 1) := by decide +kernel
theorem dX12_findWords_80 : decode cX12_findWords 80 = .ok (.ifCond .ne 27, 3) := by decide +kernel
theorem dX12_findWords_83 : decode cX12_findWords 83 = .ok (.iload_n 3, 1) := by decide +kernel
theorem dX12_findWords_84 : decode cX12_findWords 84 = .ok (.ifCond .eq 23, 3) := by decide +kernel
theorem dX12_findWords_87 : decode cX12_findWords 87 = .ok (.aload_n 0, 1) := by decide +kernel
theorem dX12_findWords_88 : decode cX12_findWords 88 = .ok (.getfield 75, 3) := by decide +kernel
theorem dX12_findWords_91 : decode cX12_findWords 91 = .ok (.aload_n 0, 1) := by decide +kernel
theorem dX12_findWords_92 : decode cX12_findWords 92 = .ok (.getfield 266, 3) := by decide +kernel
theorem dX12_findWords_95 : decode cX12_findWords 95 = .ok (.iload_n 1, 1) := by decide +kernel
theorem dX12_findWords_96 : decode cX12_findWords 96 = .ok (.iastore, 1) := by decide +kernel
theorem dX12_findWords_97 : decode cX12_findWords 97 = .ok (.aload_n 0, 1) := by decide +kernel
theorem dX12_findWords_98 : decode cX12_findWords 98 = .ok (.dup, 1) := by decide +kernel
theorem dX12_findWords_99 : decode cX12_findWords 99 = .ok (.getfield 266, 3) := by decide +kernel
theorem dX12_findWords_102 : decode cX12_findWords 102 = .ok (.iconst 1, 1) := by decide +kernel
theorem dX12_findWords_103 : decode cX12_findWords 103 = .ok (.iadd, 1) := by decide +kernel
theorem dX12_findWords_104 : decode cX12_findWords 104 = .ok (.putfield 266, 3) := by decide +kernel
theorem dX12_findWords_107 : decode cX12_findWords 107 = .ok (.iload_n 2, 1) := by decide +kernel
theorem dX12_findWords_108 : decode cX12_findWords 108 = .ok (.ifCond .ne 17, 3) := by decide +kernel
theorem dX12_findWords_111 : decode cX12_findWords 111 = .ok (.aload_n 0, 1) := by decide +kernel
theorem dX12_findWords_112 : decode cX12_findWords 112 = .ok (.getfield 78, 3) := by decide +kernel
theorem dX12_findWords_115 : decode cX12_findWords 115 = .ok (.aload_n 0, 1) := by decide +kernel
theorem dX12_findWords_116 : decode cX12_findWords 116 = .ok (.getfield 266, 3) := by decide +kernel
theorem dX12_findWords_119 : decode cX12_findWords 119 = .ok (.iconst 1, 1) := by decide +kernel
theorem dX12_findWords_120 : decode cX12_findWords 120 = .ok (.isub, 1) := by decide +kernel
theorem dX12_findWords_121 : decode cX12_findWords 121 = .ok (.iload_n 1, 1) := by decide +kernel
theorem dX12_findWords_122 : decode cX12_findWords 122 = .ok (.iconst 1, 1) := by decide +kernel
theorem dX12_findWords_123 : decode cX12_findWords 123 = .ok (.iadd, 1) := by decide +kernel
theorem dX12_findWords_124 : decode cX12_findWords 124 = .ok (.iastore, 1) := by decide +kernel
theorem dX12_findWords_125 : decode cX12_findWords 125 = .ok (.iinc 1 1, 3) := by decide +kernel
theorem dX12_findWords_128 : decode cX12_findWords 128 = .ok (.goto (-121), 3) := by decide +kernel
theorem dX12_findWords_131 : decode cX12_findWords 131 = .ok (.return_, 1) := by decide +kernel
theorem dX12_has_0 : decode cX12_has 0 = .ok (.iconst 0, 1) := by decide +kernel
theorem dX12_has_1 : decode cX12_has 1 = .ok (.istore 4, 2) := by decide +kernel
theorem dX12_has_3 : decode cX12_has 3 = .ok (.iconst 0, 1) := by decide +kernel
theorem dX12_has_4 : decode cX12_has 4 = .ok (.istore 5, 2) := by decide +kernel
theorem dX12_has_6 : decode cX12_has 6 = .ok (.iload 5, 2) := by decide +kernel
theorem dX12_has_8 : decode cX12_has 8 = .ok (.aload_n 0, 1) := by decide +kernel
theorem dX12_has_9 : decode cX12_has 9 = .ok (.getfield 19, 3) := by decide +kernel
theorem dX12_has_12 : decode cX12_has 12 = .ok (.iload_n 3, 1) := by decide +kernel
theorem dX12_has_13 : decode cX12_has 13 = .ok (.iaload, 1) := by decide +kernel
theorem dX12_has_14 : decode cX12_has 14 = .ok (.if_icmp .ge 42, 3) := by decide +kernel
theorem dX12_has_17 : decode cX12_has 17 = .ok (.iload_n 1, 1) := by decide +kernel
theorem dX12_has_18 : decode cX12_has 18 = .ok (.iconst (-1), 1) := by decide +kernel
theorem dX12_has_19 : decode cX12_has 19 = .ok (.if_icmp .eq 37, 3) := by decide +kernel
theorem dX12_has_22 : decode cX12_has 22 = .ok (.iload 4, 2) := by decide +kernel
theorem dX12_has_24 : decode cX12_has 24 = .ok (.ifCond .ne 19, 3) := by decide +kernel
theorem dX12_has_27 : decode cX12_has 27 = .ok (.aload_n 0, 1) := by decide +kernel
theorem dX12_has_28 : decode cX12_has 28 = .ok (.getfield 63, 3) := by decide +kernel
theorem dX12_has_31 : decode cX12_has 31 = .ok (.bipush 12, 2) := by decide +kernel
theorem dX12_has_33 : decode cX12_has 33 = .ok (.iload_n 3, 1) := by decide +kernel
theorem dX12_has_34 : decode cX12_has 34 = .ok (.imul, 1) := by decide +kernel
theorem dX12_has_35 : decode cX12_has 35 = .ok (.iload 5, 2) := by decide +kernel
theorem dX12_has_37 : decode cX12_has 37 = .ok (.iadd, 1) := by decide +kernel
theorem dX12_has_38 : decode cX12_has 38 = .ok (.iaload, 1) := by decide +kernel
theorem dX12_has_39 : decode cX12_has 39 = .ok (.iload_n 1, 1) := by decide +kernel
theorem dX12_has_40 : decode cX12_has 40 = .ok (.if_icmp .ne 7, 3) := by decide +kernel
theorem dX12_has_43 : decode cX12_has 43 = .ok (.iconst 1, 1) := by decide +kernel
theorem dX12_has_44 : decode cX12_has 44 = .ok (.goto 4, 3) := by decide +kernel
theorem dX12_has_47 : decode cX12_has 47 = .ok (.iconst 0, 1) := by decide +kernel
theorem dX12_has_48 : decode cX12_has 48 = .ok (.istore 4, 2) := by decide +kernel
theorem dX12_has_50 : decode cX12_has 50 = .ok (.iinc 5 1, 3) := by decide +kernel
theorem dX12_has_53 : decode cX12_has 53 = .ok (.goto (-47), 3) := by decide +kernel
theorem dX12_has_56 : decode cX12_has 56 = .ok (.iconst 0, 1) := by decide +kernel
theorem dX12_has_57 : decode cX12_has 57 = .ok (.istore 5, 2) := by decide +kernel
theorem dX12_has_59 : decode cX12_has 59 = .ok (.iload 5, 2) := by decide +kernel
theorem dX12_has_61 : decode cX12_has 61 = .ok (.aload_n 0, 1) := by decide +kernel
theorem dX12_has_62 : decode cX12_has 62 = .ok (.getfield 136, 3) := by decide +kernel
theorem dX12_has_65 : decode cX12_has 65 = .ok (.if_icmp .ge 54, 3) := by decide +kernel
theorem dX12_has_68 : decode cX12_has 68 = .ok (.iload_n 1, 1) := by decide +kernel
theorem dX12_has_69 : decode cX12_has 69 = .ok (.iconst (-1), 1) := by decide +kernel
theorem dX12_has_70 : decode cX12_has 70 = .ok (.if_icmp .ne 49, 3) := by decide +kernel
theorem dX12_has_73 : decode cX12_has 73 = .ok (.iload 4, 2) := by decide +kernel
theorem dX12_has_75 : decode cX12_has 75 = .ok (.ifCond .ne 31, 3) := by decide +kernel
theorem dX12_has_78 : decode cX12_has 78 = .ok (.aload_n 0, 1) := by decide +kernel
theorem dX12_has_79 : decode cX12_has 79 = .ok (.getfield 38, 3) := by decide +kernel
theorem dX12_has_82 : decode cX12_has 82 = .ok (.iconst 3, 1) := by decide +kernel
theorem dX12_has_83 : decode cX12_has 83 = .ok (.iload 5, 2) := by decide +kernel
theorem dX12_has_85 : decode cX12_has 85 = .ok (.imul, 1) := by decide +kernel
theorem dX12_has_86 : decode cX12_has 86 = .ok (.iaload, 1) := by decide +kernel
theorem dX12_has_87 : decode cX12_has 87 = .ok (.iload_n 3, 1) := by decide +kernel
theorem dX12_has_88 : decode cX12_has 88 = .ok (.if_icmp .ne 22, 3) := by decide +kernel
theorem dX12_has_91 : decode cX12_has 91 = .ok (.aload_n 0, 1) := by decide +kernel
theorem dX12_has_92 : decode cX12_has 92 = .ok (.getfield 38, 3) := by decide +kernel
theorem dX12_has_95 : decode cX12_has 95 = .ok (.iconst 3, 1) := by decide +kernel
theorem dX12_has_96 : decode cX12_has 96 = .ok (.iload 5, 2) := by decide +kernel
theorem dX12_has_98 : decode cX12_has 98 = .ok (.imul, 1) := by decide +kernel
theorem dX12_has_99 : decode cX12_has 99 = .ok (.iconst 1, 1) := by decide +kernel
theorem dX12_has_100 : decode cX12_has 100 = .ok (.iadd, 1) := by decide +kernel
theorem dX12_has_101 : decode cX12_has 101 = .ok (.iaload, 1) := by decide +kernel
theorem dX12_has_102 : decode cX12_has 102 = .ok (.iload_n 2, 1) := by decide +kernel
theorem dX12_has_103 : decode cX12_has 103 = .ok (.if_icmp .ne 7, 3) := by decide +kernel
theorem dX12_has_106 : decode cX12_has 106 = .ok (.iconst 1, 1) := by decide +kernel
theorem dX12_has_107 : decode cX12_has 107 = .ok (.goto 4, 3) := by decide +kernel
theorem dX12_has_110 : decode cX12_has 110 = .ok (.iconst 0, 1) := by decide +kernel
theorem dX12_has_111 : decode cX12_has 111 = .ok (.istore 4, 2) := by decide +kernel
theorem dX12_has_113 : decode cX12_has 113 = .ok (.iinc 5 1, 3) := by decide +kernel
theorem dX12_has_116 : decode cX12_has 116 = .ok (.goto (-57), 3) := by decide +kernel
theorem dX12_has_119 : decode cX12_has 119 = .ok (.iload 4, 2) := by decide +kernel
theorem dX12_has_121 : decode cX12_has 121 = .ok (.ireturn, 1) := by decide +kernel
theorem dX12_hasPlace_0 : decode cX12_hasPlace 0 = .ok (.aload_n 0, 1) := by decide +kernel
theorem dX12_hasPlace_1 : decode cX12_hasPlace 1 = .ok (.getfield 7, 3) := by decide +kernel
theorem dX12_hasPlace_4 : decode cX12_hasPlace 4 = .ok (.iload_n 1, 1) := by decide +kernel
theorem dX12_hasPlace_5 : decode cX12_hasPlace 5 = .ok (.iaload, 1) := by decide +kernel
theorem dX12_hasPlace_6 : decode cX12_hasPlace 6 = .ok (.aload_n 0, 1) := by decide +kernel
theorem dX12_hasPlace_7 : decode cX12_hasPlace 7 = .ok (.getfield 13, 3) := by decide +kernel
theorem dX12_hasPlace_10 : decode cX12_hasPlace 10 = .ok (.iload_n 1, 1) := by decide +kernel
theorem dX12_hasPlace_11 : decode cX12_hasPlace 11 = .ok (.iaload, 1) := by decide +kernel
theorem dX12_hasPlace_12 : decode cX12_hasPlace 12 = .ok (.aload_n 0, 1) := by decide +kernel
theorem dX12_hasPlace_13 : decode cX12_hasPlace 13 = .ok (.getfield 7, 3) := by decide +kernel
theorem dX12_hasPlace_16 : decode cX12_hasPlace 16 = .ok (.iload_n 2, 1) := by decide +kernel
theorem dX12_hasPlace_17 : decode cX12_hasPlace 17 = .ok (.iaload, 1) := by decide +kernel
theorem dX12_hasPlace_18 : decode cX12_hasPlace 18 = .ok (.aload_n 0, 1) := by decide +kernel
theorem dX12_hasPlace_19 : decode cX12_hasPlace 19 = .ok (.getfield 13, 3) := by decide +kernel
theorem dX12_hasPlace_22 : decode cX12_hasPlace 22 = .ok (.iload_n 2, 1) := by decide +kernel
theorem dX12_hasPlace_23 : decode cX12_hasPlace 23 = .ok (.iaload, 1) := by decide +kernel
theorem dX12_hasPlace_24 : decode cX12_hasPlace 24 = .ok (.iload 4, 2) := by decide +kernel
theorem dX12_hasPlace_26 : decode cX12_hasPlace 26 = .ok (.iload 5, 2) := by decide +kernel
theorem dX12_hasPlace_28 : decode cX12_hasPlace 28 = .ok (.invokestatic 146, 3) := by decide +kernel
theorem dX12_hasPlace_31 : decode cX12_hasPlace 31 = .ok (.istore 6, 2) := by decide +kernel
theorem dX12_hasPlace_33 : decode cX12_hasPlace 33 = .ok (.aload_n 0, 1) := by decide +kernel
theorem dX12_hasPlace_34 : decode cX12_hasPlace 34 = .ok (.getfield 7, 3) := by decide +kernel
theorem dX12_hasPlace_37 : decode cX12_hasPlace 37 = .ok (.iload_n 2, 1) := by decide +kernel
theorem dX12_hasPlace_38 : decode cX12_hasPlace 38 = .ok (.iaload, 1) := by decide +kernel
theorem dX12_hasPlace_39 : decode cX12_hasPlace 39 = .ok (.aload_n 0, 1) := by decide +kernel
theorem dX12_hasPlace_40 : decode cX12_hasPlace 40 = .ok (.getfield 13, 3) := by decide +kernel
theorem dX12_hasPlace_43 : decode cX12_hasPlace 43 = .ok (.iload_n 2, 1) := by decide +kernel
theorem dX12_hasPlace_44 : decode cX12_hasPlace 44 = .ok (.iaload, 1) := by decide +kernel
theorem dX12_hasPlace_45 : decode cX12_hasPlace 45 = .ok (.aload_n 0, 1) := by decide +kernel
theorem dX12_hasPlace_46 : decode cX12_hasPlace 46 = .ok (.getfield 7, 3) := by decide +kernel
theorem dX12_hasPlace_49 : decode cX12_hasPlace 49 = .ok (.iload_n 3, 1) := by decide +kernel
theorem dX12_hasPlace_50 : decode cX12_hasPlace 50 = .ok (.iaload, 1) := by decide +kernel
theorem dX12_hasPlace_51 : decode cX12_hasPlace 51 = .ok (.aload_n 0, 1) := by decide +kernel
theorem dX12_hasPlace_52 : decode cX12_hasPlace 52 = .ok (.getfield 13, 3) := by decide +kernel
theorem dX12_hasPlace_55 : decode cX12_hasPlace 55 = .ok (.iload_n 3, 1) := by decide +kernel
theorem dX12_hasPlace_56 : decode cX12_hasPlace 56 = .ok (.iaload, 1) := by decide +kernel
theorem dX12_hasPlace_57 : decode cX12_hasPlace 57 = .ok (.iload 4, 2) := by decide +kernel
theorem dX12_hasPlace_59 : decode cX12_hasPlace 59 = .ok (.iload 5, 2) := by decide +kernel
theorem dX12_hasPlace_61 : decode cX12_hasPlace 61 = .ok (.invokestatic 146, 3) := by decide +kernel
theorem dX12_hasPlace_64 : decode cX12_hasPlace 64 = .ok (.istore 7, 2) := by decide +kernel
theorem dX12_hasPlace_66 : decode cX12_hasPlace 66 = .ok (.aload_n 0, 1) := by decide +kernel
theorem dX12_hasPlace_67 : decode cX12_hasPlace 67 = .ok (.getfield 7, 3) := by decide +kernel
theorem dX12_hasPlace_70 : decode cX12_hasPlace 70 = .ok (.iload_n 3, 1) := by decide +kernel
theorem dX12_hasPlace_71 : decode cX12_hasPlace 71 = .ok (.iaload, 1) := by decide +kernel
theorem dX12_hasPlace_72 : decode cX12_hasPlace 72 = .ok (.aload_n 0, 1) := by decide +kernel
theorem dX12_hasPlace_73 : decode cX12_hasPlace 73 = .ok (.getfield 13, 3) := by decide +kernel
theorem dX12_hasPlace_76 : decode cX12_hasPlace 76 = .ok (.iload_n 3, 1) := by decide +kernel
theorem dX12_hasPlace_77 : decode cX12_hasPlace 77 = .ok (.iaload, 1) := by decide +kernel
theorem dX12_hasPlace_78 : decode cX12_hasPlace 78 = .ok (.aload_n 0, 1) := by decide +kernel
theorem dX12_hasPlace_79 : decode cX12_hasPlace 79 = .ok (.getfield 7, 3) := by decide +kernel
theorem dX12_hasPlace_82 : decode cX12_hasPlace 82 = .ok (.iload_n 1, 1) := by decide +kernel
theorem dX12_hasPlace_83 : decode cX12_hasPlace 83 = .ok (.iaload, 1) := by decide +kernel
theorem dX12_hasPlace_84 : decode cX12_hasPlace 84 = .ok (.aload_n 0, 1) := by decide +kernel
theorem dX12_hasPlace_85 : decode cX12_hasPlace 85 = .ok (.getfield 13, 3) := by decide +kernel
theorem dX12_hasPlace_88 : decode cX12_hasPlace 88 = .ok (.iload_n 1, 1) := by decide +kernel
theorem dX12_hasPlace_89 : decode cX12_hasPlace 89 = .ok (.iaload, 1) := by decide +kernel
theorem dX12_hasPlace_90 : decode cX12_hasPlace 90 = .ok (.iload 4, 2) := by decide +kernel
theorem dX12_hasPlace_92 : decode cX12_hasPlace 92 = .ok (.iload 5, 2) := by decide +kernel
theorem dX12_hasPlace_94 : decode cX12_hasPlace 94 = .ok (.invokestatic 146, 3) := by decide +kernel
theorem dX12_hasPlace_97 : decode cX12_hasPlace 97 = .ok (.istore 8, 2) := by decide +kernel
theorem dX12_hasPlace_99 : decode cX12_hasPlace 99 = .ok (.iload 6, 2) := by decide +kernel
theorem dX12_hasPlace_101 : decode cX12_hasPlace 101 = .ok (.ifCond .lt 13, 3) := by decide +kernel
theorem dX12_hasPlace_104 : decode cX12_hasPlace 104 = .ok (.iload 7, 2) := by decide +kernel
theorem dX12_hasPlace_106 : decode cX12_hasPlace 106 = .ok (.ifCond .lt 8, 3) := by decide +kernel
theorem dX12_hasPlace_109 : decode cX12_hasPlace 109 = .ok (.iload 8, 2) := by decide +kernel
theorem dX12_hasPlace_111 : decode cX12_hasPlace 111 = .ok (.ifCond .ge 18, 3) := by decide +kernel
theorem dX12_hasPlace_114 : decode cX12_hasPlace 114 = .ok (.iload 6, 2) := by decide +kernel
theorem dX12_hasPlace_116 : decode cX12_hasPlace 116 = .ok (.ifCond .gt 17, 3) := by decide +kernel
theorem dX12_hasPlace_119 : decode cX12_hasPlace 119 = .ok (.iload 7, 2) := by decide +kernel
theorem dX12_hasPlace_121 : decode cX12_hasPlace 121 = .ok (.ifCond .gt 12, 3) := by decide +kernel
theorem dX12_hasPlace_124 : decode cX12_hasPlace 124 = .ok (.iload 8, 2) := by decide +kernel
theorem dX12_hasPlace_126 : decode cX12_hasPlace 126 = .ok (.ifCond .gt 7, 3) := by decide +kernel
theorem dX12_hasPlace_129 : decode cX12_hasPlace 129 = .ok (.iconst 1, 1) := by decide +kernel
theorem dX12_hasPlace_130 : decode cX12_hasPlace 130 = .ok (.goto 4, 3) := by decide +kernel
theorem dX12_hasPlace_133 : decode cX12_hasPlace 133 = .ok (.iconst 0, 1) := by decide +kernel
theorem dX12_hasPlace_134 : decode cX12_hasPlace 134 = .ok (.ireturn, 1) := by decide +kernel
theorem dX12_in_0 : decode cX12_in 0 = .ok (.iload_n 0, 1) := by decide +kernel
theorem dX12_in_1 : decode cX12_in 1 = .ok (.iload_n 1, 1) := by decide +kernel
theorem dX12_in_2 : decode cX12_in 2 = .ok (.if_icmp .lt 12, 3) := by decide +kernel
theorem dX12_in_5 : decode cX12_in 5 = .ok (.iload_n 0, 1) := by decide +kernel
theorem dX12_in_6 : decode cX12_in 6 = .ok (.iload_n 2, 1) := by decide +kernel
theorem dX12_in_7 : decode cX12_in 7 = .ok (.if_icmp .gt 7, 3) := by decide +kernel
theorem dX12_in_10 : decode cX12_in 10 = .ok (.iconst 1, 1) := by decide +kernel
theorem dX12_in_11 : decode cX12_in 11 = .ok (.goto 4, 3) := by decide +kernel
theorem dX12_in_14 : decode cX12_in 14 = .ok (.iconst 0, 1) := by decide +kernel
theorem dX12_in_15 : decode cX12_in 15 = .ok (.ireturn, 1) := by decide +kernel
theorem dX12_init_0 : decode cX12_init 0 = .ok (.aload_n 0, 1) := by decide +kernel
theorem dX12_init_1 : decode cX12_init 1 = .ok (.invokespecial 1, 3) := by decide +kernel
theorem dX12_init_4 : decode cX12_init 4 = .ok (.aload_n 0, 1) := by decide +kernel
theorem dX12_init_5 : decode cX12_init 5 = .ok (.bipush 16, 2) := by decide +kernel
theorem dX12_init_7 : decode cX12_init 7 = .ok (.newarray .int, 2) := by decide +kernel
theorem dX12_init_9 : decode cX12_init 9 = .ok (.putfield 7, 3) := by decide +kernel
theorem dX12_init_12 : decode cX12_init 12 = .ok (.aload_n 0, 1) := by decide +kernel
theorem dX12_init_13 : decode cX12_init 13 = .ok (.bipush 16, 2) := by decide +kernel
theorem dX12_init_15 : decode cX12_init 15 = .ok (.newarray .int, 2) := by decide +kernel
theorem dX12_init_17 : decode cX12_init 17 = .ok (.putfield 13, 3) := by decide +kernel
theorem dX12_init_20 : decode cX12_init 20 = .ok (.aload_n 0, 1) := by decide +kernel
theorem dX12_init_21 : decode cX12_init 21 = .ok (.bipush 16, 2) := by decide +kernel
theorem dX12_init_23 : decode cX12_init 23 = .ok (.newarray .int, 2) := by decide +kernel
theorem dX12_init_25 : decode cX12_init 25 = .ok (.putfield 16, 3) := by decide +kernel
theorem dX12_init_28 : decode cX12_init 28 = .ok (.aload_n 0, 1) := by decide +kernel
theorem dX12_init_29 : decode cX12_init 29 = .ok (.bipush 16, 2) := by decide +kernel
theorem dX12_init_31 : decode cX12_init 31 = .ok (.newarray .int, 2) := by decide +kernel
theorem dX12_init_33 : decode cX12_init 33 = .ok (.putfield 19, 3) := by decide +kernel
theorem dX12_init_36 : decode cX12_init 36 = .ok (.aload_n 0, 1) := by decide +kernel
theorem dX12_init_37 : decode cX12_init 37 = .ok (.sipush 192, 3) := by decide +kernel
theorem dX12_init_40 : decode cX12_init 40 = .ok (.newarray .int, 2) := by decide +kernel
theorem dX12_init_42 : decode cX12_init 42 = .ok (.putfield 22, 3) := by decide +kernel
theorem dX12_init_45 : decode cX12_init 45 = .ok (.aload_n 0, 1) := by decide +kernel
theorem dX12_init_46 : decode cX12_init 46 = .ok (.sipush 192, 3) := by decide +kernel
theorem dX12_init_49 : decode cX12_init 49 = .ok (.newarray .int, 2) := by decide +kernel
theorem dX12_init_51 : decode cX12_init 51 = .ok (.putfield 25, 3) := by decide +kernel
theorem dX12_init_54 : decode cX12_init 54 = .ok (.aload_n 0, 1) := by decide +kernel
theorem dX12_init_55 : decode cX12_init 55 = .ok (.bipush 8, 2) := by decide +kernel
theorem dX12_init_57 : decode cX12_init 57 = .ok (.newarray .int, 2) := by decide +kernel
theorem dX12_init_59 : decode cX12_init 59 = .ok (.putfield 28, 3) := by decide +kernel
theorem dX12_init_62 : decode cX12_init 62 = .ok (.aload_n 0, 1) := by decide +kernel
theorem dX12_init_63 : decode cX12_init 63 = .ok (.bipush 32, 2) := by decide +kernel
theorem dX12_init_65 : decode cX12_init 65 = .ok (.newarray .int, 2) := by decide +kernel
theorem dX12_init_67 : decode cX12_init 67 = .ok (.putfield 31, 3) := by decide +kernel
theorem dX12_init_70 : decode cX12_init 70 = .ok (.aload_n 0, 1) := by decide +kernel
theorem dX12_init_71 : decode cX12_init 71 = .ok (.bipush 50, 2) := by decide +kernel
theorem dX12_init_73 : decode cX12_init 73 = .ok (.putfield 34, 3) := by decide +kernel
theorem dX12_init_76 : decode cX12_init 76 = .ok (.aload_n 0, 1) := by decide +kernel
theorem dX12_init_77 : decode cX12_init 77 = .ok (.sipush 180, 3) := by decide +kernel
theorem dX12_init_80 : decode cX12_init 80 = .ok (.newarray .int, 2) := by decide +kernel
theorem dX12_init_82 : decode cX12_init 82 = .ok (.putfield 38, 3) := by decide +kernel
theorem dX12_init_85 : decode cX12_init 85 = .ok (.aload_n 0, 1) := by decide +kernel
theorem dX12_init_86 : decode cX12_init 86 = .ok (.bipush 120, 2) := by decide +kernel
theorem dX12_init_88 : decode cX12_init 88 = .ok (.newarray .int, 2) := by decide +kernel
theorem dX12_init_90 : decode cX12_init 90 = .ok (.putfield 41, 3) := by decide +kernel
theorem dX12_init_93 : decode cX12_init 93 = .ok (.aload_n 0, 1) := by decide +kernel
theorem dX12_init_94 : decode cX12_init 94 = .ok (.bipush 120, 2) := by decide +kernel
theorem dX12_init_96 : decode cX12_init 96 = .ok (.newarray .int, 2) := by decide +kernel
theorem dX12_init_98 : decode cX12_init 98 = .ok (.putfield 44, 3) := by decide +kernel
theorem dX12_init_101 : decode cX12_init 101 = .ok (.aload_n 0, 1) := by decide +kernel
theorem dX12_init_102 : decode cX12_init 102 = .ok (.bipush 120, 2) := by decide +kernel
theorem dX12_init_104 : decode cX12_init 104 = .ok (.newarray .boolean, 2) := by decide +kernel
theorem dX12_init_106 : decode cX12_init 106 = .ok (.putfield 47, 3) := by decide +kernel
theorem dX12_init_109 : decode cX12_init 109 = .ok (.aload_n 0, 1) := by decide +kernel
theorem dX12_init_110 : decode cX12_init 110 = .ok (.sipush 256, 3) := by decide +kernel
theorem dX12_init_113 : decode cX12_init 113 = .ok (.newarray .int, 2) := by decide +kernel
theorem dX12_init_115 : decode cX12_init 115 = .ok (.putfield 51, 3) := by decide +kernel
theorem dX12_init_118 : decode cX12_init 118 = .ok (.aload_n 0, 1) := by decide +kernel
theorem dX12_init_119 : decode cX12_init 119 = .ok (.sipush 1440, 3) := by decide +kernel
theorem dX12_init_122 : decode cX12_init 122 = .ok (.newarray .int, 2) := by decide +kernel
theorem dX12_init_124 : decode cX12_init 124 = .ok (.putfield 54, 3) := by decide +kernel
theorem dX12_init_127 : decode cX12_init 127 = .ok (.aload_n 0, 1) := by decide +kernel
theorem dX12_init_128 : decode cX12_init 128 = .ok (.bipush 120, 2) := by decide +kernel
theorem dX12_init_130 : decode cX12_init 130 = .ok (.newarray .int, 2) := by decide +kernel
theorem dX12_init_132 : decode cX12_init 132 = .ok (.putfield 57, 3) := by decide +kernel
theorem dX12_init_135 : decode cX12_init 135 = .ok (.aload_n 0, 1) := by decide +kernel
theorem dX12_init_136 : decode cX12_init 136 = .ok (.sipush 1680, 3) := by decide +kernel
theorem dX12_init_139 : decode cX12_init 139 = .ok (.newarray .int, 2) := by decide +kernel
theorem dX12_init_141 : decode cX12_init 141 = .ok (.putfield 60, 3) := by decide +kernel
theorem dX12_init_144 : decode cX12_init 144 = .ok (.aload_n 0, 1) := by decide +kernel
theorem dX12_init_145 : decode cX12_init 145 = .ok (.sipush 192, 3) := by decide +kernel
theorem dX12_init_148 : decode cX12_init 148 = .ok (.newarray .int, 2) := by decide +kernel
theorem dX12_init_150 : decode cX12_init 150 = .ok (.putfield 63, 3) := by decide +kernel
theorem dX12_init_153 : decode cX12_init 153 = .ok (.aload_n 0, 1) := by decide +kernel
theorem dX12_init_154 : decode cX12_init 154 = .ok (.sipush 192, 3) := by decide +kernel
theorem dX12_init_157 : decode cX12_init 157 = .ok (.newarray .int, 2) := by decide +kernel
theorem dX12_init_159 : decode cX12_init 159 = .ok (.putfield 66, 3) := by decide +kernel
theorem dX12_init_162 : decode cX12_init 162 = .ok (.aload_n 0, 1) := by decide +kernel
theorem dX12_init_163 : decode cX12_init 163 = .ok (.sipush 169, 3) := by decide +kernel
theorem dX12_init_166 : decode cX12_init 166 = .ok (.newarray .int, 2) := by decide +kernel
theorem dX12_init_168 : decode cX12_init 168 = .ok (.putfield 69, 3) := by decide +kernel
theorem dX12_init_171 : decode cX12_init 171 = .ok (.aload_n 0, 1) := by decide +kernel
theorem dX12_init_172 : decode cX12_init 172 = .ok (.sipush 600, 3) := by decide +kernel
theorem dX12_init_175 : decode cX12_init 175 = .ok (.newarray .int, 2) := by decide +kernel
theorem dX12_init_177 : decode cX12_init 177 = .ok (.putfield 72, 3) := by decide +kernel
theorem dX12_init_180 : decode cX12_init 180 = .ok (.aload_n 0, 1) := by decide +kernel
theorem dX12_init_181 : decode cX12_init 181 = .ok (.sipush 600, 3) := by decide +kernel
theorem dX12_init_184 : decode cX12_init 184 = .ok (.newarray .int, 2) := by decide +kernel
theorem dX12_init_186 : decode cX12_init 186 = .ok (.putfield 75, 3) := by decide +kernel
theorem dX12_init_189 : decode cX12_init 189 = .ok (.aload_n 0, 1) := by decide +kernel
theorem dX12_init_190 : decode cX12_init 190 = .ok (.sipush 600, 3) := by decide +kernel
theorem dX12_init_193 : decode cX12_init 193 = .ok (.newarray .int, 2) := by decide +kernel
theorem dX12_init_195 : decode cX12_init 195 = .ok (.putfield 78, 3) := by decide +kernel
theorem dX12_init_198 : decode cX12_init 198 = .ok (.aload_n 0, 1) := by decide +kernel
theorem dX12_init_199 : decode cX12_init 199 = .ok (.sipush 600, 3) := by decide +kernel
theorem dX12_init_202 : decode cX12_init 202 = .ok (.newarray .int, 2) := by decide +kernel
theorem dX12_init_204 : decode cX12_init 204 = .ok (.putfield 81, 3) := by decide +kernel
theorem dX12_init_207 : decode cX12_init 207 = .ok (.aload_n 0, 1) := by decide +kernel
theorem dX12_init_208 : decode cX12_init 208 = .ok (.sipush 200, 3) := by decide +kernel
theorem dX12_init_211 : decode cX12_init 211 = .ok (.newarray .char, 2) := by decide +kernel
theorem dX12_init_213 : decode cX12_init 213 = .ok (.putfield 84, 3) := by decide +kernel
theorem dX12_init_216 : decode cX12_init 216 = .ok (.aload_n 0, 1) := by decide +kernel
theorem dX12_init_217 : decode cX12_init 217 = .ok (.bipush 16, 2) := by decide +kernel
theorem dX12_init_219 : decode cX12_init 219 = .ok (.newarray .int, 2) := by decide +kernel
theorem dX12_init_221 : decode cX12_init 221 = .ok (.putfield 88, 3) := by decide +kernel
theorem dX12_init_224 : decode cX12_init 224 = .ok (.aload_n 0, 1) := by decide +kernel
theorem dX12_init_225 : decode cX12_init 225 = .ok (.bipush 16, 2) := by decide +kernel
theorem dX12_init_227 : decode cX12_init 227 = .ok (.newarray .int, 2) := by decide +kernel
theorem dX12_init_229 : decode cX12_init 229 = .ok (.putfield 91, 3) := by decide +kernel
theorem dX12_init_232 : decode cX12_init 232 = .ok (.aload_n 0, 1) := by decide +kernel
theorem dX12_init_233 : decode cX12_init 233 = .ok (.bipush 16, 2) := by decide +kernel
theorem dX12_init_235 : decode cX12_init 235 = .ok (.newarray .int, 2) := by decide +kernel
theorem dX12_init_237 : decode cX12_init 237 = .ok (.putfield 94, 3) := by decide +kernel
theorem dX12_init_240 : decode cX12_init 240 = .ok (.aload_n 0, 1) := by decide +kernel
theorem dX12_init_241 : decode cX12_init 241 = .ok (.bipush 16, 2) := by decide +kernel
theorem dX12_init_243 : decode cX12_init 243 = .ok (.newarray .int, 2) := by decide +kernel
theorem dX12_init_245 : decode cX12_init 245 = .ok (.putfield 97, 3) := by decide +kernel
theorem dX12_init_248 : decode cX12_init 248 = .ok (.aload_n 0, 1) := by decide +kernel
theorem dX12_init_249 : decode cX12_init 249 = .ok (.sipush 192, 3) := by decide +kernel
theorem dX12_init_252 : decode cX12_init 252 = .ok (.newarray .int, 2) := by decide +kernel
theorem dX12_init_254 : decode cX12_init 254 = .ok (.putfield 100, 3) := by decide +kernel
theorem dX12_init_257 : decode cX12_init 257 = .ok (.aload_n 0, 1) := by decide +kernel
theorem dX12_init_258 : decode cX12_init 258 = .ok (.sipush 192, 3) := by decide +kernel
theorem dX12_init_261 : decode cX12_init 261 = .ok (.newarray .int, 2) := by decide +kernel
theorem dX12_init_263 : decode cX12_init 263 = .ok (.putfield 103, 3) := by decide +kernel
theorem dX12_init_266 : decode cX12_init 266 = .ok (.return_, 1) := by decide +kernel
