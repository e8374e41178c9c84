theorem dX0_begin_0 : decode cX0_begin 0 = .ok (.aload_n 0, 1) := by decide +kernel
theorem dX0_begin_1 : decode cX0_begin 1 = .ok (.getfield 15, 3) := by decide +kernel
theorem dX0_begin_4 : decode cX0_begin 4 = .ok (.aload_n 0, 1) := by decide +kernel
theorem dX0_begin_5 : decode cX0_begin 5 = .ok (.getfield 36, 3) := by decide +kernel
theorem dX0_begin_8 : decode cX0_begin 8 = .ok (.iload_n 2, 1) := by decide +kernel
theorem dX0_begin_9 : decode cX0_begin 9 = .ok (.iastore, 1) := by decide +kernel
theorem dX0_begin_10 : decode cX0_begin 10 = .ok (.aload_n 0, 1) := by decide +kernel
theorem dX0_begin_11 : decode cX0_begin 11 = .ok (.getfield 21, 3) := by decide +kernel
theorem dX0_begin_14 : decode cX0_begin 14 = .ok (.aload_n 0, 1) := by decide +kernel
theorem dX0_begin_15 : decode cX0_begin 15 = .ok (.getfield 36, 3) := by decide +kernel
theorem dX0_begin_18 : decode cX0_begin 18 = .ok (.iload_n 1, 1) := by decide +kernel
theorem dX0_begin_19 : decode cX0_begin 19 = .ok (.iastore, 1) := by decide +kernel
theorem dX0_begin_20 : decode cX0_begin 20 = .ok (.aload_n 0, 1) := by decide +kernel
theorem dX0_begin_21 : decode cX0_begin 21 = .ok (.getfield 18, 3) := by decide +kernel
theorem dX0_begin_24 : decode cX0_begin 24 = .ok (.aload_n 0, 1) := by decide +kernel
theorem dX0_begin_25 : decode cX0_begin 25 = .ok (.getfield 36, 3) := by decide +kernel
theorem dX0_begin_28 : decode cX0_begin 28 = .ok (.iconst 0, 1) := by decide +kernel
theorem dX0_begin_29 : decode cX0_begin 29 = .ok (.iastore, 1) := by decide +kernel
theorem dX0_begin_30 : decode cX0_begin 30 = .ok (.aload_n 0, 1) := by decide +kernel
theorem dX0_begin_31 : decode cX0_begin 31 = .ok (.getfield 24, 3) := by decide +kernel
theorem dX0_begin_34 : decode cX0_begin 34 = .ok (.aload_n 0, 1) := by decide +kernel
theorem dX0_begin_35 : decode cX0_begin 35 = .ok (.getfield 36, 3) := by decide +kernel
theorem dX0_begin_38 : decode cX0_begin 38 = .ok (.iconst 0, 1) := by decide +kernel
theorem dX0_begin_39 : decode cX0_begin 39 = .ok (.iastore, 1) := by decide +kernel
theorem dX0_begin_40 : decode cX0_begin 40 = .ok (.aload_n 0, 1) := by decide +kernel
theorem dX0_begin_41 : decode cX0_begin 41 = .ok (.iconst 0, 1) := by decide +kernel
theorem dX0_begin_42 : decode cX0_begin 42 = .ok (.putfield 103, 3) := by decide +kernel
theorem dX0_begin_45 : decode cX0_begin 45 = .ok (.aload_n 0, 1) := by decide +kernel
theorem dX0_begin_46 : decode cX0_begin 46 = .ok (.iload_n 1, 1) := by decide +kernel
theorem dX0_begin_47 : decode cX0_begin 47 = .ok (.invokevirtual 106, 3) := by decide +kernel
theorem dX0_begin_50 : decode cX0_begin 50 = .ok (.return_, 1) := by decide +kernel
theorem dX0_gather_0 : decode cX0_gather 0 = .ok (.aload_n 0, 1) := by decide +kernel
theorem dX0_gather_1 : decode cX0_gather 1 = .ok (.iconst 0, 1) := by decide +kernel
theorem dX0_gather_2 : decode cX0_gather 2 = .ok (.putfield 36, 3) := by decide +kernel
theorem dX0_gather_5 : decode cX0_gather 5 = .ok (.aload_n 0, 1) := by decide +kernel
theorem dX0_gather_6 : decode cX0_gather 6 = .ok (.getfield 9, 3) := by decide +kernel
theorem dX0_gather_9 : decode cX0_gather 9 = .ok (.iconst (-1), 1) := by decide +kernel
theorem dX0_gather_10 : decode cX0_gather 10 = .ok (.invokestatic 40, 3) := by decide +kernel
theorem dX0_gather_13 : decode cX0_gather 13 = .ok (.iconst 0, 1) := by decide +kernel
theorem dX0_gather_14 : decode cX0_gather 14 = .ok (.istore 4, 2) := by decide +kernel
theorem dX0_gather_16 : decode cX0_gather 16 = .ok (.iload 4, 2) := by decide +kernel
theorem dX0_gather_18 : decode cX0_gather 18 = .ok (.aload_n 1, 1) := by decide +kernel
theorem dX0_gather_19 : decode cX0_gather 19 = .ok (.getfield 46, 3) := by decide +kernel
theorem dX0_gather_22 : decode cX0_gather 22 = .ok (.if_icmp .ge 22, 3) := by decide +kernel
theorem dX0_gather_25 : decode cX0_gather 25 = .ok (.aload_n 0, 1) := by decide +kernel
theorem dX0_gather_26 : decode cX0_gather 26 = .ok (.aload_n 1, 1) := by decide +kernel
theorem dX0_gather_27 : decode cX0_gather 27 = .ok (.getfield 49, 3) := by decide +kernel
theorem dX0_gather_30 : decode cX0_gather 30 = .ok (.iload 4, 2) := by decide +kernel
theorem dX0_gather_32 : decode cX0_gather 32 = .ok (.aaload, 1) := by decide +kernel
theorem dX0_gather_33 : decode cX0_gather 33 = .ok (.iload 4, 2) := by decide +kernel
theorem dX0_gather_35 : decode cX0_gather 35 = .ok (.invokevirtual 53, 3) := by decide +kernel
theorem dX0_gather_38 : decode cX0_gather 38 = .ok (.iinc 4 1, 3) := by decide +kernel
theorem dX0_gather_41 : decode cX0_gather 41 = .ok (.goto (-25), 3) := by decide +kernel
theorem dX0_gather_44 : decode cX0_gather 44 = .ok (.iconst 0, 1) := by decide +kernel
theorem dX0_gather_45 : decode cX0_gather 45 = .ok (.istore 4, 2) := by decide +kernel
theorem dX0_gather_47 : decode cX0_gather 47 = .ok (.iload 4, 2) := by decide +kernel
theorem dX0_gather_49 : decode cX0_gather 49 = .ok (.aload_n 1, 1) := by decide +kernel
theorem dX0_gather_50 : decode cX0_gather 50 = .ok (.getfield 46, 3) := by decide +kernel
theorem dX0_gather_53 : decode cX0_gather 53 = .ok (.if_icmp .ge 92, 3) := by decide +kernel
theorem dX0_gather_56 : decode cX0_gather 56 = .ok (.aload_n 1, 1) := by decide +kernel
theorem dX0_gather_57 : decode cX0_gather 57 = .ok (.getfield 49, 3) := by decide +kernel
theorem dX0_gather_60 : decode cX0_gather 60 = .ok (.iload 4, 2) := by decide +kernel
theorem dX0_gather_62 : decode cX0_gather 62 = .ok (.aaload, 1) := by decide +kernel
theorem dX0_gather_63 : decode cX0_gather 63 = .ok (.astore 5, 2) := by decide +kernel
theorem dX0_gather_65 : decode cX0_gather 65 = .ok (.iconst 0, 1) := by decide +kernel
theorem dX0_gather_66 : decode cX0_gather 66 = .ok (.istore 6, 2) := by decide +kernel
theorem dX0_gather_68 : decode cX0_gather 68 = .ok (.iload 6, 2) := by decide +kernel
theorem dX0_gather_70 : decode cX0_gather 70 = .ok (.aload 5, 2) := by decide +kernel
theorem dX0_gather_72 : decode cX0_gather 72 = .ok (.getfield 57, 3) := by decide +kernel
theorem dX0_gather_75 : decode cX0_gather 75 = .ok (.if_icmp .ge 64, 3) := by decide +kernel
theorem dX0_gather_78 : decode cX0_gather 78 = .ok (.aload_n 0, 1) := by decide +kernel
theorem dX0_gather_79 : decode cX0_gather 79 = .ok (.getfield 9, 3) := by decide +kernel
theorem dX0_gather_82 : decode cX0_gather 82 = .ok (.iload 4, 2) := by decide +kernel
theorem dX0_gather_84 : decode cX0_gather 84 = .ok (.iload 6, 2) := by decide +kernel
theorem dX0_gather_86 : decode cX0_gather 86 = .ok (.invokestatic 61, 3) := by decide +kernel
theorem dX0_gather_89 : decode cX0_gather 89 = .ok (.iaload, 1) := by decide +kernel
theorem dX0_gather_90 : decode cX0_gather 90 = .ok (.iconst (-1), 1) := by decide +kernel
theorem dX0_gather_91 : decode cX0_gather 91 = .ok (.if_icmp .ne 42, 3) := by decide +kernel
theorem dX0_gather_94 : decode cX0_gather 94 = .ok (.aload_n 0, 1) := by decide +kernel
theorem dX0_gather_95 : decode cX0_gather 95 = .ok (.iload 4, 2) := by decide +kernel
theorem dX0_gather_97 : decode cX0_gather 97 = .ok (.iload 6, 2) := by decide +kernel
theorem dX0_gather_99 : decode cX0_gather 99 = .ok (.invokestatic 61, 3) := by decide +kernel
theorem dX0_gather_102 : decode cX0_gather 102 = .ok (.aload 5, 2) := by decide +kernel
theorem dX0_gather_104 : decode cX0_gather 104 = .ok (.getfield 65, 3) := by decide +kernel
theorem dX0_gather_107 : decode cX0_gather 107 = .ok (.iload 6, 2) := by decide +kernel
theorem dX0_gather_109 : decode cX0_gather 109 = .ok (.iaload, 1) := by decide +kernel
theorem dX0_gather_110 : decode cX0_gather 110 = .ok (.invokevirtual 66, 3) := by decide +kernel
theorem dX0_gather_113 : decode cX0_gather 113 = .ok (.aload_n 0, 1) := by decide +kernel
theorem dX0_gather_114 : decode cX0_gather 114 = .ok (.aload_n 1, 1) := by decide +kernel
theorem dX0_gather_115 : decode cX0_gather 115 = .ok (.getfield 46, 3) := by decide +kernel
theorem dX0_gather_118 : decode cX0_gather 118 = .ok (.aload_n 2, 1) := by decide +kernel
theorem dX0_gather_119 : decode cX0_gather 119 = .ok (.aload_n 3, 1) := by decide +kernel
theorem dX0_gather_120 : decode cX0_gather 120 = .ok (.invokevirtual 70, 3) := by decide +kernel
theorem dX0_gather_123 : decode cX0_gather 123 = .ok (.aload_n 0, 1) := by decide +kernel
theorem dX0_gather_124 : decode cX0_gather 124 = .ok (.dup, 1) := by decide +kernel
theorem dX0_gather_125 : decode cX0_gather 125 = .ok (.getfield 36, 3) := by decide +kernel
theorem dX0_gather_128 : decode cX0_gather 128 = .ok (.iconst 1, 1) := by decide +kernel
theorem dX0_gather_129 : decode cX0_gather 129 = .ok (.iadd, 1) := by decide +kernel
theorem dX0_gather_130 : decode cX0_gather 130 = .ok (.putfield 36, 3) := by decide +kernel
theorem dX0_gather_133 : decode cX0_gather 133 = .ok (.iinc 6 1, 3) := by decide +kernel
theorem dX0_gather_136 : decode cX0_gather 136 = .ok (.goto (-68), 3) := by decide +kernel
theorem dX0_gather_139 : decode cX0_gather 139 = .ok (.iinc 4 1, 3) := by decide +kernel
theorem dX0_gather_142 : decode cX0_gather 142 = .ok (.goto (-95), 3) := by decide +kernel
theorem dX0_gather_145 : decode cX0_gather 145 = .ok (.return_, 1) := by decide +kernel
theorem dX0_init_0 : decode cX0_init 0 = .ok (.aload_n 0, 1) := by decide +kernel
theorem dX0_init_1 : decode cX0_init 1 = .ok (.invokespecial 3, 3) := by decide +kernel
theorem dX0_init_4 : decode cX0_init 4 = .ok (.aload_n 0, 1) := by decide +kernel
theorem dX0_init_5 : decode cX0_init 5 = .ok (.sipush 192, 3) := by decide +kernel
theorem dX0_init_8 : decode cX0_init 8 = .ok (.newarray .int, 2) := by decide +kernel
theorem dX0_init_10 : decode cX0_init 10 = .ok (.putfield 9, 3) := by decide +kernel
theorem dX0_init_13 : decode cX0_init 13 = .ok (.aload_n 0, 1) := by decide +kernel
theorem dX0_init_14 : decode cX0_init 14 = .ok (.sipush 192, 3) := by decide +kernel
theorem dX0_init_17 : decode cX0_init 17 = .ok (.newarray .int, 2) := by decide +kernel
theorem dX0_init_19 : decode cX0_init 19 = .ok (.putfield 15, 3) := by decide +kernel
theorem dX0_init_22 : decode cX0_init 22 = .ok (.aload_n 0, 1) := by decide +kernel
theorem dX0_init_23 : decode cX0_init 23 = .ok (.sipush 192, 3) := by decide +kernel
theorem dX0_init_26 : decode cX0_init 26 = .ok (.newarray .int, 2) := by decide +kernel
theorem dX0_init_28 : decode cX0_init 28 = .ok (.putfield 18, 3) := by decide +kernel
theorem dX0_init_31 : decode cX0_init 31 = .ok (.aload_n 0, 1) := by decide +kernel
theorem dX0_init_32 : decode cX0_init 32 = .ok (.sipush 192, 3) := by decide +kernel
theorem dX0_init_35 : decode cX0_init 35 = .ok (.newarray .int, 2) := by decide +kernel
theorem dX0_init_37 : decode cX0_init 37 = .ok (.putfield 21, 3) := by decide +kernel
theorem dX0_init_40 : decode cX0_init 40 = .ok (.aload_n 0, 1) := by decide +kernel
theorem dX0_init_41 : decode cX0_init 41 = .ok (.sipush 192, 3) := by decide +kernel
theorem dX0_init_44 : decode cX0_init 44 = .ok (.newarray .int, 2) := by decide +kernel
theorem dX0_init_46 : decode cX0_init 46 = .ok (.putfield 24, 3) := by decide +kernel
theorem dX0_init_49 : decode cX0_init 49 = .ok (.aload_n 0, 1) := by decide +kernel
theorem dX0_init_50 : decode cX0_init 50 = .ok (.sipush 192, 3) := by decide +kernel
theorem dX0_init_53 : decode cX0_init 53 = .ok (.newarray .int, 2) := by decide +kernel
theorem dX0_init_55 : decode cX0_init 55 = .ok (.putfield 27, 3) := by decide +kernel
theorem dX0_init_58 : decode cX0_init 58 = .ok (.aload_n 0, 1) := by decide +kernel
theorem dX0_init_59 : decode cX0_init 59 = .ok (.sipush 192, 3) := by decide +kernel
theorem dX0_init_62 : decode cX0_init 62 = .ok (.newarray .int, 2) := by decide +kernel
theorem dX0_init_64 : decode cX0_init 64 = .ok (.putfield 30, 3) := by decide +kernel
theorem dX0_init_67 : decode cX0_init 67 = .ok (.aload_n 0, 1) := by decide +kernel
theorem dX0_init_68 : decode cX0_init 68 = .ok (.sipush 192, 3) := by decide +kernel
theorem dX0_init_71 : decode cX0_init 71 = .ok (.newarray .int, 2) := by decide +kernel
theorem dX0_init_73 : decode cX0_init 73 = .ok (.putfield 33, 3) := by decide +kernel
theorem dX0_init_76 : decode cX0_init 76 = .ok (.return_, 1) := by decide +kernel
theorem dX0_levelIn_0 : decode cX0_levelIn 0 = .ok (.iload_n 2, 1) := by decide +kernel
theorem dX0_levelIn_1 : decode cX0_levelIn 1 = .ok (.iconst 0, 1) := by decide +kernel
theorem dX0_levelIn_2 : decode cX0_levelIn 2 = .ok (.invokestatic 61, 3) := by decide +kernel
theorem dX0_levelIn_5 : decode cX0_levelIn 5 = .ok (.istore_n 3, 1) := by decide +kernel
theorem dX0_levelIn_6 : decode cX0_levelIn 6 = .ok (.iload_n 3, 1) := by decide +kernel
theorem dX0_levelIn_7 : decode cX0_levelIn 7 = .ok (.iload_n 2, 1) := by decide +kernel
theorem dX0_levelIn_8 : decode cX0_levelIn 8 = .ok (.iconst 1, 1) := by decide +kernel
theorem dX0_levelIn_9 : decode cX0_levelIn 9 = .ok (.iadd, 1) := by decide +kernel
theorem dX0_levelIn_10 : decode cX0_levelIn 10 = .ok (.iconst 0, 1) := by decide +kernel
theorem dX0_levelIn_11 : decode cX0_levelIn 11 = .ok (.invokestatic 61, 3) := by decide +kernel
theorem dX0_levelIn_14 : decode cX0_levelIn 14 = .ok (.if_icmp .ge 26, 3) := by decide +kernel
theorem dX0_levelIn_17 : decode cX0_levelIn 17 = .ok (.aload_n 0, 1) := by decide +kernel
theorem dX0_levelIn_18 : decode cX0_levelIn 18 = .ok (.getfield 9, 3) := by decide +kernel
theorem dX0_levelIn_21 : decode cX0_levelIn 21 = .ok (.iload_n 3, 1) := by decide +kernel
theorem dX0_levelIn_22 : decode cX0_levelIn 22 = .ok (.iaload, 1) := by decide +kernel
theorem dX0_levelIn_23 : decode cX0_levelIn 23 = .ok (.iload_n 1, 1) := by decide +kernel
theorem dX0_levelIn_24 : decode cX0_levelIn 24 = .ok (.if_icmp .ne 10, 3) := by decide +kernel
theorem dX0_levelIn_27 : decode cX0_levelIn 27 = .ok (.aload_n 0, 1) := by decide +kernel
theorem dX0_levelIn_28 : decode cX0_levelIn 28 = .ok (.getfield 27, 3) := by decide +kernel
theorem dX0_levelIn_31 : decode cX0_levelIn 31 = .ok (.iload_n 3, 1) := by decide +kernel
theorem dX0_levelIn_32 : decode cX0_levelIn 32 = .ok (.iaload, 1) := by decide +kernel
theorem dX0_levelIn_33 : decode cX0_levelIn 33 = .ok (.ireturn, 1) := by decide +kernel
theorem dX0_levelIn_34 : decode cX0_levelIn 34 = .ok (.iinc 3 1, 3) := by decide +kernel
theorem dX0_levelIn_37 : decode cX0_levelIn 37 = .ok (.goto (-31), 3) := by decide +kernel
theorem dX0_levelIn_40 : decode cX0_levelIn 40 = .ok (.ldc 74, 2) := by decide +kernel
theorem dX0_levelIn_42 : decode cX0_levelIn 42 = .ok (.ireturn, 1) := by decide +kernel
theorem dX0_measure_0 : decode cX0_measure 0 = .ok (.aload_n 1, 1) := by decide +kernel
theorem dX0_measure_1 : decode cX0_measure 1 = .ok (.getfield 99, 3) := by decide +kernel
theorem dX0_measure_4 : decode cX0_measure 4 = .ok (.istore_n 3, 1) := by decide +kernel
theorem dX0_measure_5 : decode cX0_measure 5 = .ok (.iconst 0, 1) := by decide +kernel
theorem dX0_measure_6 : decode cX0_measure 6 = .ok (.istore 4, 2) := by decide +kernel
theorem dX0_measure_8 : decode cX0_measure 8 = .ok (.iload 4, 2) := by decide +kernel
theorem dX0_measure_10 : decode cX0_measure 10 = .ok (.aload_n 1, 1) := by decide +kernel
theorem dX0_measure_11 : decode cX0_measure 11 = .ok (.getfield 57, 3) := by decide +kernel
theorem dX0_measure_14 : decode cX0_measure 14 = .ok (.if_icmp .ge 49, 3) := by decide +kernel
theorem dX0_measure_17 : decode cX0_measure 17 = .ok (.aload_n 0, 1) := by decide +kernel
theorem dX0_measure_18 : decode cX0_measure 18 = .ok (.getfield 27, 3) := by decide +kernel
theorem dX0_measure_21 : decode cX0_measure 21 = .ok (.iload_n 2, 1) := by decide +kernel
theorem dX0_measure_22 : decode cX0_measure 22 = .ok (.iload 4, 2) := by decide +kernel
theorem dX0_measure_24 : decode cX0_measure 24 = .ok (.invokestatic 61, 3) := by decide +kernel
theorem dX0_measure_27 : decode cX0_measure 27 = .ok (.iload_n 3, 1) := by decide +kernel
theorem dX0_measure_28 : decode cX0_measure 28 = .ok (.iastore, 1) := by decide +kernel
theorem dX0_measure_29 : decode cX0_measure 29 = .ok (.aload_n 0, 1) := by decide +kernel
theorem dX0_measure_30 : decode cX0_measure 30 = .ok (.getfield 30, 3) := by decide +kernel
theorem dX0_measure_33 : decode cX0_measure 33 = .ok (.iload_n 2, 1) := by decide +kernel
theorem dX0_measure_34 : decode cX0_measure 34 = .ok (.iload 4, 2) := by decide +kernel
theorem dX0_measure_36 : decode cX0_measure 36 = .ok (.invokestatic 61, 3) := by decide +kernel
theorem dX0_measure_39 : decode cX0_measure 39 = .ok (.aload_n 1, 1) := by decide +kernel
theorem dX0_measure_40 : decode cX0_measure 40 = .ok (.getfield 102, 3) := by decide +kernel
theorem dX0_measure_43 : decode cX0_measure 43 = .ok (.iload 4, 2) := by decide +kernel
theorem dX0_measure_45 : decode cX0_measure 45 = .ok (.iaload, 1) := by decide +kernel
theorem dX0_measure_46 : decode cX0_measure 46 = .ok (.iastore, 1) := by decide +kernel
theorem dX0_measure_47 : decode cX0_measure 47 = .ok (.iload_n 3, 1) := by decide +kernel
theorem dX0_measure_48 : decode cX0_measure 48 = .ok (.aload_n 1, 1) := by decide +kernel
theorem dX0_measure_49 : decode cX0_measure 49 = .ok (.getfield 102, 3) := by decide +kernel
theorem dX0_measure_52 : decode cX0_measure 52 = .ok (.iload 4, 2) := by decide +kernel
theorem dX0_measure_54 : decode cX0_measure 54 = .ok (.iaload, 1) := by decide +kernel
theorem dX0_measure_55 : decode cX0_measure 55 = .ok (.isub, 1) := by decide +kernel
theorem dX0_measure_56 : decode cX0_measure 56 = .ok (.istore_n 3, 1) := by decide +kernel
theorem dX0_measure_57 : decode cX0_measure 57 = .ok (.iinc 4 1, 3) := by decide +kernel
theorem dX0_measure_60 : decode cX0_measure 60 = .ok (.goto (-52), 3) := by decide +kernel
theorem dX0_measure_63 : decode cX0_measure 63 = .ok (.return_, 1) := by decide +kernel
theorem dX0_reach_0 : decode cX0_reach 0 = .ok (.aload_n 0, 1) := by decide +kernel
theorem dX0_reach_1 : decode cX0_reach 1 = .ok (.getfield 103, 3) := by decide +kernel
theorem dX0_reach_4 : decode cX0_reach 4 = .ok (.sipush 192, 3) := by decide +kernel
theorem dX0_reach_7 : decode cX0_reach 7 = .ok (.if_icmp .ge 64, 3) := by decide +kernel
theorem dX0_reach_10 : decode cX0_reach 10 = .ok (.aload_n 0, 1) := by decide +kernel
theorem dX0_reach_11 : decode cX0_reach 11 = .ok (.getfield 9, 3) := by decide +kernel
theorem dX0_reach_14 : decode cX0_reach 14 = .ok (.iload_n 1, 1) := by decide +kernel
theorem dX0_reach_15 : decode cX0_reach 15 = .ok (.aload_n 0, 1) := by decide +kernel
theorem dX0_reach_16 : decode cX0_reach 16 = .ok (.getfield 36, 3) := by decide +kernel
theorem dX0_reach_19 : decode cX0_reach 19 = .ok (.iastore, 1) := by decide +kernel
theorem dX0_reach_20 : decode cX0_reach 20 = .ok (.aload_n 0, 1) := by decide +kernel
theorem dX0_reach_21 : decode cX0_reach 21 = .ok (.getfield 18, 3) := by decide +kernel
theorem dX0_reach_24 : decode cX0_reach 24 = .ok (.aload_n 0, 1) := by decide +kernel
theorem dX0_reach_25 : decode cX0_reach 25 = .ok (.getfield 36, 3) := by decide +kernel
theorem dX0_reach_28 : decode cX0_reach 28 = .ok (.dup2, 1) := by decide +kernel
theorem dX0_reach_29 : decode cX0_reach 29 = .ok (.iaload, 1) := by decide +kernel
theorem dX0_reach_30 : decode cX0_reach 30 = .ok (.iconst 1, 1) := by decide +kernel
theorem dX0_reach_31 : decode cX0_reach 31 = .ok (.iadd, 1) := by decide +kernel
theorem dX0_reach_32 : decode cX0_reach 32 = .ok (.iastore, 1) := by decide +kernel
theorem dX0_reach_33 : decode cX0_reach 33 = .ok (.aload_n 0, 1) := by decide +kernel
theorem dX0_reach_34 : decode cX0_reach 34 = .ok (.getfield 24, 3) := by decide +kernel
theorem dX0_reach_37 : decode cX0_reach 37 = .ok (.aload_n 0, 1) := by decide +kernel
theorem dX0_reach_38 : decode cX0_reach 38 = .ok (.getfield 36, 3) := by decide +kernel
theorem dX0_reach_41 : decode cX0_reach 41 = .ok (.dup2, 1) := by decide +kernel
theorem dX0_reach_42 : decode cX0_reach 42 = .ok (.iaload, 1) := by decide +kernel
theorem dX0_reach_43 : decode cX0_reach 43 = .ok (.iconst 1, 1) := by decide +kernel
theorem dX0_reach_44 : decode cX0_reach 44 = .ok (.iload_n 1, 1) := by decide +kernel
theorem dX0_reach_45 : decode cX0_reach 45 = .ok (.bipush 12, 2) := by decide +kernel
theorem dX0_reach_47 : decode cX0_reach 47 = .ok (.idiv, 1) := by decide +kernel
theorem dX0_reach_48 : decode cX0_reach 48 = .ok (.ishl, 1) := by decide +kernel
theorem dX0_reach_49 : decode cX0_reach 49 = .ok (.ior, 1) := by decide +kernel
theorem dX0_reach_50 : decode cX0_reach 50 = .ok (.iastore, 1) := by decide +kernel
theorem dX0_reach_51 : decode cX0_reach 51 = .ok (.aload_n 0, 1) := by decide +kernel
theorem dX0_reach_52 : decode cX0_reach 52 = .ok (.getfield 33, 3) := by decide +kernel
theorem dX0_reach_55 : decode cX0_reach 55 = .ok (.aload_n 0, 1) := by decide +kernel
theorem dX0_reach_56 : decode cX0_reach 56 = .ok (.getfield 103, 3) := by decide +kernel
theorem dX0_reach_59 : decode cX0_reach 59 = .ok (.iload_n 1, 1) := by decide +kernel
theorem dX0_reach_60 : decode cX0_reach 60 = .ok (.iastore, 1) := by decide +kernel
theorem dX0_reach_61 : decode cX0_reach 61 = .ok (.aload_n 0, 1) := by decide +kernel
theorem dX0_reach_62 : decode cX0_reach 62 = .ok (.dup, 1) := by decide +kernel
theorem dX0_reach_63 : decode cX0_reach 63 = .ok (.getfield 103, 3) := by decide +kernel
theorem dX0_reach_66 : decode cX0_reach 66 = .ok (.iconst 1, 1) := by decide +kernel
theorem dX0_reach_67 : decode cX0_reach 67 = .ok (.iadd, 1) := by decide +kernel
theorem dX0_reach_68 : decode cX0_reach 68 = .ok (.putfield 103, 3) := by decide +kernel
theorem dX0_reach_71 : decode cX0_reach 71 = .ok (.return_, 1) := by decide +kernel
theorem dX0_shareOf_0 : decode cX0_shareOf 0 = .ok (.iload_n 0, 1) := by decide +kernel
theorem dX0_shareOf_1 : decode cX0_shareOf 1 = .ok (.tableswitch 49 1 3 #[42, 31, 27], 27) := by decide +kernel
theorem dX0_shareOf_28 : decode cX0_shareOf 28 = .ok (.ldc2_w 97, 3) := by decide +kernel
theorem dX0_shareOf_31 : decode cX0_shareOf 31 = .ok (.lreturn, 1) := by decide +kernel
theorem dX0_shareOf_32 : decode cX0_shareOf 32 = .ok (.sipush 300, 3) := by decide +kernel
theorem dX0_shareOf_35 : decode cX0_shareOf 35 = .ok (.iload_n 1, 1) := by decide +kernel
theorem dX0_shareOf_36 : decode cX0_shareOf 36 = .ok (.imul, 1) := by decide +kernel
theorem dX0_shareOf_37 : decode cX0_shareOf 37 = .ok (.iload_n 1, 1) := by decide +kernel
theorem dX0_shareOf_38 : decode cX0_shareOf 38 = .ok (.iload_n 1, 1) := by decide +kernel
theorem dX0_shareOf_39 : decode cX0_shareOf 39 = .ok (.imul, 1) := by decide +kernel
theorem dX0_shareOf_40 : decode cX0_shareOf 40 = .ok (.isub, 1) := by decide +kernel
theorem dX0_shareOf_41 : decode cX0_shareOf 41 = .ok (.i2l, 1) := by decide +kernel
theorem dX0_shareOf_42 : decode cX0_shareOf 42 = .ok (.lreturn, 1) := by decide +kernel
theorem dX0_shareOf_43 : decode cX0_shareOf 43 = .ok (.iconst 2, 1) := by decide +kernel
theorem dX0_shareOf_44 : decode cX0_shareOf 44 = .ok (.iload_n 1, 1) := by decide +kernel
theorem dX0_shareOf_45 : decode cX0_shareOf 45 = .ok (.imul, 1) := by decide +kernel
theorem dX0_shareOf_46 : decode cX0_shareOf 46 = .ok (.iload_n 1, 1) := by decide +kernel
theorem dX0_shareOf_47 : decode cX0_shareOf 47 = .ok (.imul, 1) := by decide +kernel
theorem dX0_shareOf_48 : decode cX0_shareOf 48 = .ok (.i2l, 1) := by decide +kernel
theorem dX0_shareOf_49 : decode cX0_shareOf 49 = .ok (.lreturn, 1) := by decide +kernel
theorem dX0_shareOf_50 : decode cX0_shareOf 50 = .ok (.lconst 0, 1) := by decide +kernel
theorem dX0_shareOf_51 : decode cX0_shareOf 51 = .ok (.lreturn, 1) := by decide +kernel
theorem dX0_spread_0 : decode cX0_spread 0 = .ok (.iconst 0, 1) := by decide +kernel
theorem dX0_spread_1 : decode cX0_spread 1 = .ok (.istore 4, 2) := by decide +kernel
theorem dX0_spread_3 : decode cX0_spread 3 = .ok (.iload 4, 2) := by decide +kernel
theorem dX0_spread_5 : decode cX0_spread 5 = .ok (.aload_n 0, 1) := by decide +kernel
theorem dX0_spread_6 : decode cX0_spread 6 = .ok (.getfield 103, 3) := by decide +kernel
theorem dX0_spread_9 : decode cX0_spread 9 = .ok (.if_icmp .ge 102, 3) := by decide +kernel
theorem dX0_spread_12 : decode cX0_spread 12 = .ok (.iload 4, 2) := by decide +kernel
theorem dX0_spread_14 : decode cX0_spread 14 = .ok (.sipush 192, 3) := by decide +kernel
theorem dX0_spread_17 : decode cX0_spread 17 = .ok (.if_icmp .ge 94, 3) := by decide +kernel
theorem dX0_spread_20 : decode cX0_spread 20 = .ok (.aload_n 0, 1) := by decide +kernel
theorem dX0_spread_21 : decode cX0_spread 21 = .ok (.getfield 33, 3) := by decide +kernel
theorem dX0_spread_24 : decode cX0_spread 24 = .ok (.iload 4, 2) := by decide +kernel
theorem dX0_spread_26 : decode cX0_spread 26 = .ok (.iaload, 1) := by decide +kernel
theorem dX0_spread_27 : decode cX0_spread 27 = .ok (.bipush 12, 2) := by decide +kernel
theorem dX0_spread_29 : decode cX0_spread 29 = .ok (.idiv, 1) := by decide +kernel
theorem dX0_spread_30 : decode cX0_spread 30 = .ok (.istore 5, 2) := by decide +kernel
theorem dX0_spread_32 : decode cX0_spread 32 = .ok (.aload_n 0, 1) := by decide +kernel
theorem dX0_spread_33 : decode cX0_spread 33 = .ok (.getfield 33, 3) := by decide +kernel
theorem dX0_spread_36 : decode cX0_spread 36 = .ok (.iload 4, 2) := by decide +kernel
theorem dX0_spread_38 : decode cX0_spread 38 = .ok (.iaload, 1) := by decide +kernel
theorem dX0_spread_39 : decode cX0_spread 39 = .ok (.bipush 12, 2) := by decide +kernel
theorem dX0_spread_41 : decode cX0_spread 41 = .ok (.irem, 1) := by decide +kernel
theorem dX0_spread_42 : decode cX0_spread 42 = .ok (.istore 6, 2) := by decide +kernel
theorem dX0_spread_44 : decode cX0_spread 44 = .ok (.iconst 0, 1) := by decide +kernel
theorem dX0_spread_45 : decode cX0_spread 45 = .ok (.istore 7, 2) := by decide +kernel
theorem dX0_spread_47 : decode cX0_spread 47 = .ok (.iload 7, 2) := by decide +kernel
theorem dX0_spread_49 : decode cX0_spread 49 = .ok (.iload_n 1, 1) := by decide +kernel
theorem dX0_spread_50 : decode cX0_spread 50 = .ok (.if_icmp .ge 55, 3) := by decide +kernel
theorem dX0_spread_53 : decode cX0_spread 53 = .ok (.aload_n 3, 1) := by decide +kernel
theorem dX0_spread_54 : decode cX0_spread 54 = .ok (.aload_n 2, 1) := by decide +kernel
theorem dX0_spread_55 : decode cX0_spread 55 = .ok (.iload 5, 2) := by decide +kernel
theorem dX0_spread_57 : decode cX0_spread 57 = .ok (.iload 7, 2) := by decide +kernel
theorem dX0_spread_59 : decode cX0_spread 59 = .ok (.iload 6, 2) := by decide +kernel
theorem dX0_spread_61 : decode cX0_spread 61 = .ok (.invokevirtual 110, 3) := by decide +kernel
theorem dX0_spread_64 : decode cX0_spread 64 = .ok (.istore 8, 2) := by decide +kernel
theorem dX0_spread_66 : decode cX0_spread 66 = .ok (.iload 8, 2) := by decide +kernel
theorem dX0_spread_68 : decode cX0_spread 68 = .ok (.iconst (-1), 1) := by decide +kernel
theorem dX0_spread_69 : decode cX0_spread 69 = .ok (.if_icmp .eq 30, 3) := by decide +kernel
theorem dX0_spread_72 : decode cX0_spread 72 = .ok (.aload_n 0, 1) := by decide +kernel
theorem dX0_spread_73 : decode cX0_spread 73 = .ok (.getfield 9, 3) := by decide +kernel
theorem dX0_spread_76 : decode cX0_spread 76 = .ok (.iload 7, 2) := by decide +kernel
theorem dX0_spread_78 : decode cX0_spread 78 = .ok (.iload 8, 2) := by decide +kernel
theorem dX0_spread_80 : decode cX0_spread 80 = .ok (.invokestatic 61, 3) := by decide +kernel
theorem dX0_spread_83 : decode cX0_spread 83 = .ok (.iaload, 1) := by decide +kernel
theorem dX0_spread_84 : decode cX0_spread 84 = .ok (.iconst (-1), 1) := by decide +kernel
theorem dX0_spread_85 : decode cX0_spread 85 = .ok (.if_icmp .ne 14, 3) := by decide +kernel
theorem dX0_spread_88 : decode cX0_spread 88 = .ok (.aload_n 0, 1) := by decide +kernel
theorem dX0_spread_89 : decode cX0_spread 89 = .ok (.iload 7, 2) := by decide +kernel
theorem dX0_spread_91 : decode cX0_spread 91 = .ok (.iload 8, 2) := by decide +kernel
theorem dX0_spread_93 : decode cX0_spread 93 = .ok (.invokestatic 61, 3) := by decide +kernel
theorem dX0_spread_96 : decode cX0_spread 96 = .ok (.invokevirtual 106, 3) := by decide +kernel
theorem dX0_spread_99 : decode cX0_spread 99 = .ok (.iinc 7 1, 3) := by decide +kernel
theorem dX0_spread_102 : decode cX0_spread 102 = .ok (.goto (-55), 3) := by decide +kernel
theorem dX0_spread_105 : decode cX0_spread 105 = .ok (.iinc 4 1, 3) := by decide +kernel
theorem dX0_spread_108 : decode cX0_spread 108 = .ok (.goto (-105), 3) := by decide +kernel
theorem dX0_spread_111 : decode cX0_spread 111 = .ok (.return_, 1) := by decide +kernel
theorem dX0_thicknessOn_0 : decode cX0_thicknessOn 0 = .ok (.lconst 0, 1) := by decide +kernel
theorem dX0_thicknessOn_1 : decode cX0_thicknessOn 1 = .ok (.lstore 4, 2) := by decide +kernel
theorem dX0_thicknessOn_3 : decode cX0_thicknessOn 3 = .ok (.iconst 0, 1) := by decide +kernel
theorem dX0_thicknessOn_4 : decode cX0_thicknessOn 4 = .ok (.istore 6, 2) := by decide +kernel
theorem dX0_thicknessOn_6 : decode cX0_thicknessOn 6 = .ok (.iload 6, 2) := by decide +kernel
theorem dX0_thicknessOn_8 : decode cX0_thicknessOn 8 = .ok (.iconst 3, 1) := by decide +kernel
theorem dX0_thicknessOn_9 : decode cX0_thicknessOn 9 = .ok (.if_icmp .ge 69, 3) := by decide +kernel
theorem dX0_thicknessOn_12 : decode cX0_thicknessOn 12 = .ok (.aload_n 1, 1) := by decide +kernel
theorem dX0_thicknessOn_13 : decode cX0_thicknessOn 13 = .ok (.iload_n 2, 1) := by decide +kernel
theorem dX0_thicknessOn_14 : decode cX0_thicknessOn 14 = .ok (.iload 6, 2) := by decide +kernel
theorem dX0_thicknessOn_16 : decode cX0_thicknessOn 16 = .ok (.invokevirtual 75, 3) := by decide +kernel
theorem dX0_thicknessOn_19 : decode cX0_thicknessOn 19 = .ok (.istore 7, 2) := by decide +kernel
theorem dX0_thicknessOn_21 : decode cX0_thicknessOn 21 = .ok (.iload 7, 2) := by decide +kernel
theorem dX0_thicknessOn_23 : decode cX0_thicknessOn 23 = .ok (.iconst 0, 1) := by decide +kernel
theorem dX0_thicknessOn_24 : decode cX0_thicknessOn 24 = .ok (.invokestatic 61, 3) := by decide +kernel
theorem dX0_thicknessOn_27 : decode cX0_thicknessOn 27 = .ok (.istore 8, 2) := by decide +kernel
theorem dX0_thicknessOn_29 : decode cX0_thicknessOn 29 = .ok (.iload 8, 2) := by decide +kernel
theorem dX0_thicknessOn_31 : decode cX0_thicknessOn 31 = .ok (.iload 7, 2) := by decide +kernel
theorem dX0_thicknessOn_33 : decode cX0_thicknessOn 33 = .ok (.iconst 1, 1) := by decide +kernel
theorem dX0_thicknessOn_34 : decode cX0_thicknessOn 34 = .ok (.iadd, 1) := by decide +kernel
theorem dX0_thicknessOn_35 : decode cX0_thicknessOn 35 = .ok (.iconst 0, 1) := by decide +kernel
theorem dX0_thicknessOn_36 : decode cX0_thicknessOn 36 = .ok (.invokestatic 61, 3) := by decide +kernel
theorem dX0_thicknessOn_39 : decode cX0_thicknessOn 39 = .ok (.if_icmp .ge 33, 3) := by decide +kernel
theorem dX0_thicknessOn_42 : decode cX0_thicknessOn 42 = .ok (.aload_n 0, 1) := by decide +kernel
theorem dX0_thicknessOn_43 : decode cX0_thicknessOn 43 = .ok (.getfield 9, 3) := by decide +kernel
theorem dX0_thicknessOn_46 : decode cX0_thicknessOn 46 = .ok (.iload 8, 2) := by decide +kernel
theorem dX0_thicknessOn_48 : decode cX0_thicknessOn 48 = .ok (.iaload, 1) := by decide +kernel
theorem dX0_thicknessOn_49 : decode cX0_thicknessOn 49 = .ok (.iload_n 3, 1) := by decide +kernel
theorem dX0_thicknessOn_50 : decode cX0_thicknessOn 50 = .ok (.if_icmp .ne 16, 3) := by decide +kernel
theorem dX0_thicknessOn_53 : decode cX0_thicknessOn 53 = .ok (.lload 4, 2) := by decide +kernel
theorem dX0_thicknessOn_55 : decode cX0_thicknessOn 55 = .ok (.aload_n 0, 1) := by decide +kernel
theorem dX0_thicknessOn_56 : decode cX0_thicknessOn 56 = .ok (.getfield 30, 3) := by decide +kernel
theorem dX0_thicknessOn_59 : decode cX0_thicknessOn 59 = .ok (.iload 8, 2) := by decide +kernel
theorem dX0_thicknessOn_61 : decode cX0_thicknessOn 61 = .ok (.iaload, 1) := by decide +kernel
theorem dX0_thicknessOn_62 : decode cX0_thicknessOn 62 = .ok (.i2l, 1) := by decide +kernel
theorem dX0_thicknessOn_63 : decode cX0_thicknessOn 63 = .ok (.ladd, 1) := by decide +kernel
theorem dX0_thicknessOn_64 : decode cX0_thicknessOn 64 = .ok (.lstore 4, 2) := by decide +kernel
theorem dX0_thicknessOn_66 : decode cX0_thicknessOn 66 = .ok (.iinc 8 1, 3) := by decide +kernel
theorem dX0_thicknessOn_69 : decode cX0_thicknessOn 69 = .ok (.goto (-40), 3) := by decide +kernel
theorem dX0_thicknessOn_72 : decode cX0_thicknessOn 72 = .ok (.iinc 6 1, 3) := by decide +kernel
theorem dX0_thicknessOn_75 : decode cX0_thicknessOn 75 = .ok (.goto (-69), 3) := by decide +kernel
theorem dX0_thicknessOn_78 : decode cX0_thicknessOn 78 = .ok (.lload 4, 2) := by decide +kernel
theorem dX0_thicknessOn_80 : decode cX0_thicknessOn 80 = .ok (.lreturn, 1) := by decide +kernel
theorem dX0_volumeIn_0 : decode cX0_volumeIn 0 = .ok (.iconst 0, 1) := by decide +kernel
theorem dX0_volumeIn_1 : decode cX0_volumeIn 1 = .ok (.istore 5, 2) := by decide +kernel
theorem dX0_volumeIn_3 : decode cX0_volumeIn 3 = .ok (.iconst 0, 1) := by decide +kernel
theorem dX0_volumeIn_4 : decode cX0_volumeIn 4 = .ok (.istore 6, 2) := by decide +kernel
theorem dX0_volumeIn_6 : decode cX0_volumeIn 6 = .ok (.iload 6, 2) := by decide +kernel
theorem dX0_volumeIn_8 : decode cX0_volumeIn 8 = .ok (.iconst 3, 1) := by decide +kernel
theorem dX0_volumeIn_9 : decode cX0_volumeIn 9 = .ok (.if_icmp .ge 23, 3) := by decide +kernel
theorem dX0_volumeIn_12 : decode cX0_volumeIn 12 = .ok (.iload 5, 2) := by decide +kernel
theorem dX0_volumeIn_14 : decode cX0_volumeIn 14 = .ok (.iconst 1, 1) := by decide +kernel
theorem dX0_volumeIn_15 : decode cX0_volumeIn 15 = .ok (.aload_n 1, 1) := by decide +kernel
theorem dX0_volumeIn_16 : decode cX0_volumeIn 16 = .ok (.iload_n 2, 1) := by decide +kernel
theorem dX0_volumeIn_17 : decode cX0_volumeIn 17 = .ok (.iload 6, 2) := by decide +kernel
theorem dX0_volumeIn_19 : decode cX0_volumeIn 19 = .ok (.invokevirtual 75, 3) := by decide +kernel
theorem dX0_volumeIn_22 : decode cX0_volumeIn 22 = .ok (.ishl, 1) := by decide +kernel
theorem dX0_volumeIn_23 : decode cX0_volumeIn 23 = .ok (.ior, 1) := by decide +kernel
theorem dX0_volumeIn_24 : decode cX0_volumeIn 24 = .ok (.istore 5, 2) := by decide +kernel
theorem dX0_volumeIn_26 : decode cX0_volumeIn 26 = .ok (.iinc 6 1, 3) := by decide +kernel
theorem dX0_volumeIn_29 : decode cX0_volumeIn 29 = .ok (.goto (-23), 3) := by decide +kernel
theorem dX0_volumeIn_32 : decode cX0_volumeIn 32 = .ok (.lconst 0, 1) := by decide +kernel
theorem dX0_volumeIn_33 : decode cX0_volumeIn 33 = .ok (.lstore 6, 2) := by decide +kernel
theorem dX0_volumeIn_35 : decode cX0_volumeIn 35 = .ok (.iconst 0, 1) := by decide +kernel
theorem dX0_volumeIn_36 : decode cX0_volumeIn 36 = .ok (.istore 8, 2) := by decide +kernel
theorem dX0_volumeIn_38 : decode cX0_volumeIn 38 = .ok (.iload 8, 2) := by decide +kernel
theorem dX0_volumeIn_40 : decode cX0_volumeIn 40 = .ok (.aload_n 0, 1) := by decide +kernel
theorem dX0_volumeIn_41 : decode cX0_volumeIn 41 = .ok (.getfield 36, 3) := by decide +kernel
theorem dX0_volumeIn_44 : decode cX0_volumeIn 44 = .ok (.if_icmp .ge 73, 3) := by decide +kernel
theorem dX0_volumeIn_47 : decode cX0_volumeIn 47 = .ok (.aload_n 0, 1) := by decide +kernel
theorem dX0_volumeIn_48 : decode cX0_volumeIn 48 = .ok (.getfield 24, 3) := by decide +kernel
theorem dX0_volumeIn_51 : decode cX0_volumeIn 51 = .ok (.iload 8, 2) := by decide +kernel
theorem dX0_volumeIn_53 : decode cX0_volumeIn 53 = .ok (.iaload, 1) := by decide +kernel
theorem dX0_volumeIn_54 : decode cX0_volumeIn 54 = .ok (.iload 5, 2) := by decide +kernel
theorem dX0_volumeIn_56 : decode cX0_volumeIn 56 = .ok (.iand, 1) := by decide +kernel
theorem dX0_volumeIn_57 : decode cX0_volumeIn 57 = .ok (.istore 9, 2) := by decide +kernel
theorem dX0_volumeIn_59 : decode cX0_volumeIn 59 = .ok (.aload_n 0, 1) := by decide +kernel
theorem dX0_volumeIn_60 : decode cX0_volumeIn 60 = .ok (.getfield 15, 3) := by decide +kernel
theorem dX0_volumeIn_63 : decode cX0_volumeIn 63 = .ok (.iload 8, 2) := by decide +kernel
theorem dX0_volumeIn_65 : decode cX0_volumeIn 65 = .ok (.iaload, 1) := by decide +kernel
theorem dX0_volumeIn_66 : decode cX0_volumeIn 66 = .ok (.iload_n 3, 1) := by decide +kernel
theorem dX0_volumeIn_67 : decode cX0_volumeIn 67 = .ok (.if_icmp .ne 44, 3) := by decide +kernel
theorem dX0_volumeIn_70 : decode cX0_volumeIn 70 = .ok (.iload 9, 2) := by decide +kernel
theorem dX0_volumeIn_72 : decode cX0_volumeIn 72 = .ok (.ifCond .eq 39, 3) := by decide +kernel
theorem dX0_volumeIn_75 : decode cX0_volumeIn 75 = .ok (.iload 9, 2) := by decide +kernel
theorem dX0_volumeIn_77 : decode cX0_volumeIn 77 = .ok (.invokestatic 80, 3) := by decide +kernel
theorem dX0_volumeIn_80 : decode cX0_volumeIn 80 = .ok (.iload 4, 2) := by decide +kernel
theorem dX0_volumeIn_82 : decode cX0_volumeIn 82 = .ok (.invokestatic 86, 3) := by decide +kernel
theorem dX0_volumeIn_85 : decode cX0_volumeIn 85 = .ok (.lstore 10, 2) := by decide +kernel
theorem dX0_volumeIn_87 : decode cX0_volumeIn 87 = .ok (.lload 6, 2) := by decide +kernel
theorem dX0_volumeIn_89 : decode cX0_volumeIn 89 = .ok (.aload_n 1, 1) := by decide +kernel
theorem dX0_volumeIn_90 : decode cX0_volumeIn 90 = .ok (.getfield 90, 3) := by decide +kernel
theorem dX0_volumeIn_93 : decode cX0_volumeIn 93 = .ok (.iload_n 2, 1) := by decide +kernel
theorem dX0_volumeIn_94 : decode cX0_volumeIn 94 = .ok (.iaload, 1) := by decide +kernel
theorem dX0_volumeIn_95 : decode cX0_volumeIn 95 = .ok (.i2l, 1) := by decide +kernel
theorem dX0_volumeIn_96 : decode cX0_volumeIn 96 = .ok (.lload 10, 2) := by decide +kernel
theorem dX0_volumeIn_98 : decode cX0_volumeIn 98 = .ok (.lmul, 1) := by decide +kernel
theorem dX0_volumeIn_99 : decode cX0_volumeIn 99 = .ok (.aload_n 0, 1) := by decide +kernel
theorem dX0_volumeIn_100 : decode cX0_volumeIn 100 = .ok (.aload_n 1, 1) := by decide +kernel
theorem dX0_volumeIn_101 : decode cX0_volumeIn 101 = .ok (.iload_n 2, 1) := by decide +kernel
theorem dX0_volumeIn_102 : decode cX0_volumeIn 102 = .ok (.iload 8, 2) := by decide +kernel
theorem dX0_volumeIn_104 : decode cX0_volumeIn 104 = .ok (.invokevirtual 93, 3) := by decide +kernel
theorem dX0_volumeIn_107 : decode cX0_volumeIn 107 = .ok (.lmul, 1) := by decide +kernel
theorem dX0_volumeIn_108 : decode cX0_volumeIn 108 = .ok (.ladd, 1) := by decide +kernel
theorem dX0_volumeIn_109 : decode cX0_volumeIn 109 = .ok (.lstore 6, 2) := by decide +kernel
theorem dX0_volumeIn_111 : decode cX0_volumeIn 111 = .ok (.iinc 8 1, 3) := by decide +kernel
theorem dX0_volumeIn_114 : decode cX0_volumeIn 114 = .ok (.goto (-76), 3) := by decide +kernel
theorem dX0_volumeIn_117 : decode cX0_volumeIn 117 = .ok (.lload 6, 2) := by decide +kernel
theorem dX0_volumeIn_119 : decode cX0_volumeIn 119 = .ok (.lreturn, 1) := by decide +kernel
theorem dX10_find_0 : decode cX10_find 0 = .ok (.iconst 0, 1) := by decide +kernel
theorem dX10_find_1 : decode cX10_find 1 = .ok (.istore_n 3, 1) := by decide +kernel
theorem dX10_find_2 : decode cX10_find 2 = .ok (.iload_n 3, 1) := by decide +kernel
theorem dX10_find_3 : decode cX10_find 3 = .ok (.aload_n 0, 1) := by decide +kernel
theorem dX10_find_4 : decode cX10_find 4 = .ok (.getfield 25, 3) := by decide +kernel
theorem dX10_find_7 : decode cX10_find 7 = .ok (.if_icmp .ge 31, 3) := by decide +kernel
theorem dX10_find_10 : decode cX10_find 10 = .ok (.aload_n 0, 1) := by decide +kernel
theorem dX10_find_11 : decode cX10_find 11 = .ok (.getfield 9, 3) := by decide +kernel
theorem dX10_find_14 : decode cX10_find 14 = .ok (.iload_n 3, 1) := by decide +kernel
theorem dX10_find_15 : decode cX10_find 15 = .ok (.iaload, 1) := by decide +kernel
theorem dX10_find_16 : decode cX10_find 16 = .ok (.iload_n 1, 1) := by decide +kernel
theorem dX10_find_17 : decode cX10_find 17 = .ok (.if_icmp .ne 15, 3) := by decide +kernel
theorem dX10_find_20 : decode cX10_find 20 = .ok (.aload_n 0, 1) := by decide +kernel
theorem dX10_find_21 : decode cX10_find 21 = .ok (.getfield 15, 3) := by decide +kernel
theorem dX10_find_24 : decode cX10_find 24 = .ok (.iload_n 3, 1) := by decide +kernel
theorem dX10_find_25 : decode cX10_find 25 = .ok (.iaload, 1) := by decide +kernel
theorem dX10_find_26 : decode cX10_find 26 = .ok (.iload_n 2, 1) := by decide +kernel
theorem dX10_find_27 : decode cX10_find 27 = .ok (.if_icmp .ne 5, 3) := by decide +kernel
theorem dX10_find_30 : decode cX10_find 30 = .ok (.iload_n 3, 1) := by decide +kernel
theorem dX10_find_31 : decode cX10_find 31 = .ok (.ireturn, 1) := by decide +kernel
theorem dX10_find_32 : decode cX10_find 32 = .ok (.iinc 3 1, 3) := by decide +kernel
theorem dX10_find_35 : decode cX10_find 35 = .ok (.goto (-33), 3) := by decide +kernel
theorem dX10_find_38 : decode cX10_find 38 = .ok (.iconst (-1), 1) := by decide +kernel
theorem dX10_find_39 : decode cX10_find 39 = .ok (.ireturn, 1) := by decide +kernel
theorem dX10_init_0 : decode cX10_init 0 = .ok (.aload_n 0, 1) := by decide +kernel
theorem dX10_init_1 : decode cX10_init 1 = .ok (.invokespecial 3, 3) := by decide +kernel
theorem dX10_init_4 : decode cX10_init 4 = .ok (.aload_n 0, 1) := by decide +kernel
theorem dX10_init_5 : decode cX10_init 5 = .ok (.bipush 60, 2) := by decide +kernel
theorem dX10_init_7 : decode cX10_init 7 = .ok (.newarray .int, 2) := by decide +kernel
theorem dX10_init_9 : decode cX10_init 9 = .ok (.putfield 9, 3) := by decide +kernel
theorem dX10_init_12 : decode cX10_init 12 = .ok (.aload_n 0, 1) := by decide +kernel
theorem dX10_init_13 : decode cX10_init 13 = .ok (.bipush 60, 2) := by decide +kernel
theorem dX10_init_15 : decode cX10_init 15 = .ok (.newarray .int, 2) := by decide +kernel
theorem dX10_init_17 : decode cX10_init 17 = .ok (.putfield 15, 3) := by decide +kernel
theorem dX10_init_20 : decode cX10_init 20 = .ok (.aload_n 0, 1) := by decide +kernel
theorem dX10_init_21 : decode cX10_init 21 = .ok (.bipush 60, 2) := by decide +kernel
theorem dX10_init_23 : decode cX10_init 23 = .ok (.newarray .int, 2) := by decide +kernel
theorem dX10_init_25 : decode cX10_init 25 = .ok (.putfield 18, 3) := by decide +kernel
theorem dX10_init_28 : decode cX10_init 28 = .ok (.return_, 1) := by decide +kernel
theorem dX10_levelIn_0 : decode cX10_levelIn 0 = .ok (.aload_n 0, 1) := by decide +kernel
theorem dX10_levelIn_1 : decode cX10_levelIn 1 = .ok (.iload_n 2, 1) := by decide +kernel
theorem dX10_levelIn_2 : decode cX10_levelIn 2 = .ok (.iload_n 1, 1) := by decide +kernel
theorem dX10_levelIn_3 : decode cX10_levelIn 3 = .ok (.invokevirtual 21, 3) := by decide +kernel
theorem dX10_levelIn_6 : decode cX10_levelIn 6 = .ok (.istore_n 3, 1) := by decide +kernel
theorem dX10_levelIn_7 : decode cX10_levelIn 7 = .ok (.iload_n 3, 1) := by decide +kernel
theorem dX10_levelIn_8 : decode cX10_levelIn 8 = .ok (.iconst (-1), 1) := by decide +kernel
theorem dX10_levelIn_9 : decode cX10_levelIn 9 = .ok (.if_icmp .ne 8, 3) := by decide +kernel
theorem dX10_levelIn_12 : decode cX10_levelIn 12 = .ok (.ldc 29, 2) := by decide +kernel
theorem dX10_levelIn_14 : decode cX10_levelIn 14 = .ok (.goto 9, 3) := by decide +kernel
theorem dX10_levelIn_17 : decode cX10_levelIn 17 = .ok (.aload_n 0, 1) := by decide +kernel
theorem dX10_levelIn_18 : decode cX10_levelIn 18 = .ok (.getfield 18, 3) := by decide +kernel
theorem dX10_levelIn_21 : decode cX10_levelIn 21 = .ok (.iload_n 3, 1) := by decide +kernel
theorem dX10_levelIn_22 : decode cX10_levelIn 22 = .ok (.iaload, 1) := by decide +kernel
theorem dX10_levelIn_23 : decode cX10_levelIn 23 = .ok (.ireturn, 1) := by decide +kernel
theorem dX10_put_0 : decode cX10_put 0 = .ok (.aload_n 0, 1) := by decide +kernel
theorem dX10_put_1 : decode cX10_put 1 = .ok (.iload_n 1, 1) := by decide +kernel
theorem dX10_put_2 : decode cX10_put 2 = .ok (.iload_n 2, 1) := by decide +kernel
theorem dX10_put_3 : decode cX10_put 3 = .ok (.invokevirtual 21, 3) := by decide +kernel
theorem dX10_put_6 : decode cX10_put 6 = .ok (.istore 4, 2) := by decide +kernel
theorem dX10_put_8 : decode cX10_put 8 = .ok (.iload 4, 2) := by decide +kernel
theorem dX10_put_10 : decode cX10_put 10 = .ok (.iconst (-1), 1) := by decide +kernel
theorem dX10_put_11 : decode cX10_put 11 = .ok (.if_icmp .ne 30, 3) := by decide +kernel
theorem dX10_put_14 : decode cX10_put 14 = .ok (.aload_n 0, 1) := by decide +kernel
theorem dX10_put_15 : decode cX10_put 15 = .ok (.getfield 25, 3) := by decide +kernel
theorem dX10_put_18 : decode cX10_put 18 = .ok (.bipush 60, 2) := by decide +kernel
theorem dX10_put_20 : decode cX10_put 20 = .ok (.if_icmp .lt 5, 3) := by decide +kernel
theorem dX10_put_23 : decode cX10_put 23 = .ok (.iconst 0, 1) := by decide +kernel
theorem dX10_put_24 : decode cX10_put 24 = .ok (.ireturn, 1) := by decide +kernel
theorem dX10_put_25 : decode cX10_put 25 = .ok (.aload_n 0, 1) := by decide +kernel
theorem dX10_put_26 : decode cX10_put 26 = .ok (.getfield 25, 3) := by decide +kernel
theorem dX10_put_29 : decode cX10_put 29 = .ok (.istore 4, 2) := by decide +kernel
theorem dX10_put_31 : decode cX10_put 31 = .ok (.aload_n 0, 1) := by decide +kernel
theorem dX10_put_32 : decode cX10_put 32 = .ok (.dup, 1) := by decide +kernel
theorem dX10_put_33 : decode cX10_put 33 = .ok (.getfield 25, 3) := by decide +kernel
theorem dX10_put_36 : decode cX10_put 36 = .ok (.iconst 1, 1) := by decide +kernel
theorem dX10_put_37 : decode cX10_put 37 = .ok (.iadd, 1) := by decide +kernel
theorem dX10_put_38 : decode cX10_put 38 = .ok (.putfield 25, 3) := by decide +kernel
theorem dX10_put_41 : decode cX10_put 41 = .ok (.aload_n 0, 1) := by decide +kernel
theorem dX10_put_42 : decode cX10_put 42 = .ok (.getfield 9, 3) := by decide +kernel
theorem dX10_put_45 : decode cX10_put 45 = .ok (.iload 4, 2) := by decide +kernel
theorem dX10_put_47 : decode cX10_put 47 = .ok (.iload_n 1, 1) := by decide +kernel
theorem dX10_put_48 : decode cX10_put 48 = .ok (.iastore, 1) := by decide +kernel
theorem dX10_put_49 : decode cX10_put 49 = .ok (.aload_n 0, 1) := by decide +kernel
theorem dX10_put_50 : decode cX10_put 50 = .ok (.getfield 15, 3) := by decide +kernel
theorem dX10_put_53 : decode cX10_put 53 = .ok (.iload 4, 2) := by decide +kernel
theorem dX10_put_55 : decode cX10_put 55 = .ok (.iload_n 2, 1) := by decide +kernel
theorem dX10_put_56 : decode cX10_put 56 = .ok (.iastore, 1) := by decide +kernel
theorem dX10_put_57 : decode cX10_put 57 = .ok (.aload_n 0, 1) := by decide +kernel
theorem dX10_put_58 : decode cX10_put 58 = .ok (.getfield 18, 3) := by decide +kernel
theorem dX10_put_61 : decode cX10_put 61 = .ok (.iload 4, 2) := by decide +kernel
theorem dX10_put_63 : decode cX10_put 63 = .ok (.iload_n 3, 1) := by decide +kernel
theorem dX10_put_64 : decode cX10_put 64 = .ok (.iastore, 1) := by decide +kernel
theorem dX10_put_65 : decode cX10_put 65 = .ok (.iconst 1, 1) := by decide +kernel
theorem dX10_put_66 : decode cX10_put 66 = .ok (.ireturn, 1) := by decide +kernel
theorem dX11_age_0 : decode cX11_age 0 = .ok (.iload_n 1, 1) := by decide +kernel
theorem dX11_age_1 : decode cX11_age 1 = .ok (.invokestatic 123, 3) := by decide +kernel
theorem dX11_age_4 : decode cX11_age 4 = .ok (.ifCond .eq 13, 3) := by decide +kernel
theorem dX11_age_7 : decode cX11_age 7 = .ok (.iconst 0, 1) := by decide +kernel
theorem dX11_age_8 : decode cX11_age 8 = .ok (.bipush 99, 2) := by decide +kernel
theorem dX11_age_10 : decode cX11_age 10 = .ok (.iload_n 2, 1) := by decide +kernel
theorem dX11_age_11 : decode cX11_age 11 = .ok (.invokestatic 142, 3) := by decide +kernel
theorem dX11_age_14 : decode cX11_age 14 = .ok (.ifCond .ne 5, 3) := by decide +kernel
theorem dX11_age_17 : decode cX11_age 17 = .ok (.iconst 0, 1) := by decide +kernel
theorem dX11_age_18 : decode cX11_age 18 = .ok (.ireturn, 1) := by decide +kernel
theorem dX11_age_19 : decode cX11_age 19 = .ok (.aload_n 0, 1) := by decide +kernel
theorem dX11_age_20 : decode cX11_age 20 = .ok (.iconst 0, 1) := by decide +kernel
theorem dX11_age_21 : decode cX11_age 21 = .ok (.putfield 83, 3) := by decide +kernel
theorem dX11_age_24 : decode cX11_age 24 = .ok (.aload_n 0, 1) := by decide +kernel
theorem dX11_age_25 : decode cX11_age 25 = .ok (.getfield 72, 3) := by decide +kernel
theorem dX11_age_28 : decode cX11_age 28 = .ok (.iload_n 1, 1) := by decide +kernel
theorem dX11_age_29 : decode cX11_age 29 = .ok (.iload_n 2, 1) := by decide +kernel
theorem dX11_age_30 : decode cX11_age 30 = .ok (.iastore, 1) := by decide +kernel
theorem dX11_age_31 : decode cX11_age 31 = .ok (.iconst 1, 1) := by decide +kernel
theorem dX11_age_32 : decode cX11_age 32 = .ok (.ireturn, 1) := by decide +kernel
theorem dX11_at_0 : decode cX11_at 0 = .ok (.aload_n 0, 1) := by decide +kernel
theorem dX11_at_1 : decode cX11_at 1 = .ok (.invokevirtual 174, 3) := by decide +kernel
theorem dX11_at_4 : decode cX11_at 4 = .ok (.iload_n 1, 1) := by decide +kernel
theorem dX11_at_5 : decode cX11_at 5 = .ok (.aload_n 0, 1) := by decide +kernel
theorem dX11_at_6 : decode cX11_at 6 = .ok (.getfield 47, 3) := by decide +kernel
theorem dX11_at_9 : decode cX11_at 9 = .ok (.getfield 172, 3) := by decide +kernel
theorem dX11_at_12 : decode cX11_at 12 = .ok (.invokestatic 186, 3) := by decide +kernel
theorem dX11_at_15 : decode cX11_at 15 = .ok (.iload_n 2, 1) := by decide +kernel
theorem dX11_at_16 : decode cX11_at 16 = .ok (.iload_n 3, 1) := by decide +kernel
theorem dX11_at_17 : decode cX11_at 17 = .ok (.invokestatic 255, 3) := by decide +kernel
theorem dX11_at_20 : decode cX11_at 20 = .ok (.iconst 0, 1) := by decide +kernel
theorem dX11_at_21 : decode cX11_at 21 = .ok (.iconst 1, 1) := by decide +kernel
theorem dX11_at_22 : decode cX11_at 22 = .ok (.iload 4, 2) := by decide +kernel
theorem dX11_at_24 : decode cX11_at 24 = .ok (.invokestatic 199, 3) := by decide +kernel
theorem dX11_at_27 : decode cX11_at 27 = .ok (.aload_n 0, 1) := by decide +kernel
theorem dX11_at_28 : decode cX11_at 28 = .ok (.getfield 54, 3) := by decide +kernel
theorem dX11_at_31 : decode cX11_at 31 = .ok (.iload_n 2, 1) := by decide +kernel
theorem dX11_at_32 : decode cX11_at 32 = .ok (.iload_n 3, 1) := by decide +kernel
theorem dX11_at_33 : decode cX11_at 33 = .ok (.aload_n 0, 1) := by decide +kernel
theorem dX11_at_34 : decode cX11_at 34 = .ok (.getfield 12, 3) := by decide +kernel
theorem dX11_at_37 : decode cX11_at 37 = .ok (.aload_n 0, 1) := by decide +kernel
theorem dX11_at_38 : decode cX11_at 38 = .ok (.getfield 33, 3) := by decide +kernel
theorem dX11_at_41 : decode cX11_at 41 = .ok (.invokevirtual 258, 3) := by decide +kernel
theorem dX11_at_44 : decode cX11_at 44 = .ok (.aload_n 0, 1) := by decide +kernel
theorem dX11_at_45 : decode cX11_at 45 = .ok (.getfield 54, 3) := by decide +kernel
theorem dX11_at_48 : decode cX11_at 48 = .ok (.aload_n 0, 1) := by decide +kernel
theorem dX11_at_49 : decode cX11_at 49 = .ok (.getfield 47, 3) := by decide +kernel
theorem dX11_at_52 : decode cX11_at 52 = .ok (.iload_n 1, 1) := by decide +kernel
theorem dX11_at_53 : decode cX11_at 53 = .ok (.aload_n 0, 1) := by decide +kernel
theorem dX11_at_54 : decode cX11_at 54 = .ok (.getfield 33, 3) := by decide +kernel
theorem dX11_at_57 : decode cX11_at 57 = .ok (.invokevirtual 262, 3) := by decide +kernel
theorem dX11_at_60 : decode cX11_at 60 = .ok (.iload 4, 2) := by decide +kernel
theorem dX11_at_62 : decode cX11_at 62 = .ok (.ifCond .ne 13, 3) := by decide +kernel
theorem dX11_at_65 : decode cX11_at 65 = .ok (.aload_n 0, 1) := by decide +kernel
theorem dX11_at_66 : decode cX11_at 66 = .ok (.getfield 54, 3) := by decide +kernel
theorem dX11_at_69 : decode cX11_at 69 = .ok (.getfield 266, 3) := by decide +kernel
theorem dX11_at_72 : decode cX11_at 72 = .ok (.goto 10, 3) := by decide +kernel
theorem dX11_at_75 : decode cX11_at 75 = .ok (.aload_n 0, 1) := by decide +kernel
theorem dX11_at_76 : decode cX11_at 76 = .ok (.getfield 54, 3) := by decide +kernel
theorem dX11_at_79 : decode cX11_at 79 = .ok (.getfield 270, 3) := by decide +kernel
theorem dX11_at_82 : decode cX11_at 82 = .ok (.lreturn, 1) := by decide +kernel
theorem dX11_bed_0 : decode cX11_bed 0 = .ok (.aload_n 0, 1) := by decide +kernel
theorem dX11_bed_1 : decode cX11_bed 1 = .ok (.invokevirtual 174, 3) := by decide +kernel
theorem dX11_bed_4 : decode cX11_bed 4 = .ok (.iload_n 1, 1) := by decide +kernel
theorem dX11_bed_5 : decode cX11_bed 5 = .ok (.aload_n 0, 1) := by decide +kernel
theorem dX11_bed_6 : decode cX11_bed 6 = .ok (.getfield 47, 3) := by decide +kernel
theorem dX11_bed_9 : decode cX11_bed 9 = .ok (.getfield 172, 3) := by decide +kernel
theorem dX11_bed_12 : decode cX11_bed 12 = .ok (.invokestatic 186, 3) := by decide +kernel
theorem dX11_bed_15 : decode cX11_bed 15 = .ok (.iload_n 2, 1) := by decide +kernel
theorem dX11_bed_16 : decode cX11_bed 16 = .ok (.tableswitch 95 0 4 #[36, 46, 59, 69, 82], 36) := by decide +kernel
theorem dX11_bed_52 : decode cX11_bed 52 = .ok (.aload_n 0, 1) := by decide +kernel
theorem dX11_bed_53 : decode cX11_bed 53 = .ok (.getfield 47, 3) := by decide +kernel
theorem dX11_bed_56 : decode cX11_bed 56 = .ok (.getfield 235, 3) := by decide +kernel
theorem dX11_bed_59 : decode cX11_bed 59 = .ok (.iload_n 1, 1) := by decide +kernel
theorem dX11_bed_60 : decode cX11_bed 60 = .ok (.iaload, 1) := by decide +kernel
theorem dX11_bed_61 : decode cX11_bed 61 = .ok (.ireturn, 1) := by decide +kernel
theorem dX11_bed_62 : decode cX11_bed 62 = .ok (.aload_n 0, 1) := by decide +kernel
theorem dX11_bed_63 : decode cX11_bed 63 = .ok (.getfield 47, 3) := by decide +kernel
theorem dX11_bed_66 : decode cX11_bed 66 = .ok (.getfield 238, 3) := by decide +kernel
theorem dX11_bed_69 : decode cX11_bed 69 = .ok (.iload_n 1, 1) := by decide +kernel
theorem dX11_bed_70 : decode cX11_bed 70 = .ok (.iaload, 1) := by decide +kernel
theorem dX11_bed_71 : decode cX11_bed 71 = .ok (.invokestatic 240, 3) := by decide +kernel
theorem dX11_bed_74 : decode cX11_bed 74 = .ok (.ireturn, 1) := by decide +kernel
theorem dX11_bed_75 : decode cX11_bed 75 = .ok (.aload_n 0, 1) := by decide +kernel
theorem dX11_bed_76 : decode cX11_bed 76 = .ok (.getfield 47, 3) := by decide +kernel
theorem dX11_bed_79 : decode cX11_bed 79 = .ok (.getfield 246, 3) := by decide +kernel
theorem dX11_bed_82 : decode cX11_bed 82 = .ok (.iload_n 1, 1) := by decide +kernel
theorem dX11_bed_83 : decode cX11_bed 83 = .ok (.iaload, 1) := by decide +kernel
theorem dX11_bed_84 : decode cX11_bed 84 = .ok (.ireturn, 1) := by decide +kernel
theorem dX11_bed_85 : decode cX11_bed 85 = .ok (.aload_n 0, 1) := by decide +kernel
theorem dX11_bed_86 : decode cX11_bed 86 = .ok (.getfield 47, 3) := by decide +kernel
theorem dX11_bed_89 : decode cX11_bed 89 = .ok (.getfield 248, 3) := by decide +kernel
theorem dX11_bed_92 : decode cX11_bed 92 = .ok (.iload_n 1, 1) := by decide +kernel
theorem dX11_bed_93 : decode cX11_bed 93 = .ok (.iaload, 1) := by decide +kernel
theorem dX11_bed_94 : decode cX11_bed 94 = .ok (.bipush 12, 2) := by decide +kernel
theorem dX11_bed_96 : decode cX11_bed 96 = .ok (.idiv, 1) := by decide +kernel
theorem dX11_bed_97 : decode cX11_bed 97 = .ok (.ireturn, 1) := by decide +kernel
theorem dX11_bed_98 : decode cX11_bed 98 = .ok (.aload_n 0, 1) := by decide +kernel
theorem dX11_bed_99 : decode cX11_bed 99 = .ok (.getfield 47, 3) := by decide +kernel
theorem dX11_bed_102 : decode cX11_bed 102 = .ok (.getfield 248, 3) := by decide +kernel
theorem dX11_bed_105 : decode cX11_bed 105 = .ok (.iload_n 1, 1) := by decide +kernel
theorem dX11_bed_106 : decode cX11_bed 106 = .ok (.iaload, 1) := by decide +kernel
theorem dX11_bed_107 : decode cX11_bed 107 = .ok (.bipush 12, 2) := by decide +kernel
theorem dX11_bed_109 : decode cX11_bed 109 = .ok (.irem, 1) := by decide +kernel
theorem dX11_bed_110 : decode cX11_bed 110 = .ok (.ireturn, 1) := by decide +kernel
theorem dX11_bed_111 : decode cX11_bed 111 = .ok (.new 99, 3) := by decide +kernel
theorem dX11_bed_114 : decode cX11_bed 114 = .ok (.dup, 1) := by decide +kernel
theorem dX11_bed_115 : decode cX11_bed 115 = .ok (.invokespecial 101, 3) := by decide +kernel
theorem dX11_bed_118 : decode cX11_bed 118 = .ok (.athrow, 1) := by decide +kernel
theorem dX11_bedOf_0 : decode cX11_bedOf 0 = .ok (.aload_n 0, 1) := by decide +kernel
theorem dX11_bedOf_1 : decode cX11_bedOf 1 = .ok (.invokevirtual 174, 3) := by decide +kernel
theorem dX11_bedOf_4 : decode cX11_bedOf 4 = .ok (.aload_n 0, 1) := by decide +kernel
theorem dX11_bedOf_5 : decode cX11_bedOf 5 = .ok (.iload_n 1, 1) := by decide +kernel
theorem dX11_bedOf_6 : decode cX11_bedOf 6 = .ok (.invokevirtual 119, 3) := by decide +kernel
theorem dX11_bedOf_9 : decode cX11_bedOf 9 = .ok (.iload_n 2, 1) := by decide +kernel
theorem dX11_bedOf_10 : decode cX11_bedOf 10 = .ok (.aload_n 0, 1) := by decide +kernel
theorem dX11_bedOf_11 : decode cX11_bedOf 11 = .ok (.getfield 12, 3) := by decide +kernel
theorem dX11_bedOf_14 : decode cX11_bedOf 14 = .ok (.getfield 129, 3) := by decide +kernel
theorem dX11_bedOf_17 : decode cX11_bedOf 17 = .ok (.iload_n 1, 1) := by decide +kernel
theorem dX11_bedOf_18 : decode cX11_bedOf 18 = .ok (.aaload, 1) := by decide +kernel
theorem dX11_bedOf_19 : decode cX11_bedOf 19 = .ok (.getfield 133, 3) := by decide +kernel
theorem dX11_bedOf_22 : decode cX11_bedOf 22 = .ok (.invokestatic 186, 3) := by decide +kernel
theorem dX11_bedOf_25 : decode cX11_bedOf 25 = .ok (.aload_n 0, 1) := by decide +kernel
theorem dX11_bedOf_26 : decode cX11_bedOf 26 = .ok (.getfield 47, 3) := by decide +kernel
theorem dX11_bedOf_29 : decode cX11_bedOf 29 = .ok (.getfield 249, 3) := by decide +kernel
theorem dX11_bedOf_32 : decode cX11_bedOf 32 = .ok (.iload_n 1, 1) := by decide +kernel
theorem dX11_bedOf_33 : decode cX11_bedOf 33 = .ok (.iload_n 2, 1) := by decide +kernel
theorem dX11_bedOf_34 : decode cX11_bedOf 34 = .ok (.invokestatic 252, 3) := by decide +kernel
theorem dX11_bedOf_37 : decode cX11_bedOf 37 = .ok (.iaload, 1) := by decide +kernel
theorem dX11_bedOf_38 : decode cX11_bedOf 38 = .ok (.ireturn, 1) := by decide +kernel
theorem dX11_boring_0 : decode cX11_boring 0 = .ok (.iload_n 1, 1) := by decide +kernel
theorem dX11_boring_1 : decode cX11_boring 1 = .ok (.iload_n 2, 1) := by decide +kernel
theorem dX11_boring_2 : decode cX11_boring 2 = .ok (.invokestatic 87, 3) := by decide +kernel
theorem dX11_boring_5 : decode cX11_boring 5 = .ok (.ifCond .eq 23, 3) := by decide +kernel
theorem dX11_boring_8 : decode cX11_boring 8 = .ok (.iload_n 3, 1) := by decide +kernel
theorem dX11_boring_9 : decode cX11_boring 9 = .ok (.invokestatic 91, 3) := by decide +kernel
theorem dX11_boring_12 : decode cX11_boring 12 = .ok (.ifCond .eq 16, 3) := by decide +kernel
theorem dX11_boring_15 : decode cX11_boring 15 = .ok (.aload_n 0, 1) := by decide +kernel
theorem dX11_boring_16 : decode cX11_boring 16 = .ok (.getfield 12, 3) := by decide +kernel
theorem dX11_boring_19 : decode cX11_boring 19 = .ok (.iload_n 1, 1) := by decide +kernel
theorem dX11_boring_20 : decode cX11_boring 20 = .ok (.iload_n 2, 1) := by decide +kernel
theorem dX11_boring_21 : decode cX11_boring 21 = .ok (.invokevirtual 95, 3) := by decide +kernel
theorem dX11_boring_24 : decode cX11_boring 24 = .ok (.iconst (-1), 1) := by decide +kernel
theorem dX11_boring_25 : decode cX11_boring 25 = .ok (.if_icmp .eq 11, 3) := by decide +kernel
theorem dX11_boring_28 : decode cX11_boring 28 = .ok (.new 99, 3) := by decide +kernel
theorem dX11_boring_31 : decode cX11_boring 31 = .ok (.dup, 1) := by decide +kernel
theorem dX11_boring_32 : decode cX11_boring 32 = .ok (.invokespecial 101, 3) := by decide +kernel
theorem dX11_boring_35 : decode cX11_boring 35 = .ok (.athrow, 1) := by decide +kernel
theorem dX11_boring_36 : decode cX11_boring 36 = .ok (.aload_n 0, 1) := by decide +kernel
theorem dX11_boring_37 : decode cX11_boring 37 = .ok (.getfield 12, 3) := by decide +kernel
theorem dX11_boring_40 : decode cX11_boring 40 = .ok (.invokevirtual 102, 3) := by decide +kernel
theorem dX11_boring_43 : decode cX11_boring 43 = .ok (.ifCond .eq 11, 3) := by decide +kernel
theorem dX11_boring_46 : decode cX11_boring 46 = .ok (.new 106, 3) := by decide +kernel
theorem dX11_boring_49 : decode cX11_boring 49 = .ok (.dup, 1) := by decide +kernel
theorem dX11_boring_50 : decode cX11_boring 50 = .ok (.invokespecial 108, 3) := by decide +kernel
theorem dX11_boring_53 : decode cX11_boring 53 = .ok (.athrow, 1) := by decide +kernel
theorem dX11_boring_54 : decode cX11_boring 54 = .ok (.aload_n 0, 1) := by decide +kernel
theorem dX11_boring_55 : decode cX11_boring 55 = .ok (.iconst 0, 1) := by decide +kernel
theorem dX11_boring_56 : decode cX11_boring 56 = .ok (.putfield 83, 3) := by decide +kernel
theorem dX11_boring_59 : decode cX11_boring 59 = .ok (.aload_n 0, 1) := by decide +kernel
theorem dX11_boring_60 : decode cX11_boring 60 = .ok (.getfield 12, 3) := by decide +kernel
theorem dX11_boring_63 : decode cX11_boring 63 = .ok (.iload_n 1, 1) := by decide +kernel
theorem dX11_boring_64 : decode cX11_boring 64 = .ok (.iload_n 2, 1) := by decide +kernel
theorem dX11_boring_65 : decode cX11_boring 65 = .ok (.iload_n 3, 1) := by decide +kernel
theorem dX11_boring_66 : decode cX11_boring 66 = .ok (.invokevirtual 109, 3) := by decide +kernel
theorem dX11_boring_69 : decode cX11_boring 69 = .ok (.aload_n 0, 1) := by decide +kernel
theorem dX11_boring_70 : decode cX11_boring 70 = .ok (.getfield 12, 3) := by decide +kernel
theorem dX11_boring_73 : decode cX11_boring 73 = .ok (.invokevirtual 113, 3) := by decide +kernel
theorem dX11_boring_76 : decode cX11_boring 76 = .ok (.aload_n 0, 1) := by decide +kernel
theorem dX11_boring_77 : decode cX11_boring 77 = .ok (.getfield 12, 3) := by decide +kernel
theorem dX11_boring_80 : decode cX11_boring 80 = .ok (.getfield 116, 3) := by decide +kernel
theorem dX11_boring_83 : decode cX11_boring 83 = .ok (.iconst 1, 1) := by decide +kernel
theorem dX11_boring_84 : decode cX11_boring 84 = .ok (.isub, 1) := by decide +kernel
theorem dX11_boring_85 : decode cX11_boring 85 = .ok (.ireturn, 1) := by decide +kernel
theorem dX11_count_0 : decode cX11_count 0 = .ok (.iload_n 1, 1) := by decide +kernel
theorem dX11_count_1 : decode cX11_count 1 = .ok (.tableswitch 115 0 6 #[43, 51, 59, 67, 79, 91, 103], 43) := by decide +kernel
theorem dX11_count_44 : decode cX11_count 44 = .ok (.aload_n 0, 1) := by decide +kernel
theorem dX11_count_45 : decode cX11_count 45 = .ok (.getfield 12, 3) := by decide +kernel
theorem dX11_count_48 : decode cX11_count 48 = .ok (.getfield 116, 3) := by decide +kernel
theorem dX11_count_51 : decode cX11_count 51 = .ok (.ireturn, 1) := by decide +kernel
theorem dX11_count_52 : decode cX11_count 52 = .ok (.aload_n 0, 1) := by decide +kernel
theorem dX11_count_53 : decode cX11_count 53 = .ok (.getfield 19, 3) := by decide +kernel
theorem dX11_count_56 : decode cX11_count 56 = .ok (.getfield 146, 3) := by decide +kernel
theorem dX11_count_59 : decode cX11_count 59 = .ok (.ireturn, 1) := by decide +kernel
theorem dX11_count_60 : decode cX11_count 60 = .ok (.aload_n 0, 1) := by decide +kernel
theorem dX11_count_61 : decode cX11_count 61 = .ok (.getfield 26, 3) := by decide +kernel
theorem dX11_count_64 : decode cX11_count 64 = .ok (.getfield 173, 3) := by decide +kernel
theorem dX11_count_67 : decode cX11_count 67 = .ok (.ireturn, 1) := by decide +kernel
theorem dX11_count_68 : decode cX11_count 68 = .ok (.aload_n 0, 1) := by decide +kernel
theorem dX11_count_69 : decode cX11_count 69 = .ok (.invokevirtual 174, 3) := by decide +kernel
theorem dX11_count_72 : decode cX11_count 72 = .ok (.aload_n 0, 1) := by decide +kernel
theorem dX11_count_73 : decode cX11_count 73 = .ok (.getfield 33, 3) := by decide +kernel
theorem dX11_count_76 : decode cX11_count 76 = .ok (.getfield 177, 3) := by decide +kernel
theorem dX11_count_79 : decode cX11_count 79 = .ok (.ireturn, 1) := by decide +kernel
theorem dX11_count_80 : decode cX11_count 80 = .ok (.aload_n 0, 1) := by decide +kernel
theorem dX11_count_81 : decode cX11_count 81 = .ok (.invokevirtual 174, 3) := by decide +kernel
theorem dX11_count_84 : decode cX11_count 84 = .ok (.aload_n 0, 1) := by decide +kernel
theorem dX11_count_85 : decode cX11_count 85 = .ok (.getfield 33, 3) := by decide +kernel
theorem dX11_count_88 : decode cX11_count 88 = .ok (.getfield 180, 3) := by decide +kernel
theorem dX11_count_91 : decode cX11_count 91 = .ok (.ireturn, 1) := by decide +kernel
theorem dX11_count_92 : decode cX11_count 92 = .ok (.aload_n 0, 1) := by decide +kernel
theorem dX11_count_93 : decode cX11_count 93 = .ok (.invokevirtual 174, 3) := by decide +kernel
theorem dX11_count_96 : decode cX11_count 96 = .ok (.aload_n 0, 1) := by decide +kernel
theorem dX11_count_97 : decode cX11_count 97 = .ok (.getfield 33, 3) := by decide +kernel
theorem dX11_count_100 : decode cX11_count 100 = .ok (.getfield 183, 3) := by decide +kernel
theorem dX11_count_103 : decode cX11_count 103 = .ok (.ireturn, 1) := by decide +kernel
theorem dX11_count_104 : decode cX11_count 104 = .ok (.aload_n 0, 1) := by decide +kernel
theorem dX11_count_105 : decode cX11_count 105 = .ok (.invokevirtual 174, 3) := by decide +kernel
theorem dX11_count_108 : decode cX11_count 108 = .ok (.aload_n 0, 1) := by decide +kernel
theorem dX11_count_109 : decode cX11_count 109 = .ok (.getfield 47, 3) := by decide +kernel
theorem dX11_count_112 : decode cX11_count 112 = .ok (.getfield 172, 3) := by decide +kernel
theorem dX11_count_115 : decode cX11_count 115 = .ok (.ireturn, 1) := by decide +kernel
theorem dX11_count_116 : decode cX11_count 116 = .ok (.iconst (-1), 1) := by decide +kernel
theorem dX11_count_117 : decode cX11_count 117 = .ok (.ireturn, 1) := by decide +kernel
theorem dX11_crosses_0 : decode cX11_crosses 0 = .ok (.aload_n 0, 1) := by decide +kernel
theorem dX11_crosses_1 : decode cX11_crosses 1 = .ok (.invokevirtual 174, 3) := by decide +kernel
theorem dX11_crosses_4 : decode cX11_crosses 4 = .ok (.aload_n 0, 1) := by decide +kernel
theorem dX11_crosses_5 : decode cX11_crosses 5 = .ok (.getfield 40, 3) := by decide +kernel
theorem dX11_crosses_8 : decode cX11_crosses 8 = .ok (.aload_n 0, 1) := by decide +kernel
theorem dX11_crosses_9 : decode cX11_crosses 9 = .ok (.getfield 12, 3) := by decide +kernel
theorem dX11_crosses_12 : decode cX11_crosses 12 = .ok (.aload_n 0, 1) := by decide +kernel
theorem dX11_crosses_13 : decode cX11_crosses 13 = .ok (.getfield 33, 3) := by decide +kernel
theorem dX11_crosses_16 : decode cX11_crosses 16 = .ok (.invokevirtual 231, 3) := by decide +kernel
theorem dX11_crosses_19 : decode cX11_crosses 19 = .ok (.ireturn, 1) := by decide +kernel
theorem dX11_doubt_0 : decode cX11_doubt 0 = .ok (.iload_n 1, 1) := by decide +kernel
theorem dX11_doubt_1 : decode cX11_doubt 1 = .ok (.iload_n 2, 1) := by decide +kernel
theorem dX11_doubt_2 : decode cX11_doubt 2 = .ok (.invokestatic 87, 3) := by decide +kernel
theorem dX11_doubt_5 : decode cX11_doubt 5 = .ok (.ifCond .eq 15, 3) := by decide +kernel
theorem dX11_doubt_8 : decode cX11_doubt 8 = .ok (.aload_n 0, 1) := by decide +kernel
theorem dX11_doubt_9 : decode cX11_doubt 9 = .ok (.getfield 12, 3) := by decide +kernel
theorem dX11_doubt_12 : decode cX11_doubt 12 = .ok (.iload_n 1, 1) := by decide +kernel
theorem dX11_doubt_13 : decode cX11_doubt 13 = .ok (.iload_n 2, 1) := by decide +kernel
theorem dX11_doubt_14 : decode cX11_doubt 14 = .ok (.invokevirtual 289, 3) := by decide +kernel
theorem dX11_doubt_17 : decode cX11_doubt 17 = .ok (.goto 4, 3) := by decide +kernel
theorem dX11_doubt_20 : decode cX11_doubt 20 = .ok (.iconst (-1), 1) := by decide +kernel
theorem dX11_doubt_21 : decode cX11_doubt 21 = .ok (.ireturn, 1) := by decide +kernel
theorem dX11_edge_0 : decode cX11_edge 0 = .ok (.aload_n 0, 1) := by decide +kernel
theorem dX11_edge_1 : decode cX11_edge 1 = .ok (.invokevirtual 174, 3) := by decide +kernel
theorem dX11_edge_4 : decode cX11_edge 4 = .ok (.iload_n 1, 1) := by decide +kernel
theorem dX11_edge_5 : decode cX11_edge 5 = .ok (.aload_n 0, 1) := by decide +kernel
theorem dX11_edge_6 : decode cX11_edge 6 = .ok (.getfield 33, 3) := by decide +kernel
theorem dX11_edge_9 : decode cX11_edge 9 = .ok (.getfield 177, 3) := by decide +kernel
theorem dX11_edge_12 : decode cX11_edge 12 = .ok (.invokestatic 186, 3) := by decide +kernel
theorem dX11_edge_15 : decode cX11_edge 15 = .ok (.iload_n 2, 1) := by decide +kernel
theorem dX11_edge_16 : decode cX11_edge 16 = .ok (.tableswitch 66 0 2 #[28, 38, 48], 28) := by decide +kernel
theorem dX11_edge_44 : decode cX11_edge 44 = .ok (.aload_n 0, 1) := by decide +kernel
theorem dX11_edge_45 : decode cX11_edge 45 = .ok (.getfield 33, 3) := by decide +kernel
theorem dX11_edge_48 : decode cX11_edge 48 = .ok (.getfield 189, 3) := by decide +kernel
theorem dX11_edge_51 : decode cX11_edge 51 = .ok (.iload_n 1, 1) := by decide +kernel
theorem dX11_edge_52 : decode cX11_edge 52 = .ok (.iaload, 1) := by decide +kernel
theorem dX11_edge_53 : decode cX11_edge 53 = .ok (.ireturn, 1) := by decide +kernel
theorem dX11_edge_54 : decode cX11_edge 54 = .ok (.aload_n 0, 1) := by decide +kernel
theorem dX11_edge_55 : decode cX11_edge 55 = .ok (.getfield 33, 3) := by decide +kernel
theorem dX11_edge_58 : decode cX11_edge 58 = .ok (.getfield 192, 3) := by decide +kernel
theorem dX11_edge_61 : decode cX11_edge 61 = .ok (.iload_n 1, 1) := by decide +kernel
theorem dX11_edge_62 : decode cX11_edge 62 = .ok (.iaload, 1) := by decide +kernel
theorem dX11_edge_63 : decode cX11_edge 63 = .ok (.ireturn, 1) := by decide +kernel
theorem dX11_edge_64 : decode cX11_edge 64 = .ok (.aload_n 0, 1) := by decide +kernel
theorem dX11_edge_65 : decode cX11_edge 65 = .ok (.getfield 33, 3) := by decide +kernel
theorem dX11_edge_68 : decode cX11_edge 68 = .ok (.getfield 195, 3) := by decide +kernel
theorem dX11_edge_71 : decode cX11_edge 71 = .ok (.iload_n 1, 1) := by decide +kernel
theorem dX11_edge_72 : decode cX11_edge 72 = .ok (.baload, 1) := by decide +kernel
theorem dX11_edge_73 : decode cX11_edge 73 = .ok (.ifCond .eq 7, 3) := by decide +kernel
theorem dX11_edge_76 : decode cX11_edge 76 = .ok (.iconst 1, 1) := by decide +kernel
theorem dX11_edge_77 : decode cX11_edge 77 = .ok (.goto 4, 3) := by decide +kernel
theorem dX11_edge_80 : decode cX11_edge 80 = .ok (.iconst 0, 1) := by decide +kernel
theorem dX11_edge_81 : decode cX11_edge 81 = .ok (.ireturn, 1) := by decide +kernel
theorem dX11_edge_82 : decode cX11_edge 82 = .ok (.new 99, 3) := by decide +kernel
theorem dX11_edge_85 : decode cX11_edge 85 = .ok (.dup, 1) := by decide +kernel
theorem dX11_edge_86 : decode cX11_edge 86 = .ok (.invokespecial 101, 3) := by decide +kernel
theorem dX11_edge_89 : decode cX11_edge 89 = .ok (.athrow, 1) := by decide +kernel
theorem dX11_fault_0 : decode cX11_fault 0 = .ok (.iload_n 1, 1) := by decide +kernel
theorem dX11_fault_1 : decode cX11_fault 1 = .ok (.iload_n 2, 1) := by decide +kernel
theorem dX11_fault_2 : decode cX11_fault 2 = .ok (.invokestatic 87, 3) := by decide +kernel
theorem dX11_fault_5 : decode cX11_fault 5 = .ok (.ifCond .eq 27, 3) := by decide +kernel
theorem dX11_fault_8 : decode cX11_fault 8 = .ok (.iload_n 3, 1) := by decide +kernel
theorem dX11_fault_9 : decode cX11_fault 9 = .ok (.iload 4, 2) := by decide +kernel
theorem dX11_fault_11 : decode cX11_fault 11 = .ok (.invokestatic 87, 3) := by decide +kernel
theorem dX11_fault_14 : decode cX11_fault 14 = .ok (.ifCond .eq 18, 3) := by decide +kernel
theorem dX11_fault_17 : decode cX11_fault 17 = .ok (.iload_n 1, 1) := by decide +kernel
theorem dX11_fault_18 : decode cX11_fault 18 = .ok (.iload_n 3, 1) := by decide +kernel
theorem dX11_fault_19 : decode cX11_fault 19 = .ok (.if_icmp .ne 9, 3) := by decide +kernel
theorem dX11_fault_22 : decode cX11_fault 22 = .ok (.iload_n 2, 1) := by decide +kernel
theorem dX11_fault_23 : decode cX11_fault 23 = .ok (.iload 4, 2) := by decide +kernel
theorem dX11_fault_25 : decode cX11_fault 25 = .ok (.if_icmp .eq 7, 3) := by decide +kernel
theorem dX11_fault_28 : decode cX11_fault 28 = .ok (.iconst 1, 1) := by decide +kernel
theorem dX11_fault_29 : decode cX11_fault 29 = .ok (.goto 4, 3) := by decide +kernel
theorem dX11_fault_32 : decode cX11_fault 32 = .ok (.iconst 0, 1) := by decide +kernel
theorem dX11_fault_33 : decode cX11_fault 33 = .ok (.istore 5, 2) := by decide +kernel
theorem dX11_fault_35 : decode cX11_fault 35 = .ok (.iload 5, 2) := by decide +kernel
theorem dX11_fault_37 : decode cX11_fault 37 = .ok (.ifCond .eq 15, 3) := by decide +kernel
theorem dX11_fault_40 : decode cX11_fault 40 = .ok (.aload_n 0, 1) := by decide +kernel
theorem dX11_fault_41 : decode cX11_fault 41 = .ok (.getfield 19, 3) := by decide +kernel
theorem dX11_fault_44 : decode cX11_fault 44 = .ok (.getfield 146, 3) := by decide +kernel
theorem dX11_fault_47 : decode cX11_fault 47 = .ok (.bipush 8, 2) := by decide +kernel
theorem dX11_fault_49 : decode cX11_fault 49 = .ok (.if_icmp .lt 5, 3) := by decide +kernel
theorem dX11_fault_52 : decode cX11_fault 52 = .ok (.iconst 0, 1) := by decide +kernel
theorem dX11_fault_53 : decode cX11_fault 53 = .ok (.ireturn, 1) := by decide +kernel
theorem dX11_fault_54 : decode cX11_fault 54 = .ok (.aload_n 0, 1) := by decide +kernel
theorem dX11_fault_55 : decode cX11_fault 55 = .ok (.iconst 0, 1) := by decide +kernel
theorem dX11_fault_56 : decode cX11_fault 56 = .ok (.putfield 83, 3) := by decide +kernel
theorem dX11_fault_59 : decode cX11_fault 59 = .ok (.aload_n 0, 1) := by decide +kernel
theorem dX11_fault_60 : decode cX11_fault 60 = .ok (.getfield 19, 3) := by decide +kernel
theorem dX11_fault_63 : decode cX11_fault 63 = .ok (.iload_n 1, 1) := by decide +kernel
theorem dX11_fault_64 : decode cX11_fault 64 = .ok (.iload_n 2, 1) := by decide +kernel
theorem dX11_fault_65 : decode cX11_fault 65 = .ok (.iload_n 3, 1) := by decide +kernel
theorem dX11_fault_66 : decode cX11_fault 66 = .ok (.iload 4, 2) := by decide +kernel
theorem dX11_fault_68 : decode cX11_fault 68 = .ok (.invokevirtual 147, 3) := by decide +kernel
theorem dX11_fault_71 : decode cX11_fault 71 = .ok (.iconst 1, 1) := by decide +kernel
theorem dX11_fault_72 : decode cX11_fault 72 = .ok (.ireturn, 1) := by decide +kernel
theorem dX11_init_0 : decode cX11_init 0 = .ok (.aload_n 0, 1) := by decide +kernel
theorem dX11_init_1 : decode cX11_init 1 = .ok (.invokespecial 3, 3) := by decide +kernel
theorem dX11_init_4 : decode cX11_init 4 = .ok (.aload_n 0, 1) := by decide +kernel
theorem dX11_init_5 : decode cX11_init 5 = .ok (.new 9, 3) := by decide +kernel
theorem dX11_init_8 : decode cX11_init 8 = .ok (.dup, 1) := by decide +kernel
theorem dX11_init_9 : decode cX11_init 9 = .ok (.invokespecial 11, 3) := by decide +kernel
theorem dX11_init_12 : decode cX11_init 12 = .ok (.putfield 12, 3) := by decide +kernel
theorem dX11_init_15 : decode cX11_init 15 = .ok (.aload_n 0, 1) := by decide +kernel
theorem dX11_init_16 : decode cX11_init 16 = .ok (.new 16, 3) := by decide +kernel
theorem dX11_init_19 : decode cX11_init 19 = .ok (.dup, 1) := by decide +kernel
theorem dX11_init_20 : decode cX11_init 20 = .ok (.invokespecial 18, 3) := by decide +kernel
theorem dX11_init_23 : decode cX11_init 23 = .ok (.putfield 19, 3) := by decide +kernel
theorem dX11_init_26 : decode cX11_init 26 = .ok (.aload_n 0, 1) := by decide +kernel
theorem dX11_init_27 : decode cX11_init 27 = .ok (.new 23, 3) := by decide +kernel
theorem dX11_init_30 : decode cX11_init 30 = .ok (.dup, 1) := by decide +kernel
theorem dX11_init_31 : decode cX11_init 31 = .ok (.invokespecial 25, 3) := by decide +kernel
theorem dX11_init_34 : decode cX11_init 34 = .ok (.putfield 26, 3) := by decide +kernel
theorem dX11_init_37 : decode cX11_init 37 = .ok (.aload_n 0, 1) := by decide +kernel
theorem dX11_init_38 : decode cX11_init 38 = .ok (.new 30, 3) := by decide +kernel
theorem dX11_init_41 : decode cX11_init 41 = .ok (.dup, 1) := by decide +kernel
theorem dX11_init_42 : decode cX11_init 42 = .ok (.invokespecial 32, 3) := by decide +kernel
theorem dX11_init_45 : decode cX11_init 45 = .ok (.putfield 33, 3) := by decide +kernel
theorem dX11_init_48 : decode cX11_init 48 = .ok (.aload_n 0, 1) := by decide +kernel
theorem dX11_init_49 : decode cX11_init 49 = .ok (.new 37, 3) := by decide +kernel
theorem dX11_init_52 : decode cX11_init 52 = .ok (.dup, 1) := by decide +kernel
theorem dX11_init_53 : decode cX11_init 53 = .ok (.invokespecial 39, 3) := by decide +kernel
theorem dX11_init_56 : decode cX11_init 56 = .ok (.putfield 40, 3) := by decide +kernel
theorem dX11_init_59 : decode cX11_init 59 = .ok (.aload_n 0, 1) := by decide +kernel
theorem dX11_init_60 : decode cX11_init 60 = .ok (.new 44, 3) := by decide +kernel
theorem dX11_init_63 : decode cX11_init 63 = .ok (.dup, 1) := by decide +kernel
theorem dX11_init_64 : decode cX11_init 64 = .ok (.invokespecial 46, 3) := by decide +kernel
theorem dX11_init_67 : decode cX11_init 67 = .ok (.putfield 47, 3) := by decide +kernel
theorem dX11_init_70 : decode cX11_init 70 = .ok (.aload_n 0, 1) := by decide +kernel
theorem dX11_init_71 : decode cX11_init 71 = .ok (.new 51, 3) := by decide +kernel
theorem dX11_init_74 : decode cX11_init 74 = .ok (.dup, 1) := by decide +kernel
theorem dX11_init_75 : decode cX11_init 75 = .ok (.invokespecial 53, 3) := by decide +kernel
theorem dX11_init_78 : decode cX11_init 78 = .ok (.putfield 54, 3) := by decide +kernel
theorem dX11_init_81 : decode cX11_init 81 = .ok (.aload_n 0, 1) := by decide +kernel
theorem dX11_init_82 : decode cX11_init 82 = .ok (.new 58, 3) := by decide +kernel
theorem dX11_init_85 : decode cX11_init 85 = .ok (.dup, 1) := by decide +kernel
theorem dX11_init_86 : decode cX11_init 86 = .ok (.invokespecial 60, 3) := by decide +kernel
theorem dX11_init_89 : decode cX11_init 89 = .ok (.putfield 61, 3) := by decide +kernel
theorem dX11_init_92 : decode cX11_init 92 = .ok (.aload_n 0, 1) := by decide +kernel
theorem dX11_init_93 : decode cX11_init 93 = .ok (.new 65, 3) := by decide +kernel
theorem dX11_init_96 : decode cX11_init 96 = .ok (.dup, 1) := by decide +kernel
theorem dX11_init_97 : decode cX11_init 97 = .ok (.invokespecial 67, 3) := by decide +kernel
theorem dX11_init_100 : decode cX11_init 100 = .ok (.putfield 68, 3) := by decide +kernel
theorem dX11_init_103 : decode cX11_init 103 = .ok (.aload_n 0, 1) := by decide +kernel
theorem dX11_init_104 : decode cX11_init 104 = .ok (.bipush 8, 2) := by decide +kernel
theorem dX11_init_106 : decode cX11_init 106 = .ok (.newarray .int, 2) := by decide +kernel
theorem dX11_init_108 : decode cX11_init 108 = .ok (.putfield 72, 3) := by decide +kernel
theorem dX11_init_111 : decode cX11_init 111 = .ok (.aload_n 0, 1) := by decide +kernel
theorem dX11_init_112 : decode cX11_init 112 = .ok (.bipush 50, 2) := by decide +kernel
theorem dX11_init_114 : decode cX11_init 114 = .ok (.putfield 76, 3) := by decide +kernel
theorem dX11_init_117 : decode cX11_init 117 = .ok (.aload_n 0, 1) := by decide +kernel
theorem dX11_init_118 : decode cX11_init 118 = .ok (.iconst 0, 1) := by decide +kernel
theorem dX11_init_119 : decode cX11_init 119 = .ok (.putfield 80, 3) := by decide +kernel
theorem dX11_init_122 : decode cX11_init 122 = .ok (.aload_n 0, 1) := by decide +kernel
theorem dX11_init_123 : decode cX11_init 123 = .ok (.iconst 0, 1) := by decide +kernel
theorem dX11_init_124 : decode cX11_init 124 = .ok (.putfield 83, 3) := by decide +kernel
theorem dX11_init_127 : decode cX11_init 127 = .ok (.return_, 1) := by decide +kernel
theorem dX11_isFrom_0 : decode cX11_isFrom 0 = .ok (.iload_n 0, 1) := by decide +kernel
theorem dX11_isFrom_1 : decode cX11_isFrom 1 = .ok (.iload_n 2, 1) := by decide +kernel
theorem dX11_isFrom_2 : decode cX11_isFrom 2 = .ok (.if_icmp .gt 12, 3) := by decide +kernel
theorem dX11_isFrom_5 : decode cX11_isFrom 5 = .ok (.iload_n 2, 1) := by decide +kernel
theorem dX11_isFrom_6 : decode cX11_isFrom 6 = .ok (.iload_n 1, 1) := by decide +kernel
theorem dX11_isFrom_7 : decode cX11_isFrom 7 = .ok (.if_icmp .gt 7, 3) := by decide +kernel
theorem dX11_isFrom_10 : decode cX11_isFrom 10 = .ok (.iconst 1, 1) := by decide +kernel
theorem dX11_isFrom_11 : decode cX11_isFrom 11 = .ok (.goto 4, 3) := by decide +kernel
theorem dX11_isFrom_14 : decode cX11_isFrom 14 = .ok (.iconst 0, 1) := by decide +kernel
theorem dX11_isFrom_15 : decode cX11_isFrom 15 = .ok (.ireturn, 1) := by decide +kernel
theorem dX11_isInBox_0 : decode cX11_isInBox 0 = .ok (.iconst 0, 1) := by decide +kernel
theorem dX11_isInBox_1 : decode cX11_isInBox 1 = .ok (.istore 6, 2) := by decide +kernel
theorem dX11_isInBox_3 : decode cX11_isInBox 3 = .ok (.iload 6, 2) := by decide +kernel
theorem dX11_isInBox_5 : decode cX11_isInBox 5 = .ok (.iconst 3, 1) := by decide +kernel
theorem dX11_isInBox_6 : decode cX11_isInBox 6 = .ok (.if_icmp .ge 62, 3) := by decide +kernel
theorem dX11_isInBox_9 : decode cX11_isInBox 9 = .ok (.aload_n 0, 1) := by decide +kernel
theorem dX11_isInBox_10 : decode cX11_isInBox 10 = .ok (.getfield 12, 3) := by decide +kernel
theorem dX11_isInBox_13 : decode cX11_isInBox 13 = .ok (.getfield 129, 3) := by decide +kernel
theorem dX11_isInBox_16 : decode cX11_isInBox 16 = .ok (.aload_n 0, 1) := by decide +kernel
theorem dX11_isInBox_17 : decode cX11_isInBox 17 = .ok (.getfield 33, 3) := by decide +kernel
theorem dX11_isInBox_20 : decode cX11_isInBox 20 = .ok (.iload_n 1, 1) := by decide +kernel
theorem dX11_isInBox_21 : decode cX11_isInBox 21 = .ok (.iload 6, 2) := by decide +kernel
theorem dX11_isInBox_23 : decode cX11_isInBox 23 = .ok (.invokevirtual 202, 3) := by decide +kernel
theorem dX11_isInBox_26 : decode cX11_isInBox 26 = .ok (.aaload, 1) := by decide +kernel
theorem dX11_isInBox_27 : decode cX11_isInBox 27 = .ok (.getfield 322, 3) := by decide +kernel
theorem dX11_isInBox_30 : decode cX11_isInBox 30 = .ok (.astore 7, 2) := by decide +kernel
theorem dX11_isInBox_32 : decode cX11_isInBox 32 = .ok (.iload_n 2, 1) := by decide +kernel
theorem dX11_isInBox_33 : decode cX11_isInBox 33 = .ok (.iload 4, 2) := by decide +kernel
theorem dX11_isInBox_35 : decode cX11_isInBox 35 = .ok (.aload 7, 2) := by decide +kernel
theorem dX11_isInBox_37 : decode cX11_isInBox 37 = .ok (.getfield 326, 3) := by decide +kernel
theorem dX11_isInBox_40 : decode cX11_isInBox 40 = .ok (.invokestatic 142, 3) := by decide +kernel
theorem dX11_isInBox_43 : decode cX11_isInBox 43 = .ok (.ifCond .eq 17, 3) := by decide +kernel
theorem dX11_isInBox_46 : decode cX11_isInBox 46 = .ok (.iload_n 3, 1) := by decide +kernel
theorem dX11_isInBox_47 : decode cX11_isInBox 47 = .ok (.iload 5, 2) := by decide +kernel
theorem dX11_isInBox_49 : decode cX11_isInBox 49 = .ok (.aload 7, 2) := by decide +kernel
theorem dX11_isInBox_51 : decode cX11_isInBox 51 = .ok (.getfield 331, 3) := by decide +kernel
theorem dX11_isInBox_54 : decode cX11_isInBox 54 = .ok (.invokestatic 142, 3) := by decide +kernel
theorem dX11_isInBox_57 : decode cX11_isInBox 57 = .ok (.ifCond .ne 5, 3) := by decide +kernel
theorem dX11_isInBox_60 : decode cX11_isInBox 60 = .ok (.iconst 0, 1) := by decide +kernel
theorem dX11_isInBox_61 : decode cX11_isInBox 61 = .ok (.ireturn, 1) := by decide +kernel
theorem dX11_isInBox_62 : decode cX11_isInBox 62 = .ok (.iinc 6 1, 3) := by decide +kernel
theorem dX11_isInBox_65 : decode cX11_isInBox 65 = .ok (.goto (-62), 3) := by decide +kernel
theorem dX11_isInBox_68 : decode cX11_isInBox 68 = .ok (.iconst 1, 1) := by decide +kernel
theorem dX11_isInBox_69 : decode cX11_isInBox 69 = .ok (.ireturn, 1) := by decide +kernel
theorem dX11_isKind_0 : decode cX11_isKind 0 = .ok (.iconst 0, 1) := by decide +kernel
theorem dX11_isKind_1 : decode cX11_isKind 1 = .ok (.bipush 7, 2) := by decide +kernel
theorem dX11_isKind_3 : decode cX11_isKind 3 = .ok (.iload_n 0, 1) := by decide +kernel
theorem dX11_isKind_4 : decode cX11_isKind 4 = .ok (.invokestatic 142, 3) := by decide +kernel
theorem dX11_isKind_7 : decode cX11_isKind 7 = .ok (.ireturn, 1) := by decide +kernel
theorem dX11_isLevel_0 : decode cX11_isLevel 0 = .ok (.ldc_w 281, 3) := by decide +kernel
theorem dX11_isLevel_3 : decode cX11_isLevel 3 = .ok (.ldc_w 282, 3) := by decide +kernel
theorem dX11_isLevel_6 : decode cX11_isLevel 6 = .ok (.iload_n 0, 1) := by decide +kernel
theorem dX11_isLevel_7 : decode cX11_isLevel 7 = .ok (.invokestatic 142, 3) := by decide +kernel
theorem dX11_isLevel_10 : decode cX11_isLevel 10 = .ok (.ireturn, 1) := by decide +kernel
theorem dX11_isPlace_0 : decode cX11_isPlace 0 = .ok (.sipush (-1000), 3) := by decide +kernel
theorem dX11_isPlace_3 : decode cX11_isPlace 3 = .ok (.sipush 1000, 3) := by decide +kernel
theorem dX11_isPlace_6 : decode cX11_isPlace 6 = .ok (.iload_n 0, 1) := by decide +kernel
theorem dX11_isPlace_7 : decode cX11_isPlace 7 = .ok (.invokestatic 142, 3) := by decide +kernel
theorem dX11_isPlace_10 : decode cX11_isPlace 10 = .ok (.ifCond .eq 20, 3) := by decide +kernel
theorem dX11_isPlace_13 : decode cX11_isPlace 13 = .ok (.sipush (-1000), 3) := by decide +kernel
theorem dX11_isPlace_16 : decode cX11_isPlace 16 = .ok (.sipush 1000, 3) := by decide +kernel
theorem dX11_isPlace_19 : decode cX11_isPlace 19 = .ok (.iload_n 1, 1) := by decide +kernel
theorem dX11_isPlace_20 : decode cX11_isPlace 20 = .ok (.invokestatic 142, 3) := by decide +kernel
theorem dX11_isPlace_23 : decode cX11_isPlace 23 = .ok (.ifCond .eq 7, 3) := by decide +kernel
theorem dX11_isPlace_26 : decode cX11_isPlace 26 = .ok (.iconst 1, 1) := by decide +kernel
theorem dX11_isPlace_27 : decode cX11_isPlace 27 = .ok (.goto 4, 3) := by decide +kernel
theorem dX11_isPlace_30 : decode cX11_isPlace 30 = .ok (.iconst 0, 1) := by decide +kernel
theorem dX11_isPlace_31 : decode cX11_isPlace 31 = .ok (.ireturn, 1) := by decide +kernel
theorem dX11_isThickness_0 : decode cX11_isThickness 0 = .ok (.iconst 1, 1) := by decide +kernel
theorem dX11_isThickness_1 : decode cX11_isThickness 1 = .ok (.sipush 10000, 3) := by decide +kernel
theorem dX11_isThickness_4 : decode cX11_isThickness 4 = .ok (.iload_n 0, 1) := by decide +kernel
theorem dX11_isThickness_5 : decode cX11_isThickness 5 = .ok (.invokestatic 142, 3) := by decide +kernel
theorem dX11_isThickness_8 : decode cX11_isThickness 8 = .ok (.ireturn, 1) := by decide +kernel
theorem dX11_isWeek_0 : decode cX11_isWeek 0 = .ok (.iconst 0, 1) := by decide +kernel
theorem dX11_isWeek_1 : decode cX11_isWeek 1 = .ok (.bipush 99, 2) := by decide +kernel
theorem dX11_isWeek_3 : decode cX11_isWeek 3 = .ok (.iload_n 0, 1) := by decide +kernel
theorem dX11_isWeek_4 : decode cX11_isWeek 4 = .ok (.invokestatic 142, 3) := by decide +kernel
theorem dX11_isWeek_7 : decode cX11_isWeek 7 = .ok (.ireturn, 1) := by decide +kernel
theorem dX11_later_0 : decode cX11_later 0 = .ok (.aload_n 0, 1) := by decide +kernel
theorem dX11_later_1 : decode cX11_later 1 = .ok (.invokevirtual 174, 3) := by decide +kernel
theorem dX11_later_4 : decode cX11_later 4 = .ok (.iload_n 1, 1) := by decide +kernel
theorem dX11_later_5 : decode cX11_later 5 = .ok (.iload_n 2, 1) := by decide +kernel
theorem dX11_later_6 : decode cX11_later 6 = .ok (.invokestatic 255, 3) := by decide +kernel
theorem dX11_later_9 : decode cX11_later 9 = .ok (.iconst 0, 1) := by decide +kernel
theorem dX11_later_10 : decode cX11_later 10 = .ok (.bipush 7, 2) := by decide +kernel
theorem dX11_later_12 : decode cX11_later 12 = .ok (.iload_n 3, 1) := by decide +kernel
theorem dX11_later_13 : decode cX11_later 13 = .ok (.invokestatic 199, 3) := by decide +kernel
theorem dX11_later_16 : decode cX11_later 16 = .ok (.ldc_w 281, 3) := by decide +kernel
theorem dX11_later_19 : decode cX11_later 19 = .ok (.ldc_w 282, 3) := by decide +kernel
theorem dX11_later_22 : decode cX11_later 22 = .ok (.iload 4, 2) := by decide +kernel
theorem dX11_later_24 : decode cX11_later 24 = .ok (.invokestatic 199, 3) := by decide +kernel
theorem dX11_later_27 : decode cX11_later 27 = .ok (.aload_n 0, 1) := by decide +kernel
theorem dX11_later_28 : decode cX11_later 28 = .ok (.getfield 54, 3) := by decide +kernel
theorem dX11_later_31 : decode cX11_later 31 = .ok (.iload_n 1, 1) := by decide +kernel
theorem dX11_later_32 : decode cX11_later 32 = .ok (.iload_n 2, 1) := by decide +kernel
theorem dX11_later_33 : decode cX11_later 33 = .ok (.aload_n 0, 1) := by decide +kernel
theorem dX11_later_34 : decode cX11_later 34 = .ok (.getfield 12, 3) := by decide +kernel
theorem dX11_later_37 : decode cX11_later 37 = .ok (.aload_n 0, 1) := by decide +kernel
theorem dX11_later_38 : decode cX11_later 38 = .ok (.getfield 33, 3) := by decide +kernel
theorem dX11_later_41 : decode cX11_later 41 = .ok (.invokevirtual 258, 3) := by decide +kernel
theorem dX11_later_44 : decode cX11_later 44 = .ok (.iconst 2, 1) := by decide +kernel
theorem dX11_later_45 : decode cX11_later 45 = .ok (.istore 5, 2) := by decide +kernel
theorem dX11_later_47 : decode cX11_later 47 = .ok (.iconst 0, 1) := by decide +kernel
theorem dX11_later_48 : decode cX11_later 48 = .ok (.istore 6, 2) := by decide +kernel
theorem dX11_later_50 : decode cX11_later 50 = .ok (.iload 6, 2) := by decide +kernel
theorem dX11_later_52 : decode cX11_later 52 = .ok (.aload_n 0, 1) := by decide +kernel
theorem dX11_later_53 : decode cX11_later 53 = .ok (.getfield 47, 3) := by decide +kernel
theorem dX11_later_56 : decode cX11_later 56 = .ok (.getfield 172, 3) := by decide +kernel
theorem dX11_later_59 : decode cX11_later 59 = .ok (.if_icmp .ge 74, 3) := by decide +kernel
theorem dX11_later_62 : decode cX11_later 62 = .ok (.aload_n 0, 1) := by decide +kernel
theorem dX11_later_63 : decode cX11_later 63 = .ok (.getfield 47, 3) := by decide +kernel
theorem dX11_later_66 : decode cX11_later 66 = .ok (.getfield 235, 3) := by decide +kernel
theorem dX11_later_69 : decode cX11_later 69 = .ok (.iload 6, 2) := by decide +kernel
theorem dX11_later_71 : decode cX11_later 71 = .ok (.iaload, 1) := by decide +kernel
theorem dX11_later_72 : decode cX11_later 72 = .ok (.iload_n 3, 1) := by decide +kernel
theorem dX11_later_73 : decode cX11_later 73 = .ok (.if_icmp .eq 6, 3) := by decide +kernel
theorem dX11_later_76 : decode cX11_later 76 = .ok (.goto 51, 3) := by decide +kernel
theorem dX11_later_79 : decode cX11_later 79 = .ok (.aload_n 0, 1) := by decide +kernel
theorem dX11_later_80 : decode cX11_later 80 = .ok (.getfield 54, 3) := by decide +kernel
theorem dX11_later_83 : decode cX11_later 83 = .ok (.aload_n 0, 1) := by decide +kernel
theorem dX11_later_84 : decode cX11_later 84 = .ok (.getfield 47, 3) := by decide +kernel
theorem dX11_later_87 : decode cX11_later 87 = .ok (.iload 6, 2) := by decide +kernel
theorem dX11_later_89 : decode cX11_later 89 = .ok (.aload_n 0, 1) := by decide +kernel
theorem dX11_later_90 : decode cX11_later 90 = .ok (.getfield 33, 3) := by decide +kernel
theorem dX11_later_93 : decode cX11_later 93 = .ok (.invokevirtual 262, 3) := by decide +kernel
theorem dX11_later_96 : decode cX11_later 96 = .ok (.aload_n 0, 1) := by decide +kernel
theorem dX11_later_97 : decode cX11_later 97 = .ok (.getfield 54, 3) := by decide +kernel
theorem dX11_later_100 : decode cX11_later 100 = .ok (.iload 4, 2) := by decide +kernel
theorem dX11_later_102 : decode cX11_later 102 = .ok (.aload_n 0, 1) := by decide +kernel
theorem dX11_later_103 : decode cX11_later 103 = .ok (.getfield 80, 3) := by decide +kernel
theorem dX11_later_106 : decode cX11_later 106 = .ok (.invokevirtual 283, 3) := by decide +kernel
theorem dX11_later_109 : decode cX11_later 109 = .ok (.ifCond .eq 5, 3) := by decide +kernel
theorem dX11_later_112 : decode cX11_later 112 = .ok (.iconst 0, 1) := by decide +kernel
theorem dX11_later_113 : decode cX11_later 113 = .ok (.ireturn, 1) := by decide +kernel
theorem dX11_later_114 : decode cX11_later 114 = .ok (.aload_n 0, 1) := by decide +kernel
theorem dX11_later_115 : decode cX11_later 115 = .ok (.getfield 54, 3) := by decide +kernel
theorem dX11_later_118 : decode cX11_later 118 = .ok (.invokevirtual 286, 3) := by decide +kernel
theorem dX11_later_121 : decode cX11_later 121 = .ok (.ifCond .eq 6, 3) := by decide +kernel
theorem dX11_later_124 : decode cX11_later 124 = .ok (.iconst 1, 1) := by decide +kernel
theorem dX11_later_125 : decode cX11_later 125 = .ok (.istore 5, 2) := by decide +kernel
theorem dX11_later_127 : decode cX11_later 127 = .ok (.iinc 6 1, 3) := by decide +kernel
theorem dX11_later_130 : decode cX11_later 130 = .ok (.goto (-80), 3) := by decide +kernel
theorem dX11_later_133 : decode cX11_later 133 = .ok (.iload 5, 2) := by decide +kernel
theorem dX11_later_135 : decode cX11_later 135 = .ok (.ireturn, 1) := by decide +kernel
theorem dX11_layer_0 : decode cX11_layer 0 = .ok (.aload_n 0, 1) := by decide +kernel
theorem dX11_layer_1 : decode cX11_layer 1 = .ok (.iload_n 1, 1) := by decide +kernel
theorem dX11_layer_2 : decode cX11_layer 2 = .ok (.invokevirtual 119, 3) := by decide +kernel
theorem dX11_layer_5 : decode cX11_layer 5 = .ok (.iload_n 2, 1) := by decide +kernel
theorem dX11_layer_6 : decode cX11_layer 6 = .ok (.invokestatic 123, 3) := by decide +kernel
theorem dX11_layer_9 : decode cX11_layer 9 = .ok (.ifCond .eq 10, 3) := by decide +kernel
theorem dX11_layer_12 : decode cX11_layer 12 = .ok (.iload_n 3, 1) := by decide +kernel
theorem dX11_layer_13 : decode cX11_layer 13 = .ok (.invokestatic 126, 3) := by decide +kernel
theorem dX11_layer_16 : decode cX11_layer 16 = .ok (.ifCond .ne 11, 3) := by decide +kernel
theorem dX11_layer_19 : decode cX11_layer 19 = .ok (.new 99, 3) := by decide +kernel
theorem dX11_layer_22 : decode cX11_layer 22 = .ok (.dup, 1) := by decide +kernel
theorem dX11_layer_23 : decode cX11_layer 23 = .ok (.invokespecial 101, 3) := by decide +kernel
theorem dX11_layer_26 : decode cX11_layer 26 = .ok (.athrow, 1) := by decide +kernel
theorem dX11_layer_27 : decode cX11_layer 27 = .ok (.aload_n 0, 1) := by decide +kernel
theorem dX11_layer_28 : decode cX11_layer 28 = .ok (.getfield 12, 3) := by decide +kernel
theorem dX11_layer_31 : decode cX11_layer 31 = .ok (.getfield 129, 3) := by decide +kernel
theorem dX11_layer_34 : decode cX11_layer 34 = .ok (.iload_n 1, 1) := by decide +kernel
theorem dX11_layer_35 : decode cX11_layer 35 = .ok (.aaload, 1) := by decide +kernel
theorem dX11_layer_36 : decode cX11_layer 36 = .ok (.astore 4, 2) := by decide +kernel
theorem dX11_layer_38 : decode cX11_layer 38 = .ok (.aload 4, 2) := by decide +kernel
theorem dX11_layer_40 : decode cX11_layer 40 = .ok (.getfield 133, 3) := by decide +kernel
theorem dX11_layer_43 : decode cX11_layer 43 = .ok (.bipush 12, 2) := by decide +kernel
theorem dX11_layer_45 : decode cX11_layer 45 = .ok (.if_icmp .lt 11, 3) := by decide +kernel
theorem dX11_layer_48 : decode cX11_layer 48 = .ok (.new 106, 3) := by decide +kernel
theorem dX11_layer_51 : decode cX11_layer 51 = .ok (.dup, 1) := by decide +kernel
theorem dX11_layer_52 : decode cX11_layer 52 = .ok (.invokespecial 108, 3) := by decide +kernel
theorem dX11_layer_55 : decode cX11_layer 55 = .ok (.athrow, 1) := by decide +kernel
theorem dX11_layer_56 : decode cX11_layer 56 = .ok (.aload_n 0, 1) := by decide +kernel
theorem dX11_layer_57 : decode cX11_layer 57 = .ok (.iconst 0, 1) := by decide +kernel
theorem dX11_layer_58 : decode cX11_layer 58 = .ok (.putfield 83, 3) := by decide +kernel
theorem dX11_layer_61 : decode cX11_layer 61 = .ok (.aload 4, 2) := by decide +kernel
theorem dX11_layer_63 : decode cX11_layer 63 = .ok (.iload_n 2, 1) := by decide +kernel
theorem dX11_layer_64 : decode cX11_layer 64 = .ok (.iload_n 3, 1) := by decide +kernel
theorem dX11_layer_65 : decode cX11_layer 65 = .ok (.invokevirtual 138, 3) := by decide +kernel
theorem dX11_layer_68 : decode cX11_layer 68 = .ok (.aload 4, 2) := by decide +kernel
theorem dX11_layer_70 : decode cX11_layer 70 = .ok (.getfield 133, 3) := by decide +kernel
theorem dX11_layer_73 : decode cX11_layer 73 = .ok (.iconst 1, 1) := by decide +kernel
theorem dX11_layer_74 : decode cX11_layer 74 = .ok (.isub, 1) := by decide +kernel
theorem dX11_layer_75 : decode cX11_layer 75 = .ok (.ireturn, 1) := by decide +kernel
theorem dX11_lens_0 : decode cX11_lens 0 = .ok (.iconst 1, 1) := by decide +kernel
theorem dX11_lens_1 : decode cX11_lens 1 = .ok (.bipush 100, 2) := by decide +kernel
theorem dX11_lens_3 : decode cX11_lens 3 = .ok (.iload_n 1, 1) := by decide +kernel
theorem dX11_lens_4 : decode cX11_lens 4 = .ok (.invokestatic 142, 3) := by decide +kernel
theorem dX11_lens_7 : decode cX11_lens 7 = .ok (.ifCond .ne 5, 3) := by decide +kernel
theorem dX11_lens_10 : decode cX11_lens 10 = .ok (.iconst 0, 1) := by decide +kernel
theorem dX11_lens_11 : decode cX11_lens 11 = .ok (.ireturn, 1) := by decide +kernel
theorem dX11_lens_12 : decode cX11_lens 12 = .ok (.aload_n 0, 1) := by decide +kernel
theorem dX11_lens_13 : decode cX11_lens 13 = .ok (.iload_n 1, 1) := by decide +kernel
theorem dX11_lens_14 : decode cX11_lens 14 = .ok (.putfield 76, 3) := by decide +kernel
theorem dX11_lens_17 : decode cX11_lens 17 = .ok (.iconst 1, 1) := by decide +kernel
theorem dX11_lens_18 : decode cX11_lens 18 = .ok (.ireturn, 1) := by decide +kernel
theorem dX11_letter_0 : decode cX11_letter 0 = .ok (.iload_n 1, 1) := by decide +kernel
theorem dX11_letter_1 : decode cX11_letter 1 = .ok (.ifCond .lt 25, 3) := by decide +kernel
theorem dX11_letter_4 : decode cX11_letter 4 = .ok (.iload_n 1, 1) := by decide +kernel
theorem dX11_letter_5 : decode cX11_letter 5 = .ok (.aload_n 0, 1) := by decide +kernel
theorem dX11_letter_6 : decode cX11_letter 6 = .ok (.getfield 68, 3) := by decide +kernel
theorem dX11_letter_9 : decode cX11_letter 9 = .ok (.invokevirtual 311, 3) := by decide +kernel
theorem dX11_letter_12 : decode cX11_letter 12 = .ok (.if_icmp .ge 14, 3) := by decide +kernel
theorem dX11_letter_15 : decode cX11_letter 15 = .ok (.aload_n 0, 1) := by decide +kernel
theorem dX11_letter_16 : decode cX11_letter 16 = .ok (.getfield 68, 3) := by decide +kernel
theorem dX11_letter_19 : decode cX11_letter 19 = .ok (.iload_n 1, 1) := by decide +kernel
theorem dX11_letter_20 : decode cX11_letter 20 = .ok (.invokevirtual 315, 3) := by decide +kernel
theorem dX11_letter_23 : decode cX11_letter 23 = .ok (.goto 4, 3) := by decide +kernel
theorem dX11_letter_26 : decode cX11_letter 26 = .ok (.iconst 0, 1) := by decide +kernel
theorem dX11_letter_27 : decode cX11_letter 27 = .ok (.ireturn, 1) := by decide +kernel
theorem dX11_match_0 : decode cX11_match 0 = .ok (.aload_n 0, 1) := by decide +kernel
theorem dX11_match_1 : decode cX11_match 1 = .ok (.invokevirtual 174, 3) := by decide +kernel
theorem dX11_match_4 : decode cX11_match 4 = .ok (.aload_n 0, 1) := by decide +kernel
theorem dX11_match_5 : decode cX11_match 5 = .ok (.iload_n 1, 1) := by decide +kernel
theorem dX11_match_6 : decode cX11_match 6 = .ok (.invokevirtual 119, 3) := by decide +kernel
theorem dX11_match_9 : decode cX11_match 9 = .ok (.aload_n 0, 1) := by decide +kernel
theorem dX11_match_10 : decode cX11_match 10 = .ok (.iload_n 2, 1) := by decide +kernel
theorem dX11_match_11 : decode cX11_match 11 = .ok (.invokevirtual 119, 3) := by decide +kernel
theorem dX11_match_14 : decode cX11_match 14 = .ok (.iload_n 3, 1) := by decide +kernel
theorem dX11_match_15 : decode cX11_match 15 = .ok (.aload_n 0, 1) := by decide +kernel
theorem dX11_match_16 : decode cX11_match 16 = .ok (.getfield 12, 3) := by decide +kernel
theorem dX11_match_19 : decode cX11_match 19 = .ok (.getfield 129, 3) := by decide +kernel
theorem dX11_match_22 : decode cX11_match 22 = .ok (.iload_n 1, 1) := by decide +kernel
theorem dX11_match_23 : decode cX11_match 23 = .ok (.aaload, 1) := by decide +kernel
theorem dX11_match_24 : decode cX11_match 24 = .ok (.getfield 133, 3) := by decide +kernel
theorem dX11_match_27 : decode cX11_match 27 = .ok (.invokestatic 186, 3) := by decide +kernel
theorem dX11_match_30 : decode cX11_match 30 = .ok (.aload_n 0, 1) := by decide +kernel
theorem dX11_match_31 : decode cX11_match 31 = .ok (.iload_n 1, 1) := by decide +kernel
theorem dX11_match_32 : decode cX11_match 32 = .ok (.iload_n 2, 1) := by decide +kernel
theorem dX11_match_33 : decode cX11_match 33 = .ok (.invokevirtual 205, 3) := by decide +kernel
theorem dX11_match_36 : decode cX11_match 36 = .ok (.aload_n 0, 1) := by decide +kernel
theorem dX11_match_37 : decode cX11_match 37 = .ok (.getfield 40, 3) := by decide +kernel
theorem dX11_match_40 : decode cX11_match 40 = .ok (.aload_n 0, 1) := by decide +kernel
theorem dX11_match_41 : decode cX11_match 41 = .ok (.getfield 33, 3) := by decide +kernel
theorem dX11_match_44 : decode cX11_match 44 = .ok (.iload_n 1, 1) := by decide +kernel
theorem dX11_match_45 : decode cX11_match 45 = .ok (.iload_n 2, 1) := by decide +kernel
theorem dX11_match_46 : decode cX11_match 46 = .ok (.iload_n 3, 1) := by decide +kernel
theorem dX11_match_47 : decode cX11_match 47 = .ok (.invokevirtual 208, 3) := by decide +kernel
theorem dX11_match_50 : decode cX11_match 50 = .ok (.ireturn, 1) := by decide +kernel
theorem dX11_read_0 : decode cX11_read 0 = .ok (.aload_n 0, 1) := by decide +kernel
theorem dX11_read_1 : decode cX11_read 1 = .ok (.getfield 61, 3) := by decide +kernel
theorem dX11_read_4 : decode cX11_read 4 = .ok (.aload_n 0, 1) := by decide +kernel
theorem dX11_read_5 : decode cX11_read 5 = .ok (.getfield 12, 3) := by decide +kernel
theorem dX11_read_8 : decode cX11_read 8 = .ok (.invokevirtual 294, 3) := by decide +kernel
theorem dX11_read_11 : decode cX11_read 11 = .ok (.istore_n 1, 1) := by decide +kernel
theorem dX11_read_12 : decode cX11_read 12 = .ok (.iload_n 1, 1) := by decide +kernel
theorem dX11_read_13 : decode cX11_read 13 = .ok (.ifCond .le 18, 3) := by decide +kernel
theorem dX11_read_16 : decode cX11_read 16 = .ok (.aload_n 0, 1) := by decide +kernel
theorem dX11_read_17 : decode cX11_read 17 = .ok (.iconst 0, 1) := by decide +kernel
theorem dX11_read_18 : decode cX11_read 18 = .ok (.putfield 83, 3) := by decide +kernel
theorem dX11_read_21 : decode cX11_read 21 = .ok (.aload_n 0, 1) := by decide +kernel
theorem dX11_read_22 : decode cX11_read 22 = .ok (.getfield 12, 3) := by decide +kernel
theorem dX11_read_25 : decode cX11_read 25 = .ok (.invokevirtual 113, 3) := by decide +kernel
theorem dX11_read_28 : decode cX11_read 28 = .ok (.goto 10, 3) := by decide +kernel
theorem dX11_read_31 : decode cX11_read 31 = .ok (.aload_n 0, 1) := by decide +kernel
theorem dX11_read_32 : decode cX11_read 32 = .ok (.getfield 12, 3) := by decide +kernel
theorem dX11_read_35 : decode cX11_read 35 = .ok (.invokevirtual 298, 3) := by decide +kernel
theorem dX11_read_38 : decode cX11_read 38 = .ok (.aload_n 0, 1) := by decide +kernel
theorem dX11_read_39 : decode cX11_read 39 = .ok (.getfield 61, 3) := by decide +kernel
theorem dX11_read_42 : decode cX11_read 42 = .ok (.invokevirtual 301, 3) := by decide +kernel
theorem dX11_read_45 : decode cX11_read 45 = .ok (.iload_n 1, 1) := by decide +kernel
theorem dX11_read_46 : decode cX11_read 46 = .ok (.ireturn, 1) := by decide +kernel
theorem dX11_requireBoring_0 : decode cX11_requireBoring 0 = .ok (.iload_n 1, 1) := by decide +kernel
theorem dX11_requireBoring_1 : decode cX11_requireBoring 1 = .ok (.aload_n 0, 1) := by decide +kernel
theorem dX11_requireBoring_2 : decode cX11_requireBoring 2 = .ok (.getfield 12, 3) := by decide +kernel
theorem dX11_requireBoring_5 : decode cX11_requireBoring 5 = .ok (.getfield 116, 3) := by decide +kernel
theorem dX11_requireBoring_8 : decode cX11_requireBoring 8 = .ok (.invokestatic 186, 3) := by decide +kernel
theorem dX11_requireBoring_11 : decode cX11_requireBoring 11 = .ok (.return_, 1) := by decide +kernel
theorem dX11_requireFrom_0 : decode cX11_requireFrom 0 = .ok (.iload_n 0, 1) := by decide +kernel
theorem dX11_requireFrom_1 : decode cX11_requireFrom 1 = .ok (.iload_n 1, 1) := by decide +kernel
theorem dX11_requireFrom_2 : decode cX11_requireFrom 2 = .ok (.iload_n 2, 1) := by decide +kernel
theorem dX11_requireFrom_3 : decode cX11_requireFrom 3 = .ok (.invokestatic 142, 3) := by decide +kernel
theorem dX11_requireFrom_6 : decode cX11_requireFrom 6 = .ok (.ifCond .ne 11, 3) := by decide +kernel
theorem dX11_requireFrom_9 : decode cX11_requireFrom 9 = .ok (.new 99, 3) := by decide +kernel
theorem dX11_requireFrom_12 : decode cX11_requireFrom 12 = .ok (.dup, 1) := by decide +kernel
theorem dX11_requireFrom_13 : decode cX11_requireFrom 13 = .ok (.invokespecial 101, 3) := by decide +kernel
theorem dX11_requireFrom_16 : decode cX11_requireFrom 16 = .ok (.athrow, 1) := by decide +kernel
theorem dX11_requireFrom_17 : decode cX11_requireFrom 17 = .ok (.return_, 1) := by decide +kernel
theorem dX11_requireIndex_0 : decode cX11_requireIndex 0 = .ok (.iload_n 0, 1) := by decide +kernel
theorem dX11_requireIndex_1 : decode cX11_requireIndex 1 = .ok (.ifCond .lt 8, 3) := by decide +kernel
theorem dX11_requireIndex_4 : decode cX11_requireIndex 4 = .ok (.iload_n 0, 1) := by decide +kernel
theorem dX11_requireIndex_5 : decode cX11_requireIndex 5 = .ok (.iload_n 1, 1) := by decide +kernel
theorem dX11_requireIndex_6 : decode cX11_requireIndex 6 = .ok (.if_icmp .lt 11, 3) := by decide +kernel
theorem dX11_requireIndex_9 : decode cX11_requireIndex 9 = .ok (.new 334, 3) := by decide +kernel
theorem dX11_requireIndex_12 : decode cX11_requireIndex 12 = .ok (.dup, 1) := by decide +kernel
theorem dX11_requireIndex_13 : decode cX11_requireIndex 13 = .ok (.invokespecial 336, 3) := by decide +kernel
theorem dX11_requireIndex_16 : decode cX11_requireIndex 16 = .ok (.athrow, 1) := by decide +kernel
theorem dX11_requireIndex_17 : decode cX11_requireIndex 17 = .ok (.return_, 1) := by decide +kernel
theorem dX11_requireNeighbours_0 : decode cX11_requireNeighbours 0 = .ok (.aload_n 0, 1) := by decide +kernel
theorem dX11_requireNeighbours_1 : decode cX11_requireNeighbours 1 = .ok (.getfield 33, 3) := by decide +kernel
theorem dX11_requireNeighbours_4 : decode cX11_requireNeighbours 4 = .ok (.iload_n 1, 1) := by decide +kernel
theorem dX11_requireNeighbours_5 : decode cX11_requireNeighbours 5 = .ok (.iload_n 2, 1) := by decide +kernel
theorem dX11_requireNeighbours_6 : decode cX11_requireNeighbours 6 = .ok (.invokevirtual 215, 3) := by decide +kernel
theorem dX11_requireNeighbours_9 : decode cX11_requireNeighbours 9 = .ok (.iconst (-1), 1) := by decide +kernel
theorem dX11_requireNeighbours_10 : decode cX11_requireNeighbours 10 = .ok (.if_icmp .ne 11, 3) := by decide +kernel
theorem dX11_requireNeighbours_13 : decode cX11_requireNeighbours 13 = .ok (.new 99, 3) := by decide +kernel
theorem dX11_requireNeighbours_16 : decode cX11_requireNeighbours 16 = .ok (.dup, 1) := by decide +kernel
theorem dX11_requireNeighbours_17 : decode cX11_requireNeighbours 17 = .ok (.invokespecial 101, 3) := by decide +kernel
theorem dX11_requireNeighbours_20 : decode cX11_requireNeighbours 20 = .ok (.athrow, 1) := by decide +kernel
theorem dX11_requireNeighbours_21 : decode cX11_requireNeighbours 21 = .ok (.return_, 1) := by decide +kernel
theorem dX11_requirePlace_0 : decode cX11_requirePlace 0 = .ok (.iload_n 0, 1) := by decide +kernel
theorem dX11_requirePlace_1 : decode cX11_requirePlace 1 = .ok (.iload_n 1, 1) := by decide +kernel
theorem dX11_requirePlace_2 : decode cX11_requirePlace 2 = .ok (.invokestatic 87, 3) := by decide +kernel
theorem dX11_requirePlace_5 : decode cX11_requirePlace 5 = .ok (.ifCond .ne 11, 3) := by decide +kernel
theorem dX11_requirePlace_8 : decode cX11_requirePlace 8 = .ok (.new 99, 3) := by decide +kernel
theorem dX11_requirePlace_11 : decode cX11_requirePlace 11 = .ok (.dup, 1) := by decide +kernel
theorem dX11_requirePlace_12 : decode cX11_requirePlace 12 = .ok (.invokespecial 101, 3) := by decide +kernel
theorem dX11_requirePlace_15 : decode cX11_requirePlace 15 = .ok (.athrow, 1) := by decide +kernel
theorem dX11_requirePlace_16 : decode cX11_requirePlace 16 = .ok (.return_, 1) := by decide +kernel
theorem dX11_requireRun_0 : decode cX11_requireRun 0 = .ok (.aload_n 0, 1) := by decide +kernel
theorem dX11_requireRun_1 : decode cX11_requireRun 1 = .ok (.getfield 83, 3) := by decide +kernel
theorem dX11_requireRun_4 : decode cX11_requireRun 4 = .ok (.ifCond .ne 11, 3) := by decide +kernel
theorem dX11_requireRun_7 : decode cX11_requireRun 7 = .ok (.new 319, 3) := by decide +kernel
theorem dX11_requireRun_10 : decode cX11_requireRun 10 = .ok (.dup, 1) := by decide +kernel
theorem dX11_requireRun_11 : decode cX11_requireRun 11 = .ok (.invokespecial 321, 3) := by decide +kernel
theorem dX11_requireRun_14 : decode cX11_requireRun 14 = .ok (.athrow, 1) := by decide +kernel
theorem dX11_requireRun_15 : decode cX11_requireRun 15 = .ok (.return_, 1) := by decide +kernel
theorem dX11_run_0 : decode cX11_run 0 = .ok (.aload_n 0, 1) := by decide +kernel
theorem dX11_run_1 : decode cX11_run 1 = .ok (.getfield 33, 3) := by decide +kernel
theorem dX11_run_4 : decode cX11_run 4 = .ok (.aload_n 0, 1) := by decide +kernel
theorem dX11_run_5 : decode cX11_run 5 = .ok (.getfield 12, 3) := by decide +kernel
theorem dX11_run_8 : decode cX11_run 8 = .ok (.aload_n 0, 1) := by decide +kernel
theorem dX11_run_9 : decode cX11_run 9 = .ok (.getfield 19, 3) := by decide +kernel
theorem dX11_run_12 : decode cX11_run 12 = .ok (.invokevirtual 160, 3) := by decide +kernel
theorem dX11_run_15 : decode cX11_run 15 = .ok (.aload_n 0, 1) := by decide +kernel
theorem dX11_run_16 : decode cX11_run 16 = .ok (.getfield 40, 3) := by decide +kernel
theorem dX11_run_19 : decode cX11_run 19 = .ok (.aload_n 0, 1) := by decide +kernel
theorem dX11_run_20 : decode cX11_run 20 = .ok (.getfield 12, 3) := by decide +kernel
theorem dX11_run_23 : decode cX11_run 23 = .ok (.aload_n 0, 1) := by decide +kernel
theorem dX11_run_24 : decode cX11_run 24 = .ok (.getfield 33, 3) := by decide +kernel
theorem dX11_run_27 : decode cX11_run 27 = .ok (.aload_n 0, 1) := by decide +kernel
theorem dX11_run_28 : decode cX11_run 28 = .ok (.getfield 72, 3) := by decide +kernel
theorem dX11_run_31 : decode cX11_run 31 = .ok (.invokevirtual 164, 3) := by decide +kernel
theorem dX11_run_34 : decode cX11_run 34 = .ok (.aload_n 0, 1) := by decide +kernel
theorem dX11_run_35 : decode cX11_run 35 = .ok (.getfield 47, 3) := by decide +kernel
theorem dX11_run_38 : decode cX11_run 38 = .ok (.aload_n 0, 1) := by decide +kernel
theorem dX11_run_39 : decode cX11_run 39 = .ok (.getfield 12, 3) := by decide +kernel
theorem dX11_run_42 : decode cX11_run 42 = .ok (.aload_n 0, 1) := by decide +kernel
theorem dX11_run_43 : decode cX11_run 43 = .ok (.getfield 33, 3) := by decide +kernel
theorem dX11_run_46 : decode cX11_run 46 = .ok (.aload_n 0, 1) := by decide +kernel
theorem dX11_run_47 : decode cX11_run 47 = .ok (.getfield 40, 3) := by decide +kernel
theorem dX11_run_50 : decode cX11_run 50 = .ok (.invokevirtual 168, 3) := by decide +kernel
theorem dX11_run_53 : decode cX11_run 53 = .ok (.aload_n 0, 1) := by decide +kernel
theorem dX11_run_54 : decode cX11_run 54 = .ok (.iconst 1, 1) := by decide +kernel
theorem dX11_run_55 : decode cX11_run 55 = .ok (.putfield 83, 3) := by decide +kernel
theorem dX11_run_58 : decode cX11_run 58 = .ok (.aload_n 0, 1) := by decide +kernel
theorem dX11_run_59 : decode cX11_run 59 = .ok (.getfield 47, 3) := by decide +kernel
theorem dX11_run_62 : decode cX11_run 62 = .ok (.getfield 172, 3) := by decide +kernel
theorem dX11_run_65 : decode cX11_run 65 = .ok (.ireturn, 1) := by decide +kernel
theorem dX11_section_0 : decode cX11_section 0 = .ok (.aload_n 0, 1) := by decide +kernel
theorem dX11_section_1 : decode cX11_section 1 = .ok (.invokevirtual 174, 3) := by decide +kernel
theorem dX11_section_4 : decode cX11_section 4 = .ok (.aload_n 0, 1) := by decide +kernel
theorem dX11_section_5 : decode cX11_section 5 = .ok (.iload_n 1, 1) := by decide +kernel
theorem dX11_section_6 : decode cX11_section 6 = .ok (.invokevirtual 119, 3) := by decide +kernel
theorem dX11_section_9 : decode cX11_section 9 = .ok (.aload_n 0, 1) := by decide +kernel
theorem dX11_section_10 : decode cX11_section 10 = .ok (.iload_n 2, 1) := by decide +kernel
theorem dX11_section_11 : decode cX11_section 11 = .ok (.invokevirtual 119, 3) := by decide +kernel
theorem dX11_section_14 : decode cX11_section 14 = .ok (.aload_n 0, 1) := by decide +kernel
theorem dX11_section_15 : decode cX11_section 15 = .ok (.iload_n 1, 1) := by decide +kernel
theorem dX11_section_16 : decode cX11_section 16 = .ok (.iload_n 2, 1) := by decide +kernel
theorem dX11_section_17 : decode cX11_section 17 = .ok (.invokevirtual 205, 3) := by decide +kernel
theorem dX11_section_20 : decode cX11_section 20 = .ok (.aload_n 0, 1) := by decide +kernel
theorem dX11_section_21 : decode cX11_section 21 = .ok (.getfield 40, 3) := by decide +kernel
theorem dX11_section_24 : decode cX11_section 24 = .ok (.aload_n 0, 1) := by decide +kernel
theorem dX11_section_25 : decode cX11_section 25 = .ok (.getfield 12, 3) := by decide +kernel
theorem dX11_section_28 : decode cX11_section 28 = .ok (.aload_n 0, 1) := by decide +kernel
theorem dX11_section_29 : decode cX11_section 29 = .ok (.getfield 33, 3) := by decide +kernel
theorem dX11_section_32 : decode cX11_section 32 = .ok (.iload_n 1, 1) := by decide +kernel
theorem dX11_section_33 : decode cX11_section 33 = .ok (.iload_n 2, 1) := by decide +kernel
theorem dX11_section_34 : decode cX11_section 34 = .ok (.invokevirtual 218, 3) := by decide +kernel
theorem dX11_section_37 : decode cX11_section 37 = .ok (.iload_n 3, 1) := by decide +kernel
theorem dX11_section_38 : decode cX11_section 38 = .ok (.aload_n 0, 1) := by decide +kernel
theorem dX11_section_39 : decode cX11_section 39 = .ok (.getfield 40, 3) := by decide +kernel
theorem dX11_section_42 : decode cX11_section 42 = .ok (.getfield 222, 3) := by decide +kernel
theorem dX11_section_45 : decode cX11_section 45 = .ok (.invokestatic 186, 3) := by decide +kernel
theorem dX11_section_48 : decode cX11_section 48 = .ok (.iconst 0, 1) := by decide +kernel
theorem dX11_section_49 : decode cX11_section 49 = .ok (.iconst 1, 1) := by decide +kernel
theorem dX11_section_50 : decode cX11_section 50 = .ok (.iload 4, 2) := by decide +kernel
theorem dX11_section_52 : decode cX11_section 52 = .ok (.invokestatic 199, 3) := by decide +kernel
theorem dX11_section_55 : decode cX11_section 55 = .ok (.iload 4, 2) := by decide +kernel
theorem dX11_section_57 : decode cX11_section 57 = .ok (.ifCond .ne 15, 3) := by decide +kernel
theorem dX11_section_60 : decode cX11_section 60 = .ok (.aload_n 0, 1) := by decide +kernel
theorem dX11_section_61 : decode cX11_section 61 = .ok (.getfield 40, 3) := by decide +kernel
theorem dX11_section_64 : decode cX11_section 64 = .ok (.getfield 225, 3) := by decide +kernel
theorem dX11_section_67 : decode cX11_section 67 = .ok (.iload_n 3, 1) := by decide +kernel
theorem dX11_section_68 : decode cX11_section 68 = .ok (.iaload, 1) := by decide +kernel
theorem dX11_section_69 : decode cX11_section 69 = .ok (.goto 12, 3) := by decide +kernel
theorem dX11_section_72 : decode cX11_section 72 = .ok (.aload_n 0, 1) := by decide +kernel
theorem dX11_section_73 : decode cX11_section 73 = .ok (.getfield 40, 3) := by decide +kernel
theorem dX11_section_76 : decode cX11_section 76 = .ok (.getfield 228, 3) := by decide +kernel
theorem dX11_section_79 : decode cX11_section 79 = .ok (.iload_n 3, 1) := by decide +kernel
theorem dX11_section_80 : decode cX11_section 80 = .ok (.iaload, 1) := by decide +kernel
theorem dX11_section_81 : decode cX11_section 81 = .ok (.ireturn, 1) := by decide +kernel
theorem dX11_slotOf_0 : decode cX11_slotOf 0 = .ok (.iload_n 0, 1) := by decide +kernel
theorem dX11_slotOf_1 : decode cX11_slotOf 1 = .ok (.bipush 12, 2) := by decide +kernel
theorem dX11_slotOf_3 : decode cX11_slotOf 3 = .ok (.imul, 1) := by decide +kernel
theorem dX11_slotOf_4 : decode cX11_slotOf 4 = .ok (.iload_n 1, 1) := by decide +kernel
theorem dX11_slotOf_5 : decode cX11_slotOf 5 = .ok (.iadd, 1) := by decide +kernel
theorem dX11_slotOf_6 : decode cX11_slotOf 6 = .ok (.ireturn, 1) := by decide +kernel
theorem dX11_sum_0 : decode cX11_sum 0 = .ok (.aload_n 0, 1) := by decide +kernel
theorem dX11_sum_1 : decode cX11_sum 1 = .ok (.invokevirtual 174, 3) := by decide +kernel
theorem dX11_sum_4 : decode cX11_sum 4 = .ok (.aload_n 0, 1) := by decide +kernel
theorem dX11_sum_5 : decode cX11_sum 5 = .ok (.iload_n 1, 1) := by decide +kernel
theorem dX11_sum_6 : decode cX11_sum 6 = .ok (.invokevirtual 119, 3) := by decide +kernel
theorem dX11_sum_9 : decode cX11_sum 9 = .ok (.aload_n 0, 1) := by decide +kernel
theorem dX11_sum_10 : decode cX11_sum 10 = .ok (.iload_n 2, 1) := by decide +kernel
theorem dX11_sum_11 : decode cX11_sum 11 = .ok (.invokevirtual 119, 3) := by decide +kernel
theorem dX11_sum_14 : decode cX11_sum 14 = .ok (.aload_n 0, 1) := by decide +kernel
theorem dX11_sum_15 : decode cX11_sum 15 = .ok (.iload_n 1, 1) := by decide +kernel
theorem dX11_sum_16 : decode cX11_sum 16 = .ok (.iload_n 2, 1) := by decide +kernel
theorem dX11_sum_17 : decode cX11_sum 17 = .ok (.invokevirtual 205, 3) := by decide +kernel
theorem dX11_sum_20 : decode cX11_sum 20 = .ok (.aload_n 0, 1) := by decide +kernel
theorem dX11_sum_21 : decode cX11_sum 21 = .ok (.getfield 40, 3) := by decide +kernel
theorem dX11_sum_24 : decode cX11_sum 24 = .ok (.getfield 212, 3) := by decide +kernel
theorem dX11_sum_27 : decode cX11_sum 27 = .ok (.aload_n 0, 1) := by decide +kernel
theorem dX11_sum_28 : decode cX11_sum 28 = .ok (.getfield 33, 3) := by decide +kernel
theorem dX11_sum_31 : decode cX11_sum 31 = .ok (.iload_n 1, 1) := by decide +kernel
theorem dX11_sum_32 : decode cX11_sum 32 = .ok (.iload_n 2, 1) := by decide +kernel
theorem dX11_sum_33 : decode cX11_sum 33 = .ok (.invokevirtual 215, 3) := by decide +kernel
theorem dX11_sum_36 : decode cX11_sum 36 = .ok (.iaload, 1) := by decide +kernel
theorem dX11_sum_37 : decode cX11_sum 37 = .ok (.ireturn, 1) := by decide +kernel
theorem dX11_triangle_0 : decode cX11_triangle 0 = .ok (.aload_n 0, 1) := by decide +kernel
theorem dX11_triangle_1 : decode cX11_triangle 1 = .ok (.invokevirtual 174, 3) := by decide +kernel
theorem dX11_triangle_4 : decode cX11_triangle 4 = .ok (.iload_n 1, 1) := by decide +kernel
theorem dX11_triangle_5 : decode cX11_triangle 5 = .ok (.aload_n 0, 1) := by decide +kernel
theorem dX11_triangle_6 : decode cX11_triangle 6 = .ok (.getfield 33, 3) := by decide +kernel
theorem dX11_triangle_9 : decode cX11_triangle 9 = .ok (.getfield 183, 3) := by decide +kernel
theorem dX11_triangle_12 : decode cX11_triangle 12 = .ok (.invokestatic 186, 3) := by decide +kernel
theorem dX11_triangle_15 : decode cX11_triangle 15 = .ok (.iconst 0, 1) := by decide +kernel
theorem dX11_triangle_16 : decode cX11_triangle 16 = .ok (.iconst 2, 1) := by decide +kernel
theorem dX11_triangle_17 : decode cX11_triangle 17 = .ok (.iload_n 2, 1) := by decide +kernel
theorem dX11_triangle_18 : decode cX11_triangle 18 = .ok (.invokestatic 199, 3) := by decide +kernel
theorem dX11_triangle_21 : decode cX11_triangle 21 = .ok (.aload_n 0, 1) := by decide +kernel
theorem dX11_triangle_22 : decode cX11_triangle 22 = .ok (.getfield 33, 3) := by decide +kernel
theorem dX11_triangle_25 : decode cX11_triangle 25 = .ok (.iload_n 1, 1) := by decide +kernel
theorem dX11_triangle_26 : decode cX11_triangle 26 = .ok (.iload_n 2, 1) := by decide +kernel
theorem dX11_triangle_27 : decode cX11_triangle 27 = .ok (.invokevirtual 202, 3) := by decide +kernel
theorem dX11_triangle_30 : decode cX11_triangle 30 = .ok (.ireturn, 1) := by decide +kernel
theorem dX11_unit_0 : decode cX11_unit 0 = .ok (.aload_n 0, 1) := by decide +kernel
theorem dX11_unit_1 : decode cX11_unit 1 = .ok (.getfield 61, 3) := by decide +kernel
theorem dX11_unit_4 : decode cX11_unit 4 = .ok (.iload_n 1, 1) := by decide +kernel
theorem dX11_unit_5 : decode cX11_unit 5 = .ok (.invokevirtual 292, 3) := by decide +kernel
theorem dX11_unit_8 : decode cX11_unit 8 = .ok (.ireturn, 1) := by decide +kernel
theorem dX11_volume_0 : decode cX11_volume 0 = .ok (.aload_n 0, 1) := by decide +kernel
theorem dX11_volume_1 : decode cX11_volume 1 = .ok (.invokevirtual 174, 3) := by decide +kernel
theorem dX11_volume_4 : decode cX11_volume 4 = .ok (.iconst 0, 1) := by decide +kernel
theorem dX11_volume_5 : decode cX11_volume 5 = .ok (.bipush 7, 2) := by decide +kernel
theorem dX11_volume_7 : decode cX11_volume 7 = .ok (.iload_n 1, 1) := by decide +kernel
theorem dX11_volume_8 : decode cX11_volume 8 = .ok (.invokestatic 199, 3) := by decide +kernel
theorem dX11_volume_11 : decode cX11_volume 11 = .ok (.lconst 0, 1) := by decide +kernel
theorem dX11_volume_12 : decode cX11_volume 12 = .ok (.lstore 6, 2) := by decide +kernel
theorem dX11_volume_14 : decode cX11_volume 14 = .ok (.iconst 0, 1) := by decide +kernel
theorem dX11_volume_15 : decode cX11_volume 15 = .ok (.istore 8, 2) := by decide +kernel
theorem dX11_volume_17 : decode cX11_volume 17 = .ok (.iload 8, 2) := by decide +kernel
theorem dX11_volume_19 : decode cX11_volume 19 = .ok (.aload_n 0, 1) := by decide +kernel
theorem dX11_volume_20 : decode cX11_volume 20 = .ok (.getfield 33, 3) := by decide +kernel
theorem dX11_volume_23 : decode cX11_volume 23 = .ok (.getfield 183, 3) := by decide +kernel
theorem dX11_volume_26 : decode cX11_volume 26 = .ok (.if_icmp .ge 47, 3) := by decide +kernel
theorem dX11_volume_29 : decode cX11_volume 29 = .ok (.aload_n 0, 1) := by decide +kernel
theorem dX11_volume_30 : decode cX11_volume 30 = .ok (.iload 8, 2) := by decide +kernel
theorem dX11_volume_32 : decode cX11_volume 32 = .ok (.iload_n 2, 1) := by decide +kernel
theorem dX11_volume_33 : decode cX11_volume 33 = .ok (.iload_n 3, 1) := by decide +kernel
theorem dX11_volume_34 : decode cX11_volume 34 = .ok (.iload 4, 2) := by decide +kernel
theorem dX11_volume_36 : decode cX11_volume 36 = .ok (.iload 5, 2) := by decide +kernel
theorem dX11_volume_38 : decode cX11_volume 38 = .ok (.invokevirtual 273, 3) := by decide +kernel
theorem dX11_volume_41 : decode cX11_volume 41 = .ok (.ifCond .eq 26, 3) := by decide +kernel
theorem dX11_volume_44 : decode cX11_volume 44 = .ok (.lload 6, 2) := by decide +kernel
theorem dX11_volume_46 : decode cX11_volume 46 = .ok (.aload_n 0, 1) := by decide +kernel
theorem dX11_volume_47 : decode cX11_volume 47 = .ok (.getfield 47, 3) := by decide +kernel
theorem dX11_volume_50 : decode cX11_volume 50 = .ok (.aload_n 0, 1) := by decide +kernel
theorem dX11_volume_51 : decode cX11_volume 51 = .ok (.getfield 33, 3) := by decide +kernel
theorem dX11_volume_54 : decode cX11_volume 54 = .ok (.iload 8, 2) := by decide +kernel
theorem dX11_volume_56 : decode cX11_volume 56 = .ok (.iload_n 1, 1) := by decide +kernel
theorem dX11_volume_57 : decode cX11_volume 57 = .ok (.aload_n 0, 1) := by decide +kernel
theorem dX11_volume_58 : decode cX11_volume 58 = .ok (.getfield 76, 3) := by decide +kernel
theorem dX11_volume_61 : decode cX11_volume 61 = .ok (.invokevirtual 277, 3) := by decide +kernel
theorem dX11_volume_64 : decode cX11_volume 64 = .ok (.ladd, 1) := by decide +kernel
theorem dX11_volume_65 : decode cX11_volume 65 = .ok (.lstore 6, 2) := by decide +kernel
theorem dX11_volume_67 : decode cX11_volume 67 = .ok (.iinc 8 1, 3) := by decide +kernel
theorem dX11_volume_70 : decode cX11_volume 70 = .ok (.goto (-53), 3) := by decide +kernel
theorem dX11_volume_73 : decode cX11_volume 73 = .ok (.lload 6, 2) := by decide +kernel
theorem dX11_volume_75 : decode cX11_volume 75 = .ok (.lreturn, 1) := by decide +kernel
theorem dX11_water_0 : decode cX11_water 0 = .ok (.aload_n 0, 1) := by decide +kernel
theorem dX11_water_1 : decode cX11_water 1 = .ok (.getfield 12, 3) := by decide +kernel
theorem dX11_water_4 : decode cX11_water 4 = .ok (.iload_n 1, 1) := by decide +kernel
theorem dX11_water_5 : decode cX11_water 5 = .ok (.invokevirtual 151, 3) := by decide +kernel
theorem dX11_water_8 : decode cX11_water 8 = .ok (.ifCond .eq 17, 3) := by decide +kernel
theorem dX11_water_11 : decode cX11_water 11 = .ok (.iload_n 2, 1) := by decide +kernel
theorem dX11_water_12 : decode cX11_water 12 = .ok (.invokestatic 154, 3) := by decide +kernel
theorem dX11_water_15 : decode cX11_water 15 = .ok (.ifCond .eq 10, 3) := by decide +kernel
theorem dX11_water_18 : decode cX11_water 18 = .ok (.iload_n 3, 1) := by decide +kernel
theorem dX11_water_19 : decode cX11_water 19 = .ok (.invokestatic 91, 3) := by decide +kernel
theorem dX11_water_22 : decode cX11_water 22 = .ok (.ifCond .ne 5, 3) := by decide +kernel
theorem dX11_water_25 : decode cX11_water 25 = .ok (.iconst 0, 1) := by decide +kernel
theorem dX11_water_26 : decode cX11_water 26 = .ok (.ireturn, 1) := by decide +kernel
theorem dX11_water_27 : decode cX11_water 27 = .ok (.aload_n 0, 1) := by decide +kernel
theorem dX11_water_28 : decode cX11_water 28 = .ok (.getfield 26, 3) := by decide +kernel
theorem dX11_water_31 : decode cX11_water 31 = .ok (.iload_n 1, 1) := by decide +kernel
theorem dX11_water_32 : decode cX11_water 32 = .ok (.iload_n 2, 1) := by decide +kernel
theorem dX11_water_33 : decode cX11_water 33 = .ok (.iload_n 3, 1) := by decide +kernel
theorem dX11_water_34 : decode cX11_water 34 = .ok (.invokevirtual 157, 3) := by decide +kernel
theorem dX11_water_37 : decode cX11_water 37 = .ok (.ireturn, 1) := by decide +kernel
theorem dX11_wet_0 : decode cX11_wet 0 = .ok (.aload_n 0, 1) := by decide +kernel
theorem dX11_wet_1 : decode cX11_wet 1 = .ok (.invokevirtual 174, 3) := by decide +kernel
theorem dX11_wet_4 : decode cX11_wet 4 = .ok (.iconst 0, 1) := by decide +kernel
theorem dX11_wet_5 : decode cX11_wet 5 = .ok (.bipush 99, 2) := by decide +kernel
theorem dX11_wet_7 : decode cX11_wet 7 = .ok (.iload_n 1, 1) := by decide +kernel
theorem dX11_wet_8 : decode cX11_wet 8 = .ok (.invokestatic 199, 3) := by decide +kernel
theorem dX11_wet_11 : decode cX11_wet 11 = .ok (.iload_n 2, 1) := by decide +kernel
theorem dX11_wet_12 : decode cX11_wet 12 = .ok (.iload_n 3, 1) := by decide +kernel
theorem dX11_wet_13 : decode cX11_wet 13 = .ok (.invokestatic 255, 3) := by decide +kernel
theorem dX11_wet_16 : decode cX11_wet 16 = .ok (.iconst 0, 1) := by decide +kernel
theorem dX11_wet_17 : decode cX11_wet 17 = .ok (.iconst 1, 1) := by decide +kernel
theorem dX11_wet_18 : decode cX11_wet 18 = .ok (.iload 4, 2) := by decide +kernel
theorem dX11_wet_20 : decode cX11_wet 20 = .ok (.invokestatic 199, 3) := by decide +kernel
theorem dX11_wet_23 : decode cX11_wet 23 = .ok (.aload_n 0, 1) := by decide +kernel
theorem dX11_wet_24 : decode cX11_wet 24 = .ok (.getfield 54, 3) := by decide +kernel
theorem dX11_wet_27 : decode cX11_wet 27 = .ok (.iload_n 2, 1) := by decide +kernel
theorem dX11_wet_28 : decode cX11_wet 28 = .ok (.iload_n 3, 1) := by decide +kernel
theorem dX11_wet_29 : decode cX11_wet 29 = .ok (.aload_n 0, 1) := by decide +kernel
theorem dX11_wet_30 : decode cX11_wet 30 = .ok (.getfield 12, 3) := by decide +kernel
theorem dX11_wet_33 : decode cX11_wet 33 = .ok (.aload_n 0, 1) := by decide +kernel
theorem dX11_wet_34 : decode cX11_wet 34 = .ok (.getfield 33, 3) := by decide +kernel
theorem dX11_wet_37 : decode cX11_wet 37 = .ok (.invokevirtual 258, 3) := by decide +kernel
theorem dX11_wet_40 : decode cX11_wet 40 = .ok (.aload_n 0, 1) := by decide +kernel
theorem dX11_wet_41 : decode cX11_wet 41 = .ok (.getfield 54, 3) := by decide +kernel
theorem dX11_wet_44 : decode cX11_wet 44 = .ok (.aload_n 0, 1) := by decide +kernel
theorem dX11_wet_45 : decode cX11_wet 45 = .ok (.getfield 26, 3) := by decide +kernel
theorem dX11_wet_48 : decode cX11_wet 48 = .ok (.iload_n 1, 1) := by decide +kernel
theorem dX11_wet_49 : decode cX11_wet 49 = .ok (.aload_n 0, 1) := by decide +kernel
theorem dX11_wet_50 : decode cX11_wet 50 = .ok (.getfield 33, 3) := by decide +kernel
theorem dX11_wet_53 : decode cX11_wet 53 = .ok (.invokevirtual 262, 3) := by decide +kernel
theorem dX11_wet_56 : decode cX11_wet 56 = .ok (.iload 4, 2) := by decide +kernel
theorem dX11_wet_58 : decode cX11_wet 58 = .ok (.ifCond .ne 13, 3) := by decide +kernel
theorem dX11_wet_61 : decode cX11_wet 61 = .ok (.aload_n 0, 1) := by decide +kernel
theorem dX11_wet_62 : decode cX11_wet 62 = .ok (.getfield 54, 3) := by decide +kernel
theorem dX11_wet_65 : decode cX11_wet 65 = .ok (.getfield 266, 3) := by decide +kernel
theorem dX11_wet_68 : decode cX11_wet 68 = .ok (.goto 10, 3) := by decide +kernel
theorem dX11_wet_71 : decode cX11_wet 71 = .ok (.aload_n 0, 1) := by decide +kernel
theorem dX11_wet_72 : decode cX11_wet 72 = .ok (.getfield 54, 3) := by decide +kernel
theorem dX11_wet_75 : decode cX11_wet 75 = .ok (.getfield 270, 3) := by decide +kernel
theorem dX11_wet_78 : decode cX11_wet 78 = .ok (.lreturn, 1) := by decide +kernel
theorem dX11_within_0 : decode cX11_within 0 = .ok (.iconst 0, 1) := by decide +kernel
theorem dX11_within_1 : decode cX11_within 1 = .ok (.sipush 10000, 3) := by decide +kernel
theorem dX11_within_4 : decode cX11_within 4 = .ok (.iload_n 1, 1) := by decide +kernel
theorem dX11_within_5 : decode cX11_within 5 = .ok (.invokestatic 142, 3) := by decide +kernel
theorem dX11_within_8 : decode cX11_within 8 = .ok (.ifCond .ne 5, 3) := by decide +kernel
theorem dX11_within_11 : decode cX11_within 11 = .ok (.iconst 0, 1) := by decide +kernel
theorem dX11_within_12 : decode cX11_within 12 = .ok (.ireturn, 1) := by decide +kernel
theorem dX11_within_13 : decode cX11_within 13 = .ok (.aload_n 0, 1) := by decide +kernel
theorem dX11_within_14 : decode cX11_within 14 = .ok (.iload_n 1, 1) := by decide +kernel
theorem dX11_within_15 : decode cX11_within 15 = .ok (.putfield 80, 3) := by decide +kernel
theorem dX11_within_18 : decode cX11_within 18 = .ok (.iconst 1, 1) := by decide +kernel
theorem dX11_within_19 : decode cX11_within 19 = .ok (.ireturn, 1) := by decide +kernel
theorem dX11_write_0 : decode cX11_write 0 = .ok (.aload_n 0, 1) := by decide +kernel
theorem dX11_write_1 : decode cX11_write 1 = .ok (.iload_n 1, 1) := by decide +kernel
theorem dX11_write_2 : decode cX11_write 2 = .ok (.invokevirtual 119, 3) := by decide +kernel
theorem dX11_write_5 : decode cX11_write 5 = .ok (.aload_n 0, 1) := by decide +kernel
theorem dX11_write_6 : decode cX11_write 6 = .ok (.getfield 68, 3) := by decide +kernel
theorem dX11_write_9 : decode cX11_write 9 = .ok (.iconst 0, 1) := by decide +kernel
theorem dX11_write_10 : decode cX11_write 10 = .ok (.invokevirtual 304, 3) := by decide +kernel
theorem dX11_write_13 : decode cX11_write 13 = .ok (.aload_n 0, 1) := by decide +kernel
theorem dX11_write_14 : decode cX11_write 14 = .ok (.getfield 12, 3) := by decide +kernel
theorem dX11_write_17 : decode cX11_write 17 = .ok (.getfield 129, 3) := by decide +kernel
theorem dX11_write_20 : decode cX11_write 20 = .ok (.iload_n 1, 1) := by decide +kernel
theorem dX11_write_21 : decode cX11_write 21 = .ok (.aaload, 1) := by decide +kernel
theorem dX11_write_22 : decode cX11_write 22 = .ok (.aload_n 0, 1) := by decide +kernel
theorem dX11_write_23 : decode cX11_write 23 = .ok (.getfield 68, 3) := by decide +kernel
theorem dX11_write_26 : decode cX11_write 26 = .ok (.invokevirtual 307, 3) := by decide +kernel
theorem dX11_write_29 : decode cX11_write 29 = .ok (.aload_n 0, 1) := by decide +kernel
theorem dX11_write_30 : decode cX11_write 30 = .ok (.getfield 68, 3) := by decide +kernel
theorem dX11_write_33 : decode cX11_write 33 = .ok (.invokevirtual 311, 3) := by decide +kernel
theorem dX11_write_36 : decode cX11_write 36 = .ok (.ireturn, 1) := by decide +kernel
theorem dX12_age_0 : decode cX12_age 0 = .ok (.aload_n 0, 1) := by decide +kernel
theorem dX12_age_1 : decode cX12_age 1 = .ok (.iconst 0, 1) := by decide +kernel
theorem dX12_age_2 : decode cX12_age 2 = .ok (.putfield 106, 3) := by decide +kernel
theorem dX12_age_5 : decode cX12_age 5 = .ok (.iload_n 1, 1) := by decide +kernel
theorem dX12_age_6 : decode cX12_age 6 = .ok (.iconst 0, 1) := by decide +kernel
theorem dX12_age_7 : decode cX12_age 7 = .ok (.bipush 7, 2) := by decide +kernel
theorem dX12_age_9 : decode cX12_age 9 = .ok (.invokestatic 109, 3) := by decide +kernel
theorem dX12_age_12 : decode cX12_age 12 = .ok (.ifCond .eq 13, 3) := by decide +kernel
theorem dX12_age_15 : decode cX12_age 15 = .ok (.iload_n 2, 1) := by decide +kernel
theorem dX12_age_16 : decode cX12_age 16 = .ok (.iconst 0, 1) := by decide +kernel
theorem dX12_age_17 : decode cX12_age 17 = .ok (.bipush 99, 2) := by decide +kernel
theorem dX12_age_19 : decode cX12_age 19 = .ok (.invokestatic 109, 3) := by decide +kernel
theorem dX12_age_22 : decode cX12_age 22 = .ok (.ifCond .ne 5, 3) := by decide +kernel
theorem dX12_age_25 : decode cX12_age 25 = .ok (.iconst 0, 1) := by decide +kernel
theorem dX12_age_26 : decode cX12_age 26 = .ok (.ireturn, 1) := by decide +kernel
theorem dX12_age_27 : decode cX12_age 27 = .ok (.aload_n 0, 1) := by decide +kernel
theorem dX12_age_28 : decode cX12_age 28 = .ok (.getfield 28, 3) := by decide +kernel
theorem dX12_age_31 : decode cX12_age 31 = .ok (.iload_n 1, 1) := by decide +kernel
theorem dX12_age_32 : decode cX12_age 32 = .ok (.iload_n 2, 1) := by decide +kernel
theorem dX12_age_33 : decode cX12_age 33 = .ok (.iastore, 1) := by decide +kernel
theorem dX12_age_34 : decode cX12_age 34 = .ok (.aload_n 0, 1) := by decide +kernel
theorem dX12_age_35 : decode cX12_age 35 = .ok (.iconst 0, 1) := by decide +kernel
theorem dX12_age_36 : decode cX12_age 36 = .ok (.putfield 125, 3) := by decide +kernel
theorem dX12_age_39 : decode cX12_age 39 = .ok (.iconst 1, 1) := by decide +kernel
theorem dX12_age_40 : decode cX12_age 40 = .ok (.ireturn, 1) := by decide +kernel
theorem dX12_areNeighbours_0 : decode cX12_areNeighbours 0 = .ok (.aload_n 0, 1) := by decide +kernel
theorem dX12_areNeighbours_1 : decode cX12_areNeighbours 1 = .ok (.getfield 51, 3) := by decide +kernel
theorem dX12_areNeighbours_4 : decode cX12_areNeighbours 4 = .ok (.bipush 16, 2) := by decide +kernel
theorem dX12_areNeighbours_6 : decode cX12_areNeighbours 6 = .ok (.iload_n 1, 1) := by decide +kernel
theorem dX12_areNeighbours_7 : decode cX12_areNeighbours 7 = .ok (.imul, 1) := by decide +kernel
theorem dX12_areNeighbours_8 : decode cX12_areNeighbours 8 = .ok (.iload_n 2, 1) := by decide +kernel
theorem dX12_areNeighbours_9 : decode cX12_areNeighbours 9 = .ok (.iadd, 1) := by decide +kernel
theorem dX12_areNeighbours_10 : decode cX12_areNeighbours 10 = .ok (.iaload, 1) := by decide +kernel
theorem dX12_areNeighbours_11 : decode cX12_areNeighbours 11 = .ok (.iconst (-1), 1) := by decide +kernel
theorem dX12_areNeighbours_12 : decode cX12_areNeighbours 12 = .ok (.if_icmp .eq 26, 3) := by decide +kernel
theorem dX12_areNeighbours_15 : decode cX12_areNeighbours 15 = .ok (.aload_n 0, 1) := by decide +kernel
theorem dX12_areNeighbours_16 : decode cX12_areNeighbours 16 = .ok (.getfield 47, 3) := by decide +kernel
theorem dX12_areNeighbours_19 : decode cX12_areNeighbours 19 = .ok (.aload_n 0, 1) := by decide +kernel
theorem dX12_areNeighbours_20 : decode cX12_areNeighbours 20 = .ok (.getfield 51, 3) := by decide +kernel
theorem dX12_areNeighbours_23 : decode cX12_areNeighbours 23 = .ok (.bipush 16, 2) := by decide +kernel
theorem dX12_areNeighbours_25 : decode cX12_areNeighbours 25 = .ok (.iload_n 1, 1) := by decide +kernel
theorem dX12_areNeighbours_26 : decode cX12_areNeighbours 26 = .ok (.imul, 1) := by decide +kernel
theorem dX12_areNeighbours_27 : decode cX12_areNeighbours 27 = .ok (.iload_n 2, 1) := by decide +kernel
theorem dX12_areNeighbours_28 : decode cX12_areNeighbours 28 = .ok (.iadd, 1) := by decide +kernel
theorem dX12_areNeighbours_29 : decode cX12_areNeighbours 29 = .ok (.iaload, 1) := by decide +kernel
theorem dX12_areNeighbours_30 : decode cX12_areNeighbours 30 = .ok (.baload, 1) := by decide +kernel
theorem dX12_areNeighbours_31 : decode cX12_areNeighbours 31 = .ok (.ifCond .ne 7, 3) := by decide +kernel
theorem dX12_areNeighbours_34 : decode cX12_areNeighbours 34 = .ok (.iconst 1, 1) := by decide +kernel
theorem dX12_areNeighbours_35 : decode cX12_areNeighbours 35 = .ok (.goto 4, 3) := by decide +kernel
theorem dX12_areNeighbours_38 : decode cX12_areNeighbours 38 = .ok (.iconst 0, 1) := by decide +kernel
theorem dX12_areNeighbours_39 : decode cX12_areNeighbours 39 = .ok (.ireturn, 1) := by decide +kernel
