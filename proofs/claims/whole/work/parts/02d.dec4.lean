theorem dX3_breakWay_0 : decode cX3_breakWay 0 = .ok (.iconst 0, 1) := by decide +kernel
theorem dX3_breakWay_1 : decode cX3_breakWay 1 = .ok (.istore_n 3, 1) := by decide +kernel
theorem dX3_breakWay_2 : decode cX3_breakWay 2 = .ok (.iload_n 3, 1) := by decide +kernel
theorem dX3_breakWay_3 : decode cX3_breakWay 3 = .ok (.aload_n 0, 1) := by decide +kernel
theorem dX3_breakWay_4 : decode cX3_breakWay 4 = .ok (.getfield 21, 3) := by decide +kernel
theorem dX3_breakWay_7 : decode cX3_breakWay 7 = .ok (.if_icmp .ge 31, 3) := by decide +kernel
theorem dX3_breakWay_10 : decode cX3_breakWay 10 = .ok (.aload_n 0, 1) := by decide +kernel
theorem dX3_breakWay_11 : decode cX3_breakWay 11 = .ok (.getfield 11, 3) := by decide +kernel
theorem dX3_breakWay_14 : decode cX3_breakWay 14 = .ok (.iload_n 3, 1) := by decide +kernel
theorem dX3_breakWay_15 : decode cX3_breakWay 15 = .ok (.aaload, 1) := by decide +kernel
theorem dX3_breakWay_16 : decode cX3_breakWay 16 = .ok (.aload_n 0, 1) := by decide +kernel
theorem dX3_breakWay_17 : decode cX3_breakWay 17 = .ok (.getfield 17, 3) := by decide +kernel
theorem dX3_breakWay_20 : decode cX3_breakWay 20 = .ok (.iload_n 3, 1) := by decide +kernel
theorem dX3_breakWay_21 : decode cX3_breakWay 21 = .ok (.aaload, 1) := by decide +kernel
theorem dX3_breakWay_22 : decode cX3_breakWay 22 = .ok (.aload_n 1, 1) := by decide +kernel
theorem dX3_breakWay_23 : decode cX3_breakWay 23 = .ok (.aload_n 2, 1) := by decide +kernel
theorem dX3_breakWay_24 : decode cX3_breakWay 24 = .ok (.invokestatic 29, 3) := by decide +kernel
theorem dX3_breakWay_27 : decode cX3_breakWay 27 = .ok (.ifCond .eq 5, 3) := by decide +kernel
theorem dX3_breakWay_30 : decode cX3_breakWay 30 = .ok (.iconst 1, 1) := by decide +kernel
theorem dX3_breakWay_31 : decode cX3_breakWay 31 = .ok (.ireturn, 1) := by decide +kernel
theorem dX3_breakWay_32 : decode cX3_breakWay 32 = .ok (.iinc 3 1, 3) := by decide +kernel
theorem dX3_breakWay_35 : decode cX3_breakWay 35 = .ok (.goto (-33), 3) := by decide +kernel
theorem dX3_breakWay_38 : decode cX3_breakWay 38 = .ok (.iconst 0, 1) := by decide +kernel
theorem dX3_breakWay_39 : decode cX3_breakWay 39 = .ok (.ireturn, 1) := by decide +kernel
theorem dX3_init_0 : decode cX3_init 0 = .ok (.aload_n 0, 1) := by decide +kernel
theorem dX3_init_1 : decode cX3_init 1 = .ok (.invokespecial 3, 3) := by decide +kernel
theorem dX3_init_4 : decode cX3_init 4 = .ok (.aload_n 0, 1) := by decide +kernel
theorem dX3_init_5 : decode cX3_init 5 = .ok (.bipush 8, 2) := by decide +kernel
theorem dX3_init_7 : decode cX3_init 7 = .ok (.anewarray 9, 3) := by decide +kernel
theorem dX3_init_10 : decode cX3_init 10 = .ok (.putfield 11, 3) := by decide +kernel
theorem dX3_init_13 : decode cX3_init 13 = .ok (.aload_n 0, 1) := by decide +kernel
theorem dX3_init_14 : decode cX3_init 14 = .ok (.bipush 8, 2) := by decide +kernel
theorem dX3_init_16 : decode cX3_init 16 = .ok (.anewarray 9, 3) := by decide +kernel
theorem dX3_init_19 : decode cX3_init 19 = .ok (.putfield 17, 3) := by decide +kernel
theorem dX3_init_22 : decode cX3_init 22 = .ok (.iconst 0, 1) := by decide +kernel
theorem dX3_init_23 : decode cX3_init 23 = .ok (.istore_n 1, 1) := by decide +kernel
theorem dX3_init_24 : decode cX3_init 24 = .ok (.iload_n 1, 1) := by decide +kernel
theorem dX3_init_25 : decode cX3_init 25 = .ok (.bipush 8, 2) := by decide +kernel
theorem dX3_init_27 : decode cX3_init 27 = .ok (.if_icmp .ge 35, 3) := by decide +kernel
theorem dX3_init_30 : decode cX3_init 30 = .ok (.aload_n 0, 1) := by decide +kernel
theorem dX3_init_31 : decode cX3_init 31 = .ok (.getfield 11, 3) := by decide +kernel
theorem dX3_init_34 : decode cX3_init 34 = .ok (.iload_n 1, 1) := by decide +kernel
theorem dX3_init_35 : decode cX3_init 35 = .ok (.new 9, 3) := by decide +kernel
theorem dX3_init_38 : decode cX3_init 38 = .ok (.dup, 1) := by decide +kernel
theorem dX3_init_39 : decode cX3_init 39 = .ok (.invokespecial 20, 3) := by decide +kernel
theorem dX3_init_42 : decode cX3_init 42 = .ok (.aastore, 1) := by decide +kernel
theorem dX3_init_43 : decode cX3_init 43 = .ok (.aload_n 0, 1) := by decide +kernel
theorem dX3_init_44 : decode cX3_init 44 = .ok (.getfield 17, 3) := by decide +kernel
theorem dX3_init_47 : decode cX3_init 47 = .ok (.iload_n 1, 1) := by decide +kernel
theorem dX3_init_48 : decode cX3_init 48 = .ok (.new 9, 3) := by decide +kernel
theorem dX3_init_51 : decode cX3_init 51 = .ok (.dup, 1) := by decide +kernel
theorem dX3_init_52 : decode cX3_init 52 = .ok (.invokespecial 20, 3) := by decide +kernel
theorem dX3_init_55 : decode cX3_init 55 = .ok (.aastore, 1) := by decide +kernel
theorem dX3_init_56 : decode cX3_init 56 = .ok (.iinc 1 1, 3) := by decide +kernel
theorem dX3_init_59 : decode cX3_init 59 = .ok (.goto (-35), 3) := by decide +kernel
theorem dX3_init_62 : decode cX3_init 62 = .ok (.return_, 1) := by decide +kernel
theorem dX5_addRow_0 : decode cX5_addRow 0 = .ok (.aload_n 0, 1) := by decide +kernel
theorem dX5_addRow_1 : decode cX5_addRow 1 = .ok (.getfield 64, 3) := by decide +kernel
theorem dX5_addRow_4 : decode cX5_addRow 4 = .ok (.bipush 24, 2) := by decide +kernel
theorem dX5_addRow_6 : decode cX5_addRow 6 = .ok (.if_icmp .ge 33, 3) := by decide +kernel
theorem dX5_addRow_9 : decode cX5_addRow 9 = .ok (.aload_n 0, 1) := by decide +kernel
theorem dX5_addRow_10 : decode cX5_addRow 10 = .ok (.getfield 15, 3) := by decide +kernel
theorem dX5_addRow_13 : decode cX5_addRow 13 = .ok (.aload_n 0, 1) := by decide +kernel
theorem dX5_addRow_14 : decode cX5_addRow 14 = .ok (.getfield 64, 3) := by decide +kernel
theorem dX5_addRow_17 : decode cX5_addRow 17 = .ok (.iload_n 1, 1) := by decide +kernel
theorem dX5_addRow_18 : decode cX5_addRow 18 = .ok (.iastore, 1) := by decide +kernel
theorem dX5_addRow_19 : decode cX5_addRow 19 = .ok (.aload_n 0, 1) := by decide +kernel
theorem dX5_addRow_20 : decode cX5_addRow 20 = .ok (.getfield 18, 3) := by decide +kernel
theorem dX5_addRow_23 : decode cX5_addRow 23 = .ok (.aload_n 0, 1) := by decide +kernel
theorem dX5_addRow_24 : decode cX5_addRow 24 = .ok (.getfield 64, 3) := by decide +kernel
theorem dX5_addRow_27 : decode cX5_addRow 27 = .ok (.iload_n 2, 1) := by decide +kernel
theorem dX5_addRow_28 : decode cX5_addRow 28 = .ok (.iastore, 1) := by decide +kernel
theorem dX5_addRow_29 : decode cX5_addRow 29 = .ok (.aload_n 0, 1) := by decide +kernel
theorem dX5_addRow_30 : decode cX5_addRow 30 = .ok (.dup, 1) := by decide +kernel
theorem dX5_addRow_31 : decode cX5_addRow 31 = .ok (.getfield 64, 3) := by decide +kernel
theorem dX5_addRow_34 : decode cX5_addRow 34 = .ok (.iconst 1, 1) := by decide +kernel
theorem dX5_addRow_35 : decode cX5_addRow 35 = .ok (.iadd, 1) := by decide +kernel
theorem dX5_addRow_36 : decode cX5_addRow 36 = .ok (.putfield 64, 3) := by decide +kernel
theorem dX5_addRow_39 : decode cX5_addRow 39 = .ok (.return_, 1) := by decide +kernel
theorem dX5_anyCrosses_0 : decode cX5_anyCrosses 0 = .ok (.iconst 0, 1) := by decide +kernel
theorem dX5_anyCrosses_1 : decode cX5_anyCrosses 1 = .ok (.istore_n 3, 1) := by decide +kernel
theorem dX5_anyCrosses_2 : decode cX5_anyCrosses 2 = .ok (.iload_n 3, 1) := by decide +kernel
theorem dX5_anyCrosses_3 : decode cX5_anyCrosses 3 = .ok (.aload_n 2, 1) := by decide +kernel
theorem dX5_anyCrosses_4 : decode cX5_anyCrosses 4 = .ok (.getfield 30, 3) := by decide +kernel
theorem dX5_anyCrosses_7 : decode cX5_anyCrosses 7 = .ok (.if_icmp .ge 42, 3) := by decide +kernel
theorem dX5_anyCrosses_10 : decode cX5_anyCrosses 10 = .ok (.aload_n 2, 1) := by decide +kernel
theorem dX5_anyCrosses_11 : decode cX5_anyCrosses 11 = .ok (.getfield 36, 3) := by decide +kernel
theorem dX5_anyCrosses_14 : decode cX5_anyCrosses 14 = .ok (.iload_n 3, 1) := by decide +kernel
theorem dX5_anyCrosses_15 : decode cX5_anyCrosses 15 = .ok (.baload, 1) := by decide +kernel
theorem dX5_anyCrosses_16 : decode cX5_anyCrosses 16 = .ok (.ifCond .ne 27, 3) := by decide +kernel
theorem dX5_anyCrosses_19 : decode cX5_anyCrosses 19 = .ok (.aload_n 0, 1) := by decide +kernel
theorem dX5_anyCrosses_20 : decode cX5_anyCrosses 20 = .ok (.iload_n 3, 1) := by decide +kernel
theorem dX5_anyCrosses_21 : decode cX5_anyCrosses 21 = .ok (.aload_n 1, 1) := by decide +kernel
theorem dX5_anyCrosses_22 : decode cX5_anyCrosses 22 = .ok (.getfield 40, 3) := by decide +kernel
theorem dX5_anyCrosses_25 : decode cX5_anyCrosses 25 = .ok (.aload_n 2, 1) := by decide +kernel
theorem dX5_anyCrosses_26 : decode cX5_anyCrosses 26 = .ok (.getfield 46, 3) := by decide +kernel
theorem dX5_anyCrosses_29 : decode cX5_anyCrosses 29 = .ok (.iload_n 3, 1) := by decide +kernel
theorem dX5_anyCrosses_30 : decode cX5_anyCrosses 30 = .ok (.iaload, 1) := by decide +kernel
theorem dX5_anyCrosses_31 : decode cX5_anyCrosses 31 = .ok (.aaload, 1) := by decide +kernel
theorem dX5_anyCrosses_32 : decode cX5_anyCrosses 32 = .ok (.getfield 67, 3) := by decide +kernel
theorem dX5_anyCrosses_35 : decode cX5_anyCrosses 35 = .ok (.invokevirtual 80, 3) := by decide +kernel
theorem dX5_anyCrosses_38 : decode cX5_anyCrosses 38 = .ok (.ifCond .eq 5, 3) := by decide +kernel
theorem dX5_anyCrosses_41 : decode cX5_anyCrosses 41 = .ok (.iconst 1, 1) := by decide +kernel
theorem dX5_anyCrosses_42 : decode cX5_anyCrosses 42 = .ok (.ireturn, 1) := by decide +kernel
theorem dX5_anyCrosses_43 : decode cX5_anyCrosses 43 = .ok (.iinc 3 1, 3) := by decide +kernel
theorem dX5_anyCrosses_46 : decode cX5_anyCrosses 46 = .ok (.goto (-44), 3) := by decide +kernel
theorem dX5_anyCrosses_49 : decode cX5_anyCrosses 49 = .ok (.iconst 0, 1) := by decide +kernel
theorem dX5_anyCrosses_50 : decode cX5_anyCrosses 50 = .ok (.ireturn, 1) := by decide +kernel
theorem dX5_bestPartner_0 : decode cX5_bestPartner 0 = .ok (.iconst 0, 1) := by decide +kernel
theorem dX5_bestPartner_1 : decode cX5_bestPartner 1 = .ok (.istore 6, 2) := by decide +kernel
theorem dX5_bestPartner_3 : decode cX5_bestPartner 3 = .ok (.iload 4, 2) := by decide +kernel
theorem dX5_bestPartner_5 : decode cX5_bestPartner 5 = .ok (.istore 7, 2) := by decide +kernel
theorem dX5_bestPartner_7 : decode cX5_bestPartner 7 = .ok (.iload 7, 2) := by decide +kernel
theorem dX5_bestPartner_9 : decode cX5_bestPartner 9 = .ok (.aload_n 3, 1) := by decide +kernel
theorem dX5_bestPartner_10 : decode cX5_bestPartner 10 = .ok (.getfield 67, 3) := by decide +kernel
theorem dX5_bestPartner_13 : decode cX5_bestPartner 13 = .ok (.if_icmp .ge 73, 3) := by decide +kernel
theorem dX5_bestPartner_16 : decode cX5_bestPartner 16 = .ok (.aload_n 0, 1) := by decide +kernel
theorem dX5_bestPartner_17 : decode cX5_bestPartner 17 = .ok (.getfield 27, 3) := by decide +kernel
theorem dX5_bestPartner_20 : decode cX5_bestPartner 20 = .ok (.iload_n 2, 1) := by decide +kernel
theorem dX5_bestPartner_21 : decode cX5_bestPartner 21 = .ok (.iconst 1, 1) := by decide +kernel
theorem dX5_bestPartner_22 : decode cX5_bestPartner 22 = .ok (.iadd, 1) := by decide +kernel
theorem dX5_bestPartner_23 : decode cX5_bestPartner 23 = .ok (.bipush 13, 2) := by decide +kernel
theorem dX5_bestPartner_25 : decode cX5_bestPartner 25 = .ok (.imul, 1) := by decide +kernel
theorem dX5_bestPartner_26 : decode cX5_bestPartner 26 = .ok (.iload 7, 2) := by decide +kernel
theorem dX5_bestPartner_28 : decode cX5_bestPartner 28 = .ok (.iadd, 1) := by decide +kernel
theorem dX5_bestPartner_29 : decode cX5_bestPartner 29 = .ok (.iconst 1, 1) := by decide +kernel
theorem dX5_bestPartner_30 : decode cX5_bestPartner 30 = .ok (.iadd, 1) := by decide +kernel
theorem dX5_bestPartner_31 : decode cX5_bestPartner 31 = .ok (.iaload, 1) := by decide +kernel
theorem dX5_bestPartner_32 : decode cX5_bestPartner 32 = .ok (.istore 8, 2) := by decide +kernel
theorem dX5_bestPartner_34 : decode cX5_bestPartner 34 = .ok (.iload 6, 2) := by decide +kernel
theorem dX5_bestPartner_36 : decode cX5_bestPartner 36 = .ok (.aload_n 1, 1) := by decide +kernel
theorem dX5_bestPartner_37 : decode cX5_bestPartner 37 = .ok (.iload_n 2, 1) := by decide +kernel
theorem dX5_bestPartner_38 : decode cX5_bestPartner 38 = .ok (.aload_n 3, 1) := by decide +kernel
theorem dX5_bestPartner_39 : decode cX5_bestPartner 39 = .ok (.iload 7, 2) := by decide +kernel
theorem dX5_bestPartner_41 : decode cX5_bestPartner 41 = .ok (.aload 5, 2) := by decide +kernel
theorem dX5_bestPartner_43 : decode cX5_bestPartner 43 = .ok (.invokestatic 99, 3) := by decide +kernel
theorem dX5_bestPartner_46 : decode cX5_bestPartner 46 = .ok (.iadd, 1) := by decide +kernel
theorem dX5_bestPartner_47 : decode cX5_bestPartner 47 = .ok (.iload 8, 2) := by decide +kernel
theorem dX5_bestPartner_49 : decode cX5_bestPartner 49 = .ok (.iadd, 1) := by decide +kernel
theorem dX5_bestPartner_50 : decode cX5_bestPartner 50 = .ok (.aload_n 0, 1) := by decide +kernel
theorem dX5_bestPartner_51 : decode cX5_bestPartner 51 = .ok (.getfield 27, 3) := by decide +kernel
theorem dX5_bestPartner_54 : decode cX5_bestPartner 54 = .ok (.iload_n 2, 1) := by decide +kernel
theorem dX5_bestPartner_55 : decode cX5_bestPartner 55 = .ok (.bipush 13, 2) := by decide +kernel
theorem dX5_bestPartner_57 : decode cX5_bestPartner 57 = .ok (.imul, 1) := by decide +kernel
theorem dX5_bestPartner_58 : decode cX5_bestPartner 58 = .ok (.iload 4, 2) := by decide +kernel
theorem dX5_bestPartner_60 : decode cX5_bestPartner 60 = .ok (.iadd, 1) := by decide +kernel
theorem dX5_bestPartner_61 : decode cX5_bestPartner 61 = .ok (.iaload, 1) := by decide +kernel
theorem dX5_bestPartner_62 : decode cX5_bestPartner 62 = .ok (.if_icmp .ne 6, 3) := by decide +kernel
theorem dX5_bestPartner_65 : decode cX5_bestPartner 65 = .ok (.iload 7, 2) := by decide +kernel
theorem dX5_bestPartner_67 : decode cX5_bestPartner 67 = .ok (.ireturn, 1) := by decide +kernel
theorem dX5_bestPartner_68 : decode cX5_bestPartner 68 = .ok (.iload 6, 2) := by decide +kernel
theorem dX5_bestPartner_70 : decode cX5_bestPartner 70 = .ok (.aload_n 3, 1) := by decide +kernel
theorem dX5_bestPartner_71 : decode cX5_bestPartner 71 = .ok (.getfield 93, 3) := by decide +kernel
theorem dX5_bestPartner_74 : decode cX5_bestPartner 74 = .ok (.iload 7, 2) := by decide +kernel
theorem dX5_bestPartner_76 : decode cX5_bestPartner 76 = .ok (.iaload, 1) := by decide +kernel
theorem dX5_bestPartner_77 : decode cX5_bestPartner 77 = .ok (.iadd, 1) := by decide +kernel
theorem dX5_bestPartner_78 : decode cX5_bestPartner 78 = .ok (.istore 6, 2) := by decide +kernel
theorem dX5_bestPartner_80 : decode cX5_bestPartner 80 = .ok (.iinc 7 1, 3) := by decide +kernel
theorem dX5_bestPartner_83 : decode cX5_bestPartner 83 = .ok (.goto (-76), 3) := by decide +kernel
theorem dX5_bestPartner_86 : decode cX5_bestPartner 86 = .ok (.iconst (-1), 1) := by decide +kernel
theorem dX5_bestPartner_87 : decode cX5_bestPartner 87 = .ok (.ireturn, 1) := by decide +kernel
theorem dX5_choose_0 : decode cX5_choose 0 = .ok (.iload_n 1, 1) := by decide +kernel
theorem dX5_choose_1 : decode cX5_choose 1 = .ok (.bipush 12, 2) := by decide +kernel
theorem dX5_choose_3 : decode cX5_choose 3 = .ok (.imul, 1) := by decide +kernel
theorem dX5_choose_4 : decode cX5_choose 4 = .ok (.istore 5, 2) := by decide +kernel
theorem dX5_choose_6 : decode cX5_choose 6 = .ok (.iconst 0, 1) := by decide +kernel
theorem dX5_choose_7 : decode cX5_choose 7 = .ok (.istore 6, 2) := by decide +kernel
theorem dX5_choose_9 : decode cX5_choose 9 = .ok (.iload 6, 2) := by decide +kernel
theorem dX5_choose_11 : decode cX5_choose 11 = .ok (.aload_n 3, 1) := by decide +kernel
theorem dX5_choose_12 : decode cX5_choose 12 = .ok (.getfield 67, 3) := by decide +kernel
theorem dX5_choose_15 : decode cX5_choose 15 = .ok (.if_icmp .ge 20, 3) := by decide +kernel
theorem dX5_choose_18 : decode cX5_choose 18 = .ok (.aload_n 0, 1) := by decide +kernel
theorem dX5_choose_19 : decode cX5_choose 19 = .ok (.getfield 24, 3) := by decide +kernel
theorem dX5_choose_22 : decode cX5_choose 22 = .ok (.iload 5, 2) := by decide +kernel
theorem dX5_choose_24 : decode cX5_choose 24 = .ok (.iload 6, 2) := by decide +kernel
theorem dX5_choose_26 : decode cX5_choose 26 = .ok (.iadd, 1) := by decide +kernel
theorem dX5_choose_27 : decode cX5_choose 27 = .ok (.iconst (-1), 1) := by decide +kernel
theorem dX5_choose_28 : decode cX5_choose 28 = .ok (.iastore, 1) := by decide +kernel
theorem dX5_choose_29 : decode cX5_choose 29 = .ok (.iinc 6 1, 3) := by decide +kernel
theorem dX5_choose_32 : decode cX5_choose 32 = .ok (.goto (-23), 3) := by decide +kernel
theorem dX5_choose_35 : decode cX5_choose 35 = .ok (.iconst 0, 1) := by decide +kernel
theorem dX5_choose_36 : decode cX5_choose 36 = .ok (.istore 6, 2) := by decide +kernel
theorem dX5_choose_38 : decode cX5_choose 38 = .ok (.iconst 0, 1) := by decide +kernel
theorem dX5_choose_39 : decode cX5_choose 39 = .ok (.istore 7, 2) := by decide +kernel
theorem dX5_choose_41 : decode cX5_choose 41 = .ok (.iload 7, 2) := by decide +kernel
theorem dX5_choose_43 : decode cX5_choose 43 = .ok (.aload_n 2, 1) := by decide +kernel
theorem dX5_choose_44 : decode cX5_choose 44 = .ok (.getfield 67, 3) := by decide +kernel
theorem dX5_choose_47 : decode cX5_choose 47 = .ok (.if_icmp .ge 59, 3) := by decide +kernel
theorem dX5_choose_50 : decode cX5_choose 50 = .ok (.aload_n 0, 1) := by decide +kernel
theorem dX5_choose_51 : decode cX5_choose 51 = .ok (.aload_n 2, 1) := by decide +kernel
theorem dX5_choose_52 : decode cX5_choose 52 = .ok (.iload 7, 2) := by decide +kernel
theorem dX5_choose_54 : decode cX5_choose 54 = .ok (.aload_n 3, 1) := by decide +kernel
theorem dX5_choose_55 : decode cX5_choose 55 = .ok (.iload 6, 2) := by decide +kernel
theorem dX5_choose_57 : decode cX5_choose 57 = .ok (.aload 4, 2) := by decide +kernel
theorem dX5_choose_59 : decode cX5_choose 59 = .ok (.invokevirtual 102, 3) := by decide +kernel
theorem dX5_choose_62 : decode cX5_choose 62 = .ok (.istore 8, 2) := by decide +kernel
theorem dX5_choose_64 : decode cX5_choose 64 = .ok (.aload_n 0, 1) := by decide +kernel
theorem dX5_choose_65 : decode cX5_choose 65 = .ok (.getfield 21, 3) := by decide +kernel
theorem dX5_choose_68 : decode cX5_choose 68 = .ok (.iload 5, 2) := by decide +kernel
theorem dX5_choose_70 : decode cX5_choose 70 = .ok (.iload 7, 2) := by decide +kernel
theorem dX5_choose_72 : decode cX5_choose 72 = .ok (.iadd, 1) := by decide +kernel
theorem dX5_choose_73 : decode cX5_choose 73 = .ok (.iload 8, 2) := by decide +kernel
theorem dX5_choose_75 : decode cX5_choose 75 = .ok (.iastore, 1) := by decide +kernel
theorem dX5_choose_76 : decode cX5_choose 76 = .ok (.iload 8, 2) := by decide +kernel
theorem dX5_choose_78 : decode cX5_choose 78 = .ok (.iconst (-1), 1) := by decide +kernel
theorem dX5_choose_79 : decode cX5_choose 79 = .ok (.if_icmp .eq 21, 3) := by decide +kernel
theorem dX5_choose_82 : decode cX5_choose 82 = .ok (.aload_n 0, 1) := by decide +kernel
theorem dX5_choose_83 : decode cX5_choose 83 = .ok (.getfield 24, 3) := by decide +kernel
theorem dX5_choose_86 : decode cX5_choose 86 = .ok (.iload 5, 2) := by decide +kernel
theorem dX5_choose_88 : decode cX5_choose 88 = .ok (.iload 8, 2) := by decide +kernel
theorem dX5_choose_90 : decode cX5_choose 90 = .ok (.iadd, 1) := by decide +kernel
theorem dX5_choose_91 : decode cX5_choose 91 = .ok (.iload 7, 2) := by decide +kernel
theorem dX5_choose_93 : decode cX5_choose 93 = .ok (.iastore, 1) := by decide +kernel
theorem dX5_choose_94 : decode cX5_choose 94 = .ok (.iload 8, 2) := by decide +kernel
theorem dX5_choose_96 : decode cX5_choose 96 = .ok (.iconst 1, 1) := by decide +kernel
theorem dX5_choose_97 : decode cX5_choose 97 = .ok (.iadd, 1) := by decide +kernel
theorem dX5_choose_98 : decode cX5_choose 98 = .ok (.istore 6, 2) := by decide +kernel
theorem dX5_choose_100 : decode cX5_choose 100 = .ok (.iinc 7 1, 3) := by decide +kernel
theorem dX5_choose_103 : decode cX5_choose 103 = .ok (.goto (-62), 3) := by decide +kernel
theorem dX5_choose_106 : decode cX5_choose 106 = .ok (.return_, 1) := by decide +kernel
theorem dX5_crossesOn_0 : decode cX5_crossesOn 0 = .ok (.iconst (-1), 1) := by decide +kernel
theorem dX5_crossesOn_1 : decode cX5_crossesOn 1 = .ok (.istore_n 3, 1) := by decide +kernel
theorem dX5_crossesOn_2 : decode cX5_crossesOn 2 = .ok (.iconst 0, 1) := by decide +kernel
theorem dX5_crossesOn_3 : decode cX5_crossesOn 3 = .ok (.istore 4, 2) := by decide +kernel
theorem dX5_crossesOn_5 : decode cX5_crossesOn 5 = .ok (.iload 4, 2) := by decide +kernel
theorem dX5_crossesOn_7 : decode cX5_crossesOn 7 = .ok (.iload_n 2, 1) := by decide +kernel
theorem dX5_crossesOn_8 : decode cX5_crossesOn 8 = .ok (.if_icmp .ge 44, 3) := by decide +kernel
theorem dX5_crossesOn_11 : decode cX5_crossesOn 11 = .ok (.aload_n 0, 1) := by decide +kernel
theorem dX5_crossesOn_12 : decode cX5_crossesOn 12 = .ok (.getfield 21, 3) := by decide +kernel
theorem dX5_crossesOn_15 : decode cX5_crossesOn 15 = .ok (.iload_n 1, 1) := by decide +kernel
theorem dX5_crossesOn_16 : decode cX5_crossesOn 16 = .ok (.bipush 12, 2) := by decide +kernel
theorem dX5_crossesOn_18 : decode cX5_crossesOn 18 = .ok (.imul, 1) := by decide +kernel
theorem dX5_crossesOn_19 : decode cX5_crossesOn 19 = .ok (.iload 4, 2) := by decide +kernel
theorem dX5_crossesOn_21 : decode cX5_crossesOn 21 = .ok (.iadd, 1) := by decide +kernel
theorem dX5_crossesOn_22 : decode cX5_crossesOn 22 = .ok (.iaload, 1) := by decide +kernel
theorem dX5_crossesOn_23 : decode cX5_crossesOn 23 = .ok (.istore 5, 2) := by decide +kernel
theorem dX5_crossesOn_25 : decode cX5_crossesOn 25 = .ok (.iload 5, 2) := by decide +kernel
theorem dX5_crossesOn_27 : decode cX5_crossesOn 27 = .ok (.iconst (-1), 1) := by decide +kernel
theorem dX5_crossesOn_28 : decode cX5_crossesOn 28 = .ok (.if_icmp .eq 11, 3) := by decide +kernel
theorem dX5_crossesOn_31 : decode cX5_crossesOn 31 = .ok (.iload 5, 2) := by decide +kernel
theorem dX5_crossesOn_33 : decode cX5_crossesOn 33 = .ok (.iload_n 3, 1) := by decide +kernel
theorem dX5_crossesOn_34 : decode cX5_crossesOn 34 = .ok (.if_icmp .gt 5, 3) := by decide +kernel
theorem dX5_crossesOn_37 : decode cX5_crossesOn 37 = .ok (.iconst 1, 1) := by decide +kernel
theorem dX5_crossesOn_38 : decode cX5_crossesOn 38 = .ok (.ireturn, 1) := by decide +kernel
theorem dX5_crossesOn_39 : decode cX5_crossesOn 39 = .ok (.iload_n 3, 1) := by decide +kernel
theorem dX5_crossesOn_40 : decode cX5_crossesOn 40 = .ok (.iload 5, 2) := by decide +kernel
theorem dX5_crossesOn_42 : decode cX5_crossesOn 42 = .ok (.invokestatic 84, 3) := by decide +kernel
theorem dX5_crossesOn_45 : decode cX5_crossesOn 45 = .ok (.istore_n 3, 1) := by decide +kernel
theorem dX5_crossesOn_46 : decode cX5_crossesOn 46 = .ok (.iinc 4 1, 3) := by decide +kernel
theorem dX5_crossesOn_49 : decode cX5_crossesOn 49 = .ok (.goto (-44), 3) := by decide +kernel
theorem dX5_crossesOn_52 : decode cX5_crossesOn 52 = .ok (.iconst 0, 1) := by decide +kernel
theorem dX5_crossesOn_53 : decode cX5_crossesOn 53 = .ok (.ireturn, 1) := by decide +kernel
theorem dX5_draw_0 : decode cX5_draw 0 = .ok (.aload_n 0, 1) := by decide +kernel
theorem dX5_draw_1 : decode cX5_draw 1 = .ok (.iconst 0, 1) := by decide +kernel
theorem dX5_draw_2 : decode cX5_draw 2 = .ok (.putfield 64, 3) := by decide +kernel
theorem dX5_draw_5 : decode cX5_draw 5 = .ok (.iconst 0, 1) := by decide +kernel
theorem dX5_draw_6 : decode cX5_draw 6 = .ok (.istore 5, 2) := by decide +kernel
theorem dX5_draw_8 : decode cX5_draw 8 = .ok (.iconst 0, 1) := by decide +kernel
theorem dX5_draw_9 : decode cX5_draw 9 = .ok (.istore 6, 2) := by decide +kernel
theorem dX5_draw_11 : decode cX5_draw 11 = .ok (.aload_n 1, 1) := by decide +kernel
theorem dX5_draw_12 : decode cX5_draw 12 = .ok (.getfield 40, 3) := by decide +kernel
theorem dX5_draw_15 : decode cX5_draw 15 = .ok (.iload_n 3, 1) := by decide +kernel
theorem dX5_draw_16 : decode cX5_draw 16 = .ok (.aaload, 1) := by decide +kernel
theorem dX5_draw_17 : decode cX5_draw 17 = .ok (.getfield 67, 3) := by decide +kernel
theorem dX5_draw_20 : decode cX5_draw 20 = .ok (.istore 7, 2) := by decide +kernel
theorem dX5_draw_22 : decode cX5_draw 22 = .ok (.aload_n 1, 1) := by decide +kernel
theorem dX5_draw_23 : decode cX5_draw 23 = .ok (.getfield 40, 3) := by decide +kernel
theorem dX5_draw_26 : decode cX5_draw 26 = .ok (.iload 4, 2) := by decide +kernel
theorem dX5_draw_28 : decode cX5_draw 28 = .ok (.aaload, 1) := by decide +kernel
theorem dX5_draw_29 : decode cX5_draw 29 = .ok (.getfield 67, 3) := by decide +kernel
theorem dX5_draw_32 : decode cX5_draw 32 = .ok (.istore 8, 2) := by decide +kernel
theorem dX5_draw_34 : decode cX5_draw 34 = .ok (.iconst 0, 1) := by decide +kernel
theorem dX5_draw_35 : decode cX5_draw 35 = .ok (.istore 9, 2) := by decide +kernel
theorem dX5_draw_37 : decode cX5_draw 37 = .ok (.iload 9, 2) := by decide +kernel
theorem dX5_draw_39 : decode cX5_draw 39 = .ok (.iload 7, 2) := by decide +kernel
theorem dX5_draw_41 : decode cX5_draw 41 = .ok (.iload 8, 2) := by decide +kernel
theorem dX5_draw_43 : decode cX5_draw 43 = .ok (.iadd, 1) := by decide +kernel
theorem dX5_draw_44 : decode cX5_draw 44 = .ok (.if_icmp .ge 105, 3) := by decide +kernel
theorem dX5_draw_47 : decode cX5_draw 47 = .ok (.iload 5, 2) := by decide +kernel
theorem dX5_draw_49 : decode cX5_draw 49 = .ok (.iload 7, 2) := by decide +kernel
theorem dX5_draw_51 : decode cX5_draw 51 = .ok (.if_icmp .ge 30, 3) := by decide +kernel
theorem dX5_draw_54 : decode cX5_draw 54 = .ok (.aload_n 0, 1) := by decide +kernel
theorem dX5_draw_55 : decode cX5_draw 55 = .ok (.aload_n 2, 1) := by decide +kernel
theorem dX5_draw_56 : decode cX5_draw 56 = .ok (.iload_n 3, 1) := by decide +kernel
theorem dX5_draw_57 : decode cX5_draw 57 = .ok (.iload 4, 2) := by decide +kernel
theorem dX5_draw_59 : decode cX5_draw 59 = .ok (.iload 5, 2) := by decide +kernel
theorem dX5_draw_61 : decode cX5_draw 61 = .ok (.invokevirtual 72, 3) := by decide +kernel
theorem dX5_draw_64 : decode cX5_draw 64 = .ok (.iconst (-1), 1) := by decide +kernel
theorem dX5_draw_65 : decode cX5_draw 65 = .ok (.if_icmp .ne 16, 3) := by decide +kernel
theorem dX5_draw_68 : decode cX5_draw 68 = .ok (.aload_n 0, 1) := by decide +kernel
theorem dX5_draw_69 : decode cX5_draw 69 = .ok (.iload 5, 2) := by decide +kernel
theorem dX5_draw_71 : decode cX5_draw 71 = .ok (.iconst (-1), 1) := by decide +kernel
theorem dX5_draw_72 : decode cX5_draw 72 = .ok (.invokevirtual 76, 3) := by decide +kernel
theorem dX5_draw_75 : decode cX5_draw 75 = .ok (.iinc 5 1, 3) := by decide +kernel
theorem dX5_draw_78 : decode cX5_draw 78 = .ok (.goto 65, 3) := by decide +kernel
theorem dX5_draw_81 : decode cX5_draw 81 = .ok (.iload 6, 2) := by decide +kernel
theorem dX5_draw_83 : decode cX5_draw 83 = .ok (.iload 8, 2) := by decide +kernel
theorem dX5_draw_85 : decode cX5_draw 85 = .ok (.if_icmp .ge 30, 3) := by decide +kernel
theorem dX5_draw_88 : decode cX5_draw 88 = .ok (.aload_n 0, 1) := by decide +kernel
theorem dX5_draw_89 : decode cX5_draw 89 = .ok (.aload_n 2, 1) := by decide +kernel
theorem dX5_draw_90 : decode cX5_draw 90 = .ok (.iload 4, 2) := by decide +kernel
theorem dX5_draw_92 : decode cX5_draw 92 = .ok (.iload_n 3, 1) := by decide +kernel
theorem dX5_draw_93 : decode cX5_draw 93 = .ok (.iload 6, 2) := by decide +kernel
theorem dX5_draw_95 : decode cX5_draw 95 = .ok (.invokevirtual 72, 3) := by decide +kernel
theorem dX5_draw_98 : decode cX5_draw 98 = .ok (.iconst (-1), 1) := by decide +kernel
theorem dX5_draw_99 : decode cX5_draw 99 = .ok (.if_icmp .ne 16, 3) := by decide +kernel
theorem dX5_draw_102 : decode cX5_draw 102 = .ok (.aload_n 0, 1) := by decide +kernel
theorem dX5_draw_103 : decode cX5_draw 103 = .ok (.iconst (-1), 1) := by decide +kernel
theorem dX5_draw_104 : decode cX5_draw 104 = .ok (.iload 6, 2) := by decide +kernel
theorem dX5_draw_106 : decode cX5_draw 106 = .ok (.invokevirtual 76, 3) := by decide +kernel
theorem dX5_draw_109 : decode cX5_draw 109 = .ok (.iinc 6 1, 3) := by decide +kernel
theorem dX5_draw_112 : decode cX5_draw 112 = .ok (.goto 31, 3) := by decide +kernel
theorem dX5_draw_115 : decode cX5_draw 115 = .ok (.iload 5, 2) := by decide +kernel
theorem dX5_draw_117 : decode cX5_draw 117 = .ok (.iload 7, 2) := by decide +kernel
theorem dX5_draw_119 : decode cX5_draw 119 = .ok (.if_icmp .ge 24, 3) := by decide +kernel
theorem dX5_draw_122 : decode cX5_draw 122 = .ok (.iload 6, 2) := by decide +kernel
theorem dX5_draw_124 : decode cX5_draw 124 = .ok (.iload 8, 2) := by decide +kernel
theorem dX5_draw_126 : decode cX5_draw 126 = .ok (.if_icmp .ge 17, 3) := by decide +kernel
theorem dX5_draw_129 : decode cX5_draw 129 = .ok (.aload_n 0, 1) := by decide +kernel
theorem dX5_draw_130 : decode cX5_draw 130 = .ok (.iload 5, 2) := by decide +kernel
theorem dX5_draw_132 : decode cX5_draw 132 = .ok (.iload 6, 2) := by decide +kernel
theorem dX5_draw_134 : decode cX5_draw 134 = .ok (.invokevirtual 76, 3) := by decide +kernel
theorem dX5_draw_137 : decode cX5_draw 137 = .ok (.iinc 5 1, 3) := by decide +kernel
theorem dX5_draw_140 : decode cX5_draw 140 = .ok (.iinc 6 1, 3) := by decide +kernel
theorem dX5_draw_143 : decode cX5_draw 143 = .ok (.iinc 9 1, 3) := by decide +kernel
theorem dX5_draw_146 : decode cX5_draw 146 = .ok (.goto (-109), 3) := by decide +kernel
theorem dX5_draw_149 : decode cX5_draw 149 = .ok (.return_, 1) := by decide +kernel
theorem dX5_findAll_0 : decode cX5_findAll 0 = .ok (.iconst 0, 1) := by decide +kernel
theorem dX5_findAll_1 : decode cX5_findAll 1 = .ok (.istore 4, 2) := by decide +kernel
theorem dX5_findAll_3 : decode cX5_findAll 3 = .ok (.iload 4, 2) := by decide +kernel
theorem dX5_findAll_5 : decode cX5_findAll 5 = .ok (.aload_n 2, 1) := by decide +kernel
theorem dX5_findAll_6 : decode cX5_findAll 6 = .ok (.getfield 30, 3) := by decide +kernel
theorem dX5_findAll_9 : decode cX5_findAll 9 = .ok (.if_icmp .ge 80, 3) := by decide +kernel
theorem dX5_findAll_12 : decode cX5_findAll 12 = .ok (.aload_n 2, 1) := by decide +kernel
theorem dX5_findAll_13 : decode cX5_findAll 13 = .ok (.getfield 36, 3) := by decide +kernel
theorem dX5_findAll_16 : decode cX5_findAll 16 = .ok (.iload 4, 2) := by decide +kernel
theorem dX5_findAll_18 : decode cX5_findAll 18 = .ok (.baload, 1) := by decide +kernel
theorem dX5_findAll_19 : decode cX5_findAll 19 = .ok (.ifCond .ne 64, 3) := by decide +kernel
theorem dX5_findAll_22 : decode cX5_findAll 22 = .ok (.aload_n 1, 1) := by decide +kernel
theorem dX5_findAll_23 : decode cX5_findAll 23 = .ok (.getfield 40, 3) := by decide +kernel
theorem dX5_findAll_26 : decode cX5_findAll 26 = .ok (.aload_n 2, 1) := by decide +kernel
theorem dX5_findAll_27 : decode cX5_findAll 27 = .ok (.getfield 46, 3) := by decide +kernel
theorem dX5_findAll_30 : decode cX5_findAll 30 = .ok (.iload 4, 2) := by decide +kernel
theorem dX5_findAll_32 : decode cX5_findAll 32 = .ok (.iaload, 1) := by decide +kernel
theorem dX5_findAll_33 : decode cX5_findAll 33 = .ok (.aaload, 1) := by decide +kernel
theorem dX5_findAll_34 : decode cX5_findAll 34 = .ok (.astore 5, 2) := by decide +kernel
theorem dX5_findAll_36 : decode cX5_findAll 36 = .ok (.aload_n 1, 1) := by decide +kernel
theorem dX5_findAll_37 : decode cX5_findAll 37 = .ok (.getfield 40, 3) := by decide +kernel
theorem dX5_findAll_40 : decode cX5_findAll 40 = .ok (.aload_n 2, 1) := by decide +kernel
theorem dX5_findAll_41 : decode cX5_findAll 41 = .ok (.getfield 49, 3) := by decide +kernel
theorem dX5_findAll_44 : decode cX5_findAll 44 = .ok (.iload 4, 2) := by decide +kernel
theorem dX5_findAll_46 : decode cX5_findAll 46 = .ok (.iaload, 1) := by decide +kernel
theorem dX5_findAll_47 : decode cX5_findAll 47 = .ok (.aaload, 1) := by decide +kernel
theorem dX5_findAll_48 : decode cX5_findAll 48 = .ok (.astore 6, 2) := by decide +kernel
theorem dX5_findAll_50 : decode cX5_findAll 50 = .ok (.aload_n 0, 1) := by decide +kernel
theorem dX5_findAll_51 : decode cX5_findAll 51 = .ok (.aload 5, 2) := by decide +kernel
theorem dX5_findAll_53 : decode cX5_findAll 53 = .ok (.aload 6, 2) := by decide +kernel
theorem dX5_findAll_55 : decode cX5_findAll 55 = .ok (.aload_n 3, 1) := by decide +kernel
theorem dX5_findAll_56 : decode cX5_findAll 56 = .ok (.invokevirtual 52, 3) := by decide +kernel
theorem dX5_findAll_59 : decode cX5_findAll 59 = .ok (.aload_n 0, 1) := by decide +kernel
theorem dX5_findAll_60 : decode cX5_findAll 60 = .ok (.getfield 9, 3) := by decide +kernel
theorem dX5_findAll_63 : decode cX5_findAll 63 = .ok (.iload 4, 2) := by decide +kernel
theorem dX5_findAll_65 : decode cX5_findAll 65 = .ok (.aload_n 0, 1) := by decide +kernel
theorem dX5_findAll_66 : decode cX5_findAll 66 = .ok (.getfield 27, 3) := by decide +kernel
theorem dX5_findAll_69 : decode cX5_findAll 69 = .ok (.iconst 0, 1) := by decide +kernel
theorem dX5_findAll_70 : decode cX5_findAll 70 = .ok (.iaload, 1) := by decide +kernel
theorem dX5_findAll_71 : decode cX5_findAll 71 = .ok (.iastore, 1) := by decide +kernel
theorem dX5_findAll_72 : decode cX5_findAll 72 = .ok (.aload_n 0, 1) := by decide +kernel
theorem dX5_findAll_73 : decode cX5_findAll 73 = .ok (.iload 4, 2) := by decide +kernel
theorem dX5_findAll_75 : decode cX5_findAll 75 = .ok (.aload 5, 2) := by decide +kernel
theorem dX5_findAll_77 : decode cX5_findAll 77 = .ok (.aload 6, 2) := by decide +kernel
theorem dX5_findAll_79 : decode cX5_findAll 79 = .ok (.aload_n 3, 1) := by decide +kernel
theorem dX5_findAll_80 : decode cX5_findAll 80 = .ok (.invokevirtual 56, 3) := by decide +kernel
theorem dX5_findAll_83 : decode cX5_findAll 83 = .ok (.iinc 4 1, 3) := by decide +kernel
theorem dX5_findAll_86 : decode cX5_findAll 86 = .ok (.goto (-83), 3) := by decide +kernel
theorem dX5_findAll_89 : decode cX5_findAll 89 = .ok (.return_, 1) := by decide +kernel
theorem dX5_init_0 : decode cX5_init 0 = .ok (.aload_n 0, 1) := by decide +kernel
theorem dX5_init_1 : decode cX5_init 1 = .ok (.invokespecial 3, 3) := by decide +kernel
theorem dX5_init_4 : decode cX5_init 4 = .ok (.aload_n 0, 1) := by decide +kernel
theorem dX5_init_5 : decode cX5_init 5 = .ok (.bipush 42, 2) := by decide +kernel
theorem dX5_init_7 : decode cX5_init 7 = .ok (.newarray .int, 2) := by decide +kernel
theorem dX5_init_9 : decode cX5_init 9 = .ok (.putfield 9, 3) := by decide +kernel
theorem dX5_init_12 : decode cX5_init 12 = .ok (.aload_n 0, 1) := by decide +kernel
theorem dX5_init_13 : decode cX5_init 13 = .ok (.bipush 24, 2) := by decide +kernel
theorem dX5_init_15 : decode cX5_init 15 = .ok (.newarray .int, 2) := by decide +kernel
theorem dX5_init_17 : decode cX5_init 17 = .ok (.putfield 15, 3) := by decide +kernel
theorem dX5_init_20 : decode cX5_init 20 = .ok (.aload_n 0, 1) := by decide +kernel
theorem dX5_init_21 : decode cX5_init 21 = .ok (.bipush 24, 2) := by decide +kernel
theorem dX5_init_23 : decode cX5_init 23 = .ok (.newarray .int, 2) := by decide +kernel
theorem dX5_init_25 : decode cX5_init 25 = .ok (.putfield 18, 3) := by decide +kernel
theorem dX5_init_28 : decode cX5_init 28 = .ok (.aload_n 0, 1) := by decide +kernel
theorem dX5_init_29 : decode cX5_init 29 = .ok (.sipush 504, 3) := by decide +kernel
theorem dX5_init_32 : decode cX5_init 32 = .ok (.newarray .int, 2) := by decide +kernel
theorem dX5_init_34 : decode cX5_init 34 = .ok (.putfield 21, 3) := by decide +kernel
theorem dX5_init_37 : decode cX5_init 37 = .ok (.aload_n 0, 1) := by decide +kernel
theorem dX5_init_38 : decode cX5_init 38 = .ok (.sipush 504, 3) := by decide +kernel
theorem dX5_init_41 : decode cX5_init 41 = .ok (.newarray .int, 2) := by decide +kernel
theorem dX5_init_43 : decode cX5_init 43 = .ok (.putfield 24, 3) := by decide +kernel
theorem dX5_init_46 : decode cX5_init 46 = .ok (.aload_n 0, 1) := by decide +kernel
theorem dX5_init_47 : decode cX5_init 47 = .ok (.sipush 169, 3) := by decide +kernel
theorem dX5_init_50 : decode cX5_init 50 = .ok (.newarray .int, 2) := by decide +kernel
theorem dX5_init_52 : decode cX5_init 52 = .ok (.putfield 27, 3) := by decide +kernel
theorem dX5_init_55 : decode cX5_init 55 = .ok (.return_, 1) := by decide +kernel
theorem dX5_leastFrom_0 : decode cX5_leastFrom 0 = .ok (.iload_n 2, 1) := by decide +kernel
theorem dX5_leastFrom_1 : decode cX5_leastFrom 1 = .ok (.aload_n 1, 1) := by decide +kernel
theorem dX5_leastFrom_2 : decode cX5_leastFrom 2 = .ok (.getfield 67, 3) := by decide +kernel
theorem dX5_leastFrom_5 : decode cX5_leastFrom 5 = .ok (.if_icmp .lt 14, 3) := by decide +kernel
theorem dX5_leastFrom_8 : decode cX5_leastFrom 8 = .ok (.iload 4, 2) := by decide +kernel
theorem dX5_leastFrom_10 : decode cX5_leastFrom 10 = .ok (.aload_n 3, 1) := by decide +kernel
theorem dX5_leastFrom_11 : decode cX5_leastFrom 11 = .ok (.getfield 67, 3) := by decide +kernel
theorem dX5_leastFrom_14 : decode cX5_leastFrom 14 = .ok (.if_icmp .lt 5, 3) := by decide +kernel
theorem dX5_leastFrom_17 : decode cX5_leastFrom 17 = .ok (.iconst 0, 1) := by decide +kernel
theorem dX5_leastFrom_18 : decode cX5_leastFrom 18 = .ok (.ireturn, 1) := by decide +kernel
theorem dX5_leastFrom_19 : decode cX5_leastFrom 19 = .ok (.iload_n 2, 1) := by decide +kernel
theorem dX5_leastFrom_20 : decode cX5_leastFrom 20 = .ok (.aload_n 1, 1) := by decide +kernel
theorem dX5_leastFrom_21 : decode cX5_leastFrom 21 = .ok (.getfield 67, 3) := by decide +kernel
theorem dX5_leastFrom_24 : decode cX5_leastFrom 24 = .ok (.if_icmp .lt 26, 3) := by decide +kernel
theorem dX5_leastFrom_27 : decode cX5_leastFrom 27 = .ok (.aload_n 3, 1) := by decide +kernel
theorem dX5_leastFrom_28 : decode cX5_leastFrom 28 = .ok (.getfield 93, 3) := by decide +kernel
theorem dX5_leastFrom_31 : decode cX5_leastFrom 31 = .ok (.iload 4, 2) := by decide +kernel
theorem dX5_leastFrom_33 : decode cX5_leastFrom 33 = .ok (.iaload, 1) := by decide +kernel
theorem dX5_leastFrom_34 : decode cX5_leastFrom 34 = .ok (.aload_n 0, 1) := by decide +kernel
theorem dX5_leastFrom_35 : decode cX5_leastFrom 35 = .ok (.getfield 27, 3) := by decide +kernel
theorem dX5_leastFrom_38 : decode cX5_leastFrom 38 = .ok (.iload_n 2, 1) := by decide +kernel
theorem dX5_leastFrom_39 : decode cX5_leastFrom 39 = .ok (.bipush 13, 2) := by decide +kernel
theorem dX5_leastFrom_41 : decode cX5_leastFrom 41 = .ok (.imul, 1) := by decide +kernel
theorem dX5_leastFrom_42 : decode cX5_leastFrom 42 = .ok (.iload 4, 2) := by decide +kernel
theorem dX5_leastFrom_44 : decode cX5_leastFrom 44 = .ok (.iadd, 1) := by decide +kernel
theorem dX5_leastFrom_45 : decode cX5_leastFrom 45 = .ok (.iconst 1, 1) := by decide +kernel
theorem dX5_leastFrom_46 : decode cX5_leastFrom 46 = .ok (.iadd, 1) := by decide +kernel
theorem dX5_leastFrom_47 : decode cX5_leastFrom 47 = .ok (.iaload, 1) := by decide +kernel
theorem dX5_leastFrom_48 : decode cX5_leastFrom 48 = .ok (.iadd, 1) := by decide +kernel
theorem dX5_leastFrom_49 : decode cX5_leastFrom 49 = .ok (.ireturn, 1) := by decide +kernel
theorem dX5_leastFrom_50 : decode cX5_leastFrom 50 = .ok (.aload_n 1, 1) := by decide +kernel
theorem dX5_leastFrom_51 : decode cX5_leastFrom 51 = .ok (.getfield 93, 3) := by decide +kernel
theorem dX5_leastFrom_54 : decode cX5_leastFrom 54 = .ok (.iload_n 2, 1) := by decide +kernel
theorem dX5_leastFrom_55 : decode cX5_leastFrom 55 = .ok (.iaload, 1) := by decide +kernel
theorem dX5_leastFrom_56 : decode cX5_leastFrom 56 = .ok (.aload_n 0, 1) := by decide +kernel
theorem dX5_leastFrom_57 : decode cX5_leastFrom 57 = .ok (.getfield 27, 3) := by decide +kernel
theorem dX5_leastFrom_60 : decode cX5_leastFrom 60 = .ok (.iload_n 2, 1) := by decide +kernel
theorem dX5_leastFrom_61 : decode cX5_leastFrom 61 = .ok (.iconst 1, 1) := by decide +kernel
theorem dX5_leastFrom_62 : decode cX5_leastFrom 62 = .ok (.iadd, 1) := by decide +kernel
theorem dX5_leastFrom_63 : decode cX5_leastFrom 63 = .ok (.bipush 13, 2) := by decide +kernel
theorem dX5_leastFrom_65 : decode cX5_leastFrom 65 = .ok (.imul, 1) := by decide +kernel
theorem dX5_leastFrom_66 : decode cX5_leastFrom 66 = .ok (.iload 4, 2) := by decide +kernel
theorem dX5_leastFrom_68 : decode cX5_leastFrom 68 = .ok (.iadd, 1) := by decide +kernel
theorem dX5_leastFrom_69 : decode cX5_leastFrom 69 = .ok (.iaload, 1) := by decide +kernel
theorem dX5_leastFrom_70 : decode cX5_leastFrom 70 = .ok (.iadd, 1) := by decide +kernel
theorem dX5_leastFrom_71 : decode cX5_leastFrom 71 = .ok (.istore 6, 2) := by decide +kernel
theorem dX5_leastFrom_73 : decode cX5_leastFrom 73 = .ok (.iload 4, 2) := by decide +kernel
theorem dX5_leastFrom_75 : decode cX5_leastFrom 75 = .ok (.aload_n 3, 1) := by decide +kernel
theorem dX5_leastFrom_76 : decode cX5_leastFrom 76 = .ok (.getfield 67, 3) := by decide +kernel
theorem dX5_leastFrom_79 : decode cX5_leastFrom 79 = .ok (.if_icmp .ge 66, 3) := by decide +kernel
theorem dX5_leastFrom_82 : decode cX5_leastFrom 82 = .ok (.iload 6, 2) := by decide +kernel
theorem dX5_leastFrom_84 : decode cX5_leastFrom 84 = .ok (.aload_n 3, 1) := by decide +kernel
theorem dX5_leastFrom_85 : decode cX5_leastFrom 85 = .ok (.getfield 93, 3) := by decide +kernel
theorem dX5_leastFrom_88 : decode cX5_leastFrom 88 = .ok (.iload 4, 2) := by decide +kernel
theorem dX5_leastFrom_90 : decode cX5_leastFrom 90 = .ok (.iaload, 1) := by decide +kernel
theorem dX5_leastFrom_91 : decode cX5_leastFrom 91 = .ok (.aload_n 0, 1) := by decide +kernel
theorem dX5_leastFrom_92 : decode cX5_leastFrom 92 = .ok (.getfield 27, 3) := by decide +kernel
theorem dX5_leastFrom_95 : decode cX5_leastFrom 95 = .ok (.iload_n 2, 1) := by decide +kernel
theorem dX5_leastFrom_96 : decode cX5_leastFrom 96 = .ok (.bipush 13, 2) := by decide +kernel
theorem dX5_leastFrom_98 : decode cX5_leastFrom 98 = .ok (.imul, 1) := by decide +kernel
theorem dX5_leastFrom_99 : decode cX5_leastFrom 99 = .ok (.iload 4, 2) := by decide +kernel
theorem dX5_leastFrom_101 : decode cX5_leastFrom 101 = .ok (.iadd, 1) := by decide +kernel
theorem dX5_leastFrom_102 : decode cX5_leastFrom 102 = .ok (.iconst 1, 1) := by decide +kernel
theorem dX5_leastFrom_103 : decode cX5_leastFrom 103 = .ok (.iadd, 1) := by decide +kernel
theorem dX5_leastFrom_104 : decode cX5_leastFrom 104 = .ok (.iaload, 1) := by decide +kernel
theorem dX5_leastFrom_105 : decode cX5_leastFrom 105 = .ok (.iadd, 1) := by decide +kernel
theorem dX5_leastFrom_106 : decode cX5_leastFrom 106 = .ok (.invokestatic 96, 3) := by decide +kernel
theorem dX5_leastFrom_109 : decode cX5_leastFrom 109 = .ok (.istore 6, 2) := by decide +kernel
theorem dX5_leastFrom_111 : decode cX5_leastFrom 111 = .ok (.iload 6, 2) := by decide +kernel
theorem dX5_leastFrom_113 : decode cX5_leastFrom 113 = .ok (.aload_n 1, 1) := by decide +kernel
theorem dX5_leastFrom_114 : decode cX5_leastFrom 114 = .ok (.iload_n 2, 1) := by decide +kernel
theorem dX5_leastFrom_115 : decode cX5_leastFrom 115 = .ok (.aload_n 3, 1) := by decide +kernel
theorem dX5_leastFrom_116 : decode cX5_leastFrom 116 = .ok (.iload 4, 2) := by decide +kernel
theorem dX5_leastFrom_118 : decode cX5_leastFrom 118 = .ok (.aload 5, 2) := by decide +kernel
theorem dX5_leastFrom_120 : decode cX5_leastFrom 120 = .ok (.invokestatic 99, 3) := by decide +kernel
theorem dX5_leastFrom_123 : decode cX5_leastFrom 123 = .ok (.aload_n 0, 1) := by decide +kernel
theorem dX5_leastFrom_124 : decode cX5_leastFrom 124 = .ok (.getfield 27, 3) := by decide +kernel
theorem dX5_leastFrom_127 : decode cX5_leastFrom 127 = .ok (.iload_n 2, 1) := by decide +kernel
theorem dX5_leastFrom_128 : decode cX5_leastFrom 128 = .ok (.iconst 1, 1) := by decide +kernel
theorem dX5_leastFrom_129 : decode cX5_leastFrom 129 = .ok (.iadd, 1) := by decide +kernel
theorem dX5_leastFrom_130 : decode cX5_leastFrom 130 = .ok (.bipush 13, 2) := by decide +kernel
theorem dX5_leastFrom_132 : decode cX5_leastFrom 132 = .ok (.imul, 1) := by decide +kernel
theorem dX5_leastFrom_133 : decode cX5_leastFrom 133 = .ok (.iload 4, 2) := by decide +kernel
theorem dX5_leastFrom_135 : decode cX5_leastFrom 135 = .ok (.iadd, 1) := by decide +kernel
theorem dX5_leastFrom_136 : decode cX5_leastFrom 136 = .ok (.iconst 1, 1) := by decide +kernel
theorem dX5_leastFrom_137 : decode cX5_leastFrom 137 = .ok (.iadd, 1) := by decide +kernel
theorem dX5_leastFrom_138 : decode cX5_leastFrom 138 = .ok (.iaload, 1) := by decide +kernel
theorem dX5_leastFrom_139 : decode cX5_leastFrom 139 = .ok (.iadd, 1) := by decide +kernel
theorem dX5_leastFrom_140 : decode cX5_leastFrom 140 = .ok (.invokestatic 96, 3) := by decide +kernel
theorem dX5_leastFrom_143 : decode cX5_leastFrom 143 = .ok (.istore 6, 2) := by decide +kernel
theorem dX5_leastFrom_145 : decode cX5_leastFrom 145 = .ok (.iload 6, 2) := by decide +kernel
theorem dX5_leastFrom_147 : decode cX5_leastFrom 147 = .ok (.ireturn, 1) := by decide +kernel
theorem dX5_pairCost_0 : decode cX5_pairCost 0 = .ok (.aload_n 0, 1) := by decide +kernel
theorem dX5_pairCost_1 : decode cX5_pairCost 1 = .ok (.getfield 93, 3) := by decide +kernel
theorem dX5_pairCost_4 : decode cX5_pairCost 4 = .ok (.iload_n 1, 1) := by decide +kernel
theorem dX5_pairCost_5 : decode cX5_pairCost 5 = .ok (.iaload, 1) := by decide +kernel
theorem dX5_pairCost_6 : decode cX5_pairCost 6 = .ok (.aload_n 2, 1) := by decide +kernel
theorem dX5_pairCost_7 : decode cX5_pairCost 7 = .ok (.getfield 93, 3) := by decide +kernel
theorem dX5_pairCost_10 : decode cX5_pairCost 10 = .ok (.iload_n 3, 1) := by decide +kernel
theorem dX5_pairCost_11 : decode cX5_pairCost 11 = .ok (.iaload, 1) := by decide +kernel
theorem dX5_pairCost_12 : decode cX5_pairCost 12 = .ok (.isub, 1) := by decide +kernel
theorem dX5_pairCost_13 : decode cX5_pairCost 13 = .ok (.invokestatic 105, 3) := by decide +kernel
theorem dX5_pairCost_16 : decode cX5_pairCost 16 = .ok (.istore 5, 2) := by decide +kernel
theorem dX5_pairCost_18 : decode cX5_pairCost 18 = .ok (.aload_n 0, 1) := by decide +kernel
theorem dX5_pairCost_19 : decode cX5_pairCost 19 = .ok (.getfield 109, 3) := by decide +kernel
theorem dX5_pairCost_22 : decode cX5_pairCost 22 = .ok (.iload_n 1, 1) := by decide +kernel
theorem dX5_pairCost_23 : decode cX5_pairCost 23 = .ok (.iaload, 1) := by decide +kernel
theorem dX5_pairCost_24 : decode cX5_pairCost 24 = .ok (.aload_n 2, 1) := by decide +kernel
theorem dX5_pairCost_25 : decode cX5_pairCost 25 = .ok (.getfield 109, 3) := by decide +kernel
theorem dX5_pairCost_28 : decode cX5_pairCost 28 = .ok (.iload_n 3, 1) := by decide +kernel
theorem dX5_pairCost_29 : decode cX5_pairCost 29 = .ok (.iaload, 1) := by decide +kernel
theorem dX5_pairCost_30 : decode cX5_pairCost 30 = .ok (.if_icmp .eq 36, 3) := by decide +kernel
theorem dX5_pairCost_33 : decode cX5_pairCost 33 = .ok (.iload 5, 2) := by decide +kernel
theorem dX5_pairCost_35 : decode cX5_pairCost 35 = .ok (.bipush 100, 2) := by decide +kernel
theorem dX5_pairCost_37 : decode cX5_pairCost 37 = .ok (.bipush 50, 2) := by decide +kernel
theorem dX5_pairCost_39 : decode cX5_pairCost 39 = .ok (.aload 4, 2) := by decide +kernel
theorem dX5_pairCost_41 : decode cX5_pairCost 41 = .ok (.aload_n 0, 1) := by decide +kernel
theorem dX5_pairCost_42 : decode cX5_pairCost 42 = .ok (.getfield 109, 3) := by decide +kernel
theorem dX5_pairCost_45 : decode cX5_pairCost 45 = .ok (.iload_n 1, 1) := by decide +kernel
theorem dX5_pairCost_46 : decode cX5_pairCost 46 = .ok (.iaload, 1) := by decide +kernel
theorem dX5_pairCost_47 : decode cX5_pairCost 47 = .ok (.iaload, 1) := by decide +kernel
theorem dX5_pairCost_48 : decode cX5_pairCost 48 = .ok (.aload 4, 2) := by decide +kernel
theorem dX5_pairCost_50 : decode cX5_pairCost 50 = .ok (.aload_n 2, 1) := by decide +kernel
theorem dX5_pairCost_51 : decode cX5_pairCost 51 = .ok (.getfield 109, 3) := by decide +kernel
theorem dX5_pairCost_54 : decode cX5_pairCost 54 = .ok (.iload_n 3, 1) := by decide +kernel
theorem dX5_pairCost_55 : decode cX5_pairCost 55 = .ok (.iaload, 1) := by decide +kernel
theorem dX5_pairCost_56 : decode cX5_pairCost 56 = .ok (.iaload, 1) := by decide +kernel
theorem dX5_pairCost_57 : decode cX5_pairCost 57 = .ok (.isub, 1) := by decide +kernel
theorem dX5_pairCost_58 : decode cX5_pairCost 58 = .ok (.invokestatic 105, 3) := by decide +kernel
theorem dX5_pairCost_61 : decode cX5_pairCost 61 = .ok (.imul, 1) := by decide +kernel
theorem dX5_pairCost_62 : decode cX5_pairCost 62 = .ok (.iadd, 1) := by decide +kernel
theorem dX5_pairCost_63 : decode cX5_pairCost 63 = .ok (.iadd, 1) := by decide +kernel
theorem dX5_pairCost_64 : decode cX5_pairCost 64 = .ok (.istore 5, 2) := by decide +kernel
theorem dX5_pairCost_66 : decode cX5_pairCost 66 = .ok (.iload 5, 2) := by decide +kernel
theorem dX5_pairCost_68 : decode cX5_pairCost 68 = .ok (.ireturn, 1) := by decide +kernel
theorem dX5_partner_0 : decode cX5_partner 0 = .ok (.aload_n 1, 1) := by decide +kernel
theorem dX5_partner_1 : decode cX5_partner 1 = .ok (.iload_n 2, 1) := by decide +kernel
theorem dX5_partner_2 : decode cX5_partner 2 = .ok (.iload_n 3, 1) := by decide +kernel
theorem dX5_partner_3 : decode cX5_partner 3 = .ok (.invokevirtual 60, 3) := by decide +kernel
theorem dX5_partner_6 : decode cX5_partner 6 = .ok (.istore 5, 2) := by decide +kernel
theorem dX5_partner_8 : decode cX5_partner 8 = .ok (.iload 5, 2) := by decide +kernel
theorem dX5_partner_10 : decode cX5_partner 10 = .ok (.iconst (-1), 1) := by decide +kernel
theorem dX5_partner_11 : decode cX5_partner 11 = .ok (.if_icmp .ne 5, 3) := by decide +kernel
theorem dX5_partner_14 : decode cX5_partner 14 = .ok (.iconst (-1), 1) := by decide +kernel
theorem dX5_partner_15 : decode cX5_partner 15 = .ok (.ireturn, 1) := by decide +kernel
theorem dX5_partner_16 : decode cX5_partner 16 = .ok (.iload_n 2, 1) := by decide +kernel
theorem dX5_partner_17 : decode cX5_partner 17 = .ok (.iload_n 3, 1) := by decide +kernel
theorem dX5_partner_18 : decode cX5_partner 18 = .ok (.if_icmp .ge 19, 3) := by decide +kernel
theorem dX5_partner_21 : decode cX5_partner 21 = .ok (.aload_n 0, 1) := by decide +kernel
theorem dX5_partner_22 : decode cX5_partner 22 = .ok (.getfield 21, 3) := by decide +kernel
theorem dX5_partner_25 : decode cX5_partner 25 = .ok (.iload 5, 2) := by decide +kernel
theorem dX5_partner_27 : decode cX5_partner 27 = .ok (.bipush 12, 2) := by decide +kernel
theorem dX5_partner_29 : decode cX5_partner 29 = .ok (.imul, 1) := by decide +kernel
theorem dX5_partner_30 : decode cX5_partner 30 = .ok (.iload 4, 2) := by decide +kernel
theorem dX5_partner_32 : decode cX5_partner 32 = .ok (.iadd, 1) := by decide +kernel
theorem dX5_partner_33 : decode cX5_partner 33 = .ok (.iaload, 1) := by decide +kernel
theorem dX5_partner_34 : decode cX5_partner 34 = .ok (.goto 16, 3) := by decide +kernel
theorem dX5_partner_37 : decode cX5_partner 37 = .ok (.aload_n 0, 1) := by decide +kernel
theorem dX5_partner_38 : decode cX5_partner 38 = .ok (.getfield 24, 3) := by decide +kernel
theorem dX5_partner_41 : decode cX5_partner 41 = .ok (.iload 5, 2) := by decide +kernel
theorem dX5_partner_43 : decode cX5_partner 43 = .ok (.bipush 12, 2) := by decide +kernel
theorem dX5_partner_45 : decode cX5_partner 45 = .ok (.imul, 1) := by decide +kernel
theorem dX5_partner_46 : decode cX5_partner 46 = .ok (.iload 4, 2) := by decide +kernel
theorem dX5_partner_48 : decode cX5_partner 48 = .ok (.iadd, 1) := by decide +kernel
theorem dX5_partner_49 : decode cX5_partner 49 = .ok (.iaload, 1) := by decide +kernel
theorem dX5_partner_50 : decode cX5_partner 50 = .ok (.ireturn, 1) := by decide +kernel
theorem dX5_weigh_0 : decode cX5_weigh 0 = .ok (.aload_n 1, 1) := by decide +kernel
theorem dX5_weigh_1 : decode cX5_weigh 1 = .ok (.getfield 67, 3) := by decide +kernel
theorem dX5_weigh_4 : decode cX5_weigh 4 = .ok (.istore 4, 2) := by decide +kernel
theorem dX5_weigh_6 : decode cX5_weigh 6 = .ok (.iload 4, 2) := by decide +kernel
theorem dX5_weigh_8 : decode cX5_weigh 8 = .ok (.ifCond .lt 50, 3) := by decide +kernel
theorem dX5_weigh_11 : decode cX5_weigh 11 = .ok (.aload_n 2, 1) := by decide +kernel
theorem dX5_weigh_12 : decode cX5_weigh 12 = .ok (.getfield 67, 3) := by decide +kernel
theorem dX5_weigh_15 : decode cX5_weigh 15 = .ok (.istore 5, 2) := by decide +kernel
theorem dX5_weigh_17 : decode cX5_weigh 17 = .ok (.iload 5, 2) := by decide +kernel
theorem dX5_weigh_19 : decode cX5_weigh 19 = .ok (.ifCond .lt 33, 3) := by decide +kernel
theorem dX5_weigh_22 : decode cX5_weigh 22 = .ok (.aload_n 0, 1) := by decide +kernel
theorem dX5_weigh_23 : decode cX5_weigh 23 = .ok (.getfield 27, 3) := by decide +kernel
theorem dX5_weigh_26 : decode cX5_weigh 26 = .ok (.iload 4, 2) := by decide +kernel
theorem dX5_weigh_28 : decode cX5_weigh 28 = .ok (.bipush 13, 2) := by decide +kernel
theorem dX5_weigh_30 : decode cX5_weigh 30 = .ok (.imul, 1) := by decide +kernel
theorem dX5_weigh_31 : decode cX5_weigh 31 = .ok (.iload 5, 2) := by decide +kernel
theorem dX5_weigh_33 : decode cX5_weigh 33 = .ok (.iadd, 1) := by decide +kernel
theorem dX5_weigh_34 : decode cX5_weigh 34 = .ok (.aload_n 0, 1) := by decide +kernel
theorem dX5_weigh_35 : decode cX5_weigh 35 = .ok (.aload_n 1, 1) := by decide +kernel
theorem dX5_weigh_36 : decode cX5_weigh 36 = .ok (.iload 4, 2) := by decide +kernel
theorem dX5_weigh_38 : decode cX5_weigh 38 = .ok (.aload_n 2, 1) := by decide +kernel
theorem dX5_weigh_39 : decode cX5_weigh 39 = .ok (.iload 5, 2) := by decide +kernel
theorem dX5_weigh_41 : decode cX5_weigh 41 = .ok (.aload_n 3, 1) := by decide +kernel
theorem dX5_weigh_42 : decode cX5_weigh 42 = .ok (.invokevirtual 89, 3) := by decide +kernel
theorem dX5_weigh_45 : decode cX5_weigh 45 = .ok (.iastore, 1) := by decide +kernel
theorem dX5_weigh_46 : decode cX5_weigh 46 = .ok (.iinc 5 (-1), 3) := by decide +kernel
theorem dX5_weigh_49 : decode cX5_weigh 49 = .ok (.goto (-32), 3) := by decide +kernel
theorem dX5_weigh_52 : decode cX5_weigh 52 = .ok (.iinc 4 (-1), 3) := by decide +kernel
theorem dX5_weigh_55 : decode cX5_weigh 55 = .ok (.goto (-49), 3) := by decide +kernel
theorem dX5_weigh_58 : decode cX5_weigh 58 = .ok (.return_, 1) := by decide +kernel
theorem dX6_cornerOf_0 : decode cX6_cornerOf 0 = .ok (.aload_n 0, 1) := by decide +kernel
theorem dX6_cornerOf_1 : decode cX6_cornerOf 1 = .ok (.getfield 31, 3) := by decide +kernel
theorem dX6_cornerOf_4 : decode cX6_cornerOf 4 = .ok (.iconst 3, 1) := by decide +kernel
theorem dX6_cornerOf_5 : decode cX6_cornerOf 5 = .ok (.iload_n 1, 1) := by decide +kernel
theorem dX6_cornerOf_6 : decode cX6_cornerOf 6 = .ok (.imul, 1) := by decide +kernel
theorem dX6_cornerOf_7 : decode cX6_cornerOf 7 = .ok (.iload_n 2, 1) := by decide +kernel
theorem dX6_cornerOf_8 : decode cX6_cornerOf 8 = .ok (.iadd, 1) := by decide +kernel
theorem dX6_cornerOf_9 : decode cX6_cornerOf 9 = .ok (.iaload, 1) := by decide +kernel
theorem dX6_cornerOf_10 : decode cX6_cornerOf 10 = .ok (.ireturn, 1) := by decide +kernel
theorem dX6_init_0 : decode cX6_init 0 = .ok (.aload_n 0, 1) := by decide +kernel
theorem dX6_init_1 : decode cX6_init 1 = .ok (.invokespecial 3, 3) := by decide +kernel
theorem dX6_init_4 : decode cX6_init 4 = .ok (.aload_n 0, 1) := by decide +kernel
theorem dX6_init_5 : decode cX6_init 5 = .ok (.bipush 42, 2) := by decide +kernel
theorem dX6_init_7 : decode cX6_init 7 = .ok (.newarray .int, 2) := by decide +kernel
theorem dX6_init_9 : decode cX6_init 9 = .ok (.putfield 9, 3) := by decide +kernel
theorem dX6_init_12 : decode cX6_init 12 = .ok (.aload_n 0, 1) := by decide +kernel
theorem dX6_init_13 : decode cX6_init 13 = .ok (.bipush 42, 2) := by decide +kernel
theorem dX6_init_15 : decode cX6_init 15 = .ok (.newarray .int, 2) := by decide +kernel
theorem dX6_init_17 : decode cX6_init 17 = .ok (.putfield 15, 3) := by decide +kernel
theorem dX6_init_20 : decode cX6_init 20 = .ok (.aload_n 0, 1) := by decide +kernel
theorem dX6_init_21 : decode cX6_init 21 = .ok (.bipush 42, 2) := by decide +kernel
theorem dX6_init_23 : decode cX6_init 23 = .ok (.newarray .boolean, 2) := by decide +kernel
theorem dX6_init_25 : decode cX6_init 25 = .ok (.putfield 18, 3) := by decide +kernel
theorem dX6_init_28 : decode cX6_init 28 = .ok (.aload_n 0, 1) := by decide +kernel
theorem dX6_init_29 : decode cX6_init 29 = .ok (.bipush 27, 2) := by decide +kernel
theorem dX6_init_31 : decode cX6_init 31 = .ok (.newarray .int, 2) := by decide +kernel
theorem dX6_init_33 : decode cX6_init 33 = .ok (.putfield 22, 3) := by decide +kernel
theorem dX6_init_36 : decode cX6_init 36 = .ok (.aload_n 0, 1) := by decide +kernel
theorem dX6_init_37 : decode cX6_init 37 = .ok (.bipush 120, 2) := by decide +kernel
theorem dX6_init_39 : decode cX6_init 39 = .ok (.newarray .int, 2) := by decide +kernel
theorem dX6_init_41 : decode cX6_init 41 = .ok (.putfield 25, 3) := by decide +kernel
theorem dX6_init_44 : decode cX6_init 44 = .ok (.aload_n 0, 1) := by decide +kernel
theorem dX6_init_45 : decode cX6_init 45 = .ok (.sipush 256, 3) := by decide +kernel
theorem dX6_init_48 : decode cX6_init 48 = .ok (.newarray .int, 2) := by decide +kernel
theorem dX6_init_50 : decode cX6_init 50 = .ok (.putfield 28, 3) := by decide +kernel
theorem dX6_init_53 : decode cX6_init 53 = .ok (.aload_n 0, 1) := by decide +kernel
theorem dX6_init_54 : decode cX6_init 54 = .ok (.bipush 81, 2) := by decide +kernel
theorem dX6_init_56 : decode cX6_init 56 = .ok (.newarray .int, 2) := by decide +kernel
theorem dX6_init_58 : decode cX6_init 58 = .ok (.putfield 31, 3) := by decide +kernel
theorem dX6_init_61 : decode cX6_init 61 = .ok (.return_, 1) := by decide +kernel
theorem dX6_insertKey_0 : decode cX6_insertKey 0 = .ok (.aload_n 0, 1) := by decide +kernel
theorem dX6_insertKey_1 : decode cX6_insertKey 1 = .ok (.getfield 45, 3) := by decide +kernel
theorem dX6_insertKey_4 : decode cX6_insertKey 4 = .ok (.bipush 120, 2) := by decide +kernel
theorem dX6_insertKey_6 : decode cX6_insertKey 6 = .ok (.if_icmp .lt 4, 3) := by decide +kernel
theorem dX6_insertKey_9 : decode cX6_insertKey 9 = .ok (.return_, 1) := by decide +kernel
theorem dX6_insertKey_10 : decode cX6_insertKey 10 = .ok (.aload_n 0, 1) := by decide +kernel
theorem dX6_insertKey_11 : decode cX6_insertKey 11 = .ok (.getfield 45, 3) := by decide +kernel
theorem dX6_insertKey_14 : decode cX6_insertKey 14 = .ok (.istore_n 2, 1) := by decide +kernel
theorem dX6_insertKey_15 : decode cX6_insertKey 15 = .ok (.iload_n 2, 1) := by decide +kernel
theorem dX6_insertKey_16 : decode cX6_insertKey 16 = .ok (.ifCond .le 35, 3) := by decide +kernel
theorem dX6_insertKey_19 : decode cX6_insertKey 19 = .ok (.aload_n 0, 1) := by decide +kernel
theorem dX6_insertKey_20 : decode cX6_insertKey 20 = .ok (.getfield 25, 3) := by decide +kernel
theorem dX6_insertKey_23 : decode cX6_insertKey 23 = .ok (.iload_n 2, 1) := by decide +kernel
theorem dX6_insertKey_24 : decode cX6_insertKey 24 = .ok (.iconst 1, 1) := by decide +kernel
theorem dX6_insertKey_25 : decode cX6_insertKey 25 = .ok (.isub, 1) := by decide +kernel
theorem dX6_insertKey_26 : decode cX6_insertKey 26 = .ok (.iaload, 1) := by decide +kernel
theorem dX6_insertKey_27 : decode cX6_insertKey 27 = .ok (.iload_n 1, 1) := by decide +kernel
theorem dX6_insertKey_28 : decode cX6_insertKey 28 = .ok (.if_icmp .le 23, 3) := by decide +kernel
theorem dX6_insertKey_31 : decode cX6_insertKey 31 = .ok (.aload_n 0, 1) := by decide +kernel
theorem dX6_insertKey_32 : decode cX6_insertKey 32 = .ok (.getfield 25, 3) := by decide +kernel
theorem dX6_insertKey_35 : decode cX6_insertKey 35 = .ok (.iload_n 2, 1) := by decide +kernel
theorem dX6_insertKey_36 : decode cX6_insertKey 36 = .ok (.aload_n 0, 1) := by decide +kernel
theorem dX6_insertKey_37 : decode cX6_insertKey 37 = .ok (.getfield 25, 3) := by decide +kernel
theorem dX6_insertKey_40 : decode cX6_insertKey 40 = .ok (.iload_n 2, 1) := by decide +kernel
theorem dX6_insertKey_41 : decode cX6_insertKey 41 = .ok (.iconst 1, 1) := by decide +kernel
theorem dX6_insertKey_42 : decode cX6_insertKey 42 = .ok (.isub, 1) := by decide +kernel
theorem dX6_insertKey_43 : decode cX6_insertKey 43 = .ok (.iaload, 1) := by decide +kernel
theorem dX6_insertKey_44 : decode cX6_insertKey 44 = .ok (.iastore, 1) := by decide +kernel
theorem dX6_insertKey_45 : decode cX6_insertKey 45 = .ok (.iinc 2 (-1), 3) := by decide +kernel
theorem dX6_insertKey_48 : decode cX6_insertKey 48 = .ok (.goto (-33), 3) := by decide +kernel
theorem dX6_insertKey_51 : decode cX6_insertKey 51 = .ok (.aload_n 0, 1) := by decide +kernel
theorem dX6_insertKey_52 : decode cX6_insertKey 52 = .ok (.getfield 25, 3) := by decide +kernel
theorem dX6_insertKey_55 : decode cX6_insertKey 55 = .ok (.iload_n 2, 1) := by decide +kernel
theorem dX6_insertKey_56 : decode cX6_insertKey 56 = .ok (.iload_n 1, 1) := by decide +kernel
theorem dX6_insertKey_57 : decode cX6_insertKey 57 = .ok (.iastore, 1) := by decide +kernel
theorem dX6_insertKey_58 : decode cX6_insertKey 58 = .ok (.aload_n 0, 1) := by decide +kernel
theorem dX6_insertKey_59 : decode cX6_insertKey 59 = .ok (.dup, 1) := by decide +kernel
theorem dX6_insertKey_60 : decode cX6_insertKey 60 = .ok (.getfield 45, 3) := by decide +kernel
theorem dX6_insertKey_63 : decode cX6_insertKey 63 = .ok (.iconst 1, 1) := by decide +kernel
theorem dX6_insertKey_64 : decode cX6_insertKey 64 = .ok (.iadd, 1) := by decide +kernel
theorem dX6_insertKey_65 : decode cX6_insertKey 65 = .ok (.putfield 45, 3) := by decide +kernel
theorem dX6_insertKey_68 : decode cX6_insertKey 68 = .ok (.return_, 1) := by decide +kernel
theorem dX6_isBareTriangle_0 : decode cX6_isBareTriangle 0 = .ok (.aload_n 0, 1) := by decide +kernel
theorem dX6_isBareTriangle_1 : decode cX6_isBareTriangle 1 = .ok (.iload_n 1, 1) := by decide +kernel
theorem dX6_isBareTriangle_2 : decode cX6_isBareTriangle 2 = .ok (.iload_n 2, 1) := by decide +kernel
theorem dX6_isBareTriangle_3 : decode cX6_isBareTriangle 3 = .ok (.iload_n 3, 1) := by decide +kernel
theorem dX6_isBareTriangle_4 : decode cX6_isBareTriangle 4 = .ok (.invokestatic 131, 3) := by decide +kernel
theorem dX6_isBareTriangle_7 : decode cX6_isBareTriangle 7 = .ok (.ifCond .ne 5, 3) := by decide +kernel
theorem dX6_isBareTriangle_10 : decode cX6_isBareTriangle 10 = .ok (.iconst 0, 1) := by decide +kernel
theorem dX6_isBareTriangle_11 : decode cX6_isBareTriangle 11 = .ok (.ireturn, 1) := by decide +kernel
theorem dX6_isBareTriangle_12 : decode cX6_isBareTriangle 12 = .ok (.iconst 0, 1) := by decide +kernel
theorem dX6_isBareTriangle_13 : decode cX6_isBareTriangle 13 = .ok (.istore 4, 2) := by decide +kernel
theorem dX6_isBareTriangle_15 : decode cX6_isBareTriangle 15 = .ok (.iload 4, 2) := by decide +kernel
theorem dX6_isBareTriangle_17 : decode cX6_isBareTriangle 17 = .ok (.aload_n 0, 1) := by decide +kernel
theorem dX6_isBareTriangle_18 : decode cX6_isBareTriangle 18 = .ok (.getfield 49, 3) := by decide +kernel
theorem dX6_isBareTriangle_21 : decode cX6_isBareTriangle 21 = .ok (.if_icmp .ge 72, 3) := by decide +kernel
theorem dX6_isBareTriangle_24 : decode cX6_isBareTriangle 24 = .ok (.iload 4, 2) := by decide +kernel
theorem dX6_isBareTriangle_26 : decode cX6_isBareTriangle 26 = .ok (.iload_n 1, 1) := by decide +kernel
theorem dX6_isBareTriangle_27 : decode cX6_isBareTriangle 27 = .ok (.if_icmp .eq 60, 3) := by decide +kernel
theorem dX6_isBareTriangle_30 : decode cX6_isBareTriangle 30 = .ok (.iload 4, 2) := by decide +kernel
theorem dX6_isBareTriangle_32 : decode cX6_isBareTriangle 32 = .ok (.iload_n 2, 1) := by decide +kernel
theorem dX6_isBareTriangle_33 : decode cX6_isBareTriangle 33 = .ok (.if_icmp .eq 54, 3) := by decide +kernel
theorem dX6_isBareTriangle_36 : decode cX6_isBareTriangle 36 = .ok (.iload 4, 2) := by decide +kernel
theorem dX6_isBareTriangle_38 : decode cX6_isBareTriangle 38 = .ok (.iload_n 3, 1) := by decide +kernel
theorem dX6_isBareTriangle_39 : decode cX6_isBareTriangle 39 = .ok (.if_icmp .eq 48, 3) := by decide +kernel
theorem dX6_isBareTriangle_42 : decode cX6_isBareTriangle 42 = .ok (.aload_n 0, 1) := by decide +kernel
theorem dX6_isBareTriangle_43 : decode cX6_isBareTriangle 43 = .ok (.getfield 54, 3) := by decide +kernel
theorem dX6_isBareTriangle_46 : decode cX6_isBareTriangle 46 = .ok (.iload_n 1, 1) := by decide +kernel
theorem dX6_isBareTriangle_47 : decode cX6_isBareTriangle 47 = .ok (.aaload, 1) := by decide +kernel
theorem dX6_isBareTriangle_48 : decode cX6_isBareTriangle 48 = .ok (.getfield 58, 3) := by decide +kernel
theorem dX6_isBareTriangle_51 : decode cX6_isBareTriangle 51 = .ok (.aload_n 0, 1) := by decide +kernel
theorem dX6_isBareTriangle_52 : decode cX6_isBareTriangle 52 = .ok (.getfield 54, 3) := by decide +kernel
theorem dX6_isBareTriangle_55 : decode cX6_isBareTriangle 55 = .ok (.iload_n 2, 1) := by decide +kernel
theorem dX6_isBareTriangle_56 : decode cX6_isBareTriangle 56 = .ok (.aaload, 1) := by decide +kernel
theorem dX6_isBareTriangle_57 : decode cX6_isBareTriangle 57 = .ok (.getfield 58, 3) := by decide +kernel
theorem dX6_isBareTriangle_60 : decode cX6_isBareTriangle 60 = .ok (.aload_n 0, 1) := by decide +kernel
theorem dX6_isBareTriangle_61 : decode cX6_isBareTriangle 61 = .ok (.getfield 54, 3) := by decide +kernel
theorem dX6_isBareTriangle_64 : decode cX6_isBareTriangle 64 = .ok (.iload_n 3, 1) := by decide +kernel
theorem dX6_isBareTriangle_65 : decode cX6_isBareTriangle 65 = .ok (.aaload, 1) := by decide +kernel
theorem dX6_isBareTriangle_66 : decode cX6_isBareTriangle 66 = .ok (.getfield 58, 3) := by decide +kernel
theorem dX6_isBareTriangle_69 : decode cX6_isBareTriangle 69 = .ok (.aload_n 0, 1) := by decide +kernel
theorem dX6_isBareTriangle_70 : decode cX6_isBareTriangle 70 = .ok (.getfield 54, 3) := by decide +kernel
theorem dX6_isBareTriangle_73 : decode cX6_isBareTriangle 73 = .ok (.iload 4, 2) := by decide +kernel
theorem dX6_isBareTriangle_75 : decode cX6_isBareTriangle 75 = .ok (.aaload, 1) := by decide +kernel
theorem dX6_isBareTriangle_76 : decode cX6_isBareTriangle 76 = .ok (.getfield 58, 3) := by decide +kernel
theorem dX6_isBareTriangle_79 : decode cX6_isBareTriangle 79 = .ok (.invokestatic 141, 3) := by decide +kernel
theorem dX6_isBareTriangle_82 : decode cX6_isBareTriangle 82 = .ok (.ifCond .eq 5, 3) := by decide +kernel
theorem dX6_isBareTriangle_85 : decode cX6_isBareTriangle 85 = .ok (.iconst 0, 1) := by decide +kernel
theorem dX6_isBareTriangle_86 : decode cX6_isBareTriangle 86 = .ok (.ireturn, 1) := by decide +kernel
theorem dX6_isBareTriangle_87 : decode cX6_isBareTriangle 87 = .ok (.iinc 4 1, 3) := by decide +kernel
theorem dX6_isBareTriangle_90 : decode cX6_isBareTriangle 90 = .ok (.goto (-75), 3) := by decide +kernel
theorem dX6_isBareTriangle_93 : decode cX6_isBareTriangle 93 = .ok (.iconst 1, 1) := by decide +kernel
theorem dX6_isBareTriangle_94 : decode cX6_isBareTriangle 94 = .ok (.ireturn, 1) := by decide +kernel
theorem dX6_isBareWay_0 : decode cX6_isBareWay 0 = .ok (.iconst 0, 1) := by decide +kernel
theorem dX6_isBareWay_1 : decode cX6_isBareWay 1 = .ok (.istore_n 3, 1) := by decide +kernel
theorem dX6_isBareWay_2 : decode cX6_isBareWay 2 = .ok (.iload_n 3, 1) := by decide +kernel
theorem dX6_isBareWay_3 : decode cX6_isBareWay 3 = .ok (.aload_n 0, 1) := by decide +kernel
theorem dX6_isBareWay_4 : decode cX6_isBareWay 4 = .ok (.getfield 49, 3) := by decide +kernel
theorem dX6_isBareWay_7 : decode cX6_isBareWay 7 = .ok (.if_icmp .ge 54, 3) := by decide +kernel
theorem dX6_isBareWay_10 : decode cX6_isBareWay 10 = .ok (.iload_n 3, 1) := by decide +kernel
theorem dX6_isBareWay_11 : decode cX6_isBareWay 11 = .ok (.iload_n 1, 1) := by decide +kernel
theorem dX6_isBareWay_12 : decode cX6_isBareWay 12 = .ok (.if_icmp .eq 43, 3) := by decide +kernel
theorem dX6_isBareWay_15 : decode cX6_isBareWay 15 = .ok (.iload_n 3, 1) := by decide +kernel
theorem dX6_isBareWay_16 : decode cX6_isBareWay 16 = .ok (.iload_n 2, 1) := by decide +kernel
theorem dX6_isBareWay_17 : decode cX6_isBareWay 17 = .ok (.if_icmp .eq 38, 3) := by decide +kernel
theorem dX6_isBareWay_20 : decode cX6_isBareWay 20 = .ok (.aload_n 0, 1) := by decide +kernel
theorem dX6_isBareWay_21 : decode cX6_isBareWay 21 = .ok (.getfield 54, 3) := by decide +kernel
theorem dX6_isBareWay_24 : decode cX6_isBareWay 24 = .ok (.iload_n 1, 1) := by decide +kernel
theorem dX6_isBareWay_25 : decode cX6_isBareWay 25 = .ok (.aaload, 1) := by decide +kernel
theorem dX6_isBareWay_26 : decode cX6_isBareWay 26 = .ok (.getfield 58, 3) := by decide +kernel
theorem dX6_isBareWay_29 : decode cX6_isBareWay 29 = .ok (.aload_n 0, 1) := by decide +kernel
theorem dX6_isBareWay_30 : decode cX6_isBareWay 30 = .ok (.getfield 54, 3) := by decide +kernel
theorem dX6_isBareWay_33 : decode cX6_isBareWay 33 = .ok (.iload_n 2, 1) := by decide +kernel
theorem dX6_isBareWay_34 : decode cX6_isBareWay 34 = .ok (.aaload, 1) := by decide +kernel
theorem dX6_isBareWay_35 : decode cX6_isBareWay 35 = .ok (.getfield 58, 3) := by decide +kernel
theorem dX6_isBareWay_38 : decode cX6_isBareWay 38 = .ok (.aload_n 0, 1) := by decide +kernel
theorem dX6_isBareWay_39 : decode cX6_isBareWay 39 = .ok (.getfield 54, 3) := by decide +kernel
theorem dX6_isBareWay_42 : decode cX6_isBareWay 42 = .ok (.iload_n 3, 1) := by decide +kernel
theorem dX6_isBareWay_43 : decode cX6_isBareWay 43 = .ok (.aaload, 1) := by decide +kernel
theorem dX6_isBareWay_44 : decode cX6_isBareWay 44 = .ok (.getfield 58, 3) := by decide +kernel
theorem dX6_isBareWay_47 : decode cX6_isBareWay 47 = .ok (.invokestatic 109, 3) := by decide +kernel
theorem dX6_isBareWay_50 : decode cX6_isBareWay 50 = .ok (.ifCond .eq 5, 3) := by decide +kernel
theorem dX6_isBareWay_53 : decode cX6_isBareWay 53 = .ok (.iconst 0, 1) := by decide +kernel
theorem dX6_isBareWay_54 : decode cX6_isBareWay 54 = .ok (.ireturn, 1) := by decide +kernel
theorem dX6_isBareWay_55 : decode cX6_isBareWay 55 = .ok (.iinc 3 1, 3) := by decide +kernel
theorem dX6_isBareWay_58 : decode cX6_isBareWay 58 = .ok (.goto (-56), 3) := by decide +kernel
theorem dX6_isBareWay_61 : decode cX6_isBareWay 61 = .ok (.iconst 1, 1) := by decide +kernel
theorem dX6_isBareWay_62 : decode cX6_isBareWay 62 = .ok (.ireturn, 1) := by decide +kernel
theorem dX6_joining_0 : decode cX6_joining 0 = .ok (.aload_n 0, 1) := by decide +kernel
theorem dX6_joining_1 : decode cX6_joining 1 = .ok (.getfield 28, 3) := by decide +kernel
theorem dX6_joining_4 : decode cX6_joining 4 = .ok (.iload_n 1, 1) := by decide +kernel
theorem dX6_joining_5 : decode cX6_joining 5 = .ok (.bipush 16, 2) := by decide +kernel
theorem dX6_joining_7 : decode cX6_joining 7 = .ok (.imul, 1) := by decide +kernel
theorem dX6_joining_8 : decode cX6_joining 8 = .ok (.iload_n 2, 1) := by decide +kernel
theorem dX6_joining_9 : decode cX6_joining 9 = .ok (.iadd, 1) := by decide +kernel
theorem dX6_joining_10 : decode cX6_joining 10 = .ok (.iaload, 1) := by decide +kernel
theorem dX6_joining_11 : decode cX6_joining 11 = .ok (.ireturn, 1) := by decide +kernel
theorem dX6_lay_0 : decode cX6_lay 0 = .ok (.aload_n 0, 1) := by decide +kernel
theorem dX6_lay_1 : decode cX6_lay 1 = .ok (.aload_n 1, 1) := by decide +kernel
theorem dX6_lay_2 : decode cX6_lay 2 = .ok (.invokevirtual 34, 3) := by decide +kernel
theorem dX6_lay_5 : decode cX6_lay 5 = .ok (.aload_n 0, 1) := by decide +kernel
theorem dX6_lay_6 : decode cX6_lay 6 = .ok (.aload_n 1, 1) := by decide +kernel
theorem dX6_lay_7 : decode cX6_lay 7 = .ok (.aload_n 2, 1) := by decide +kernel
theorem dX6_lay_8 : decode cX6_lay 8 = .ok (.invokevirtual 38, 3) := by decide +kernel
theorem dX6_lay_11 : decode cX6_lay 11 = .ok (.aload_n 0, 1) := by decide +kernel
theorem dX6_lay_12 : decode cX6_lay 12 = .ok (.aload_n 1, 1) := by decide +kernel
theorem dX6_lay_13 : decode cX6_lay 13 = .ok (.invokevirtual 42, 3) := by decide +kernel
theorem dX6_lay_16 : decode cX6_lay 16 = .ok (.return_, 1) := by decide +kernel
theorem dX6_meetsNoEdge_0 : decode cX6_meetsNoEdge 0 = .ok (.iconst 0, 1) := by decide +kernel
theorem dX6_meetsNoEdge_1 : decode cX6_meetsNoEdge 1 = .ok (.istore 4, 2) := by decide +kernel
theorem dX6_meetsNoEdge_3 : decode cX6_meetsNoEdge 3 = .ok (.iload 4, 2) := by decide +kernel
theorem dX6_meetsNoEdge_5 : decode cX6_meetsNoEdge 5 = .ok (.aload_n 0, 1) := by decide +kernel
theorem dX6_meetsNoEdge_6 : decode cX6_meetsNoEdge 6 = .ok (.getfield 80, 3) := by decide +kernel
theorem dX6_meetsNoEdge_9 : decode cX6_meetsNoEdge 9 = .ok (.if_icmp .ge 109, 3) := by decide +kernel
theorem dX6_meetsNoEdge_12 : decode cX6_meetsNoEdge 12 = .ok (.aload_n 0, 1) := by decide +kernel
theorem dX6_meetsNoEdge_13 : decode cX6_meetsNoEdge 13 = .ok (.getfield 9, 3) := by decide +kernel
theorem dX6_meetsNoEdge_16 : decode cX6_meetsNoEdge 16 = .ok (.iload 4, 2) := by decide +kernel
theorem dX6_meetsNoEdge_18 : decode cX6_meetsNoEdge 18 = .ok (.iaload, 1) := by decide +kernel
theorem dX6_meetsNoEdge_19 : decode cX6_meetsNoEdge 19 = .ok (.istore 5, 2) := by decide +kernel
theorem dX6_meetsNoEdge_21 : decode cX6_meetsNoEdge 21 = .ok (.aload_n 0, 1) := by decide +kernel
theorem dX6_meetsNoEdge_22 : decode cX6_meetsNoEdge 22 = .ok (.getfield 15, 3) := by decide +kernel
theorem dX6_meetsNoEdge_25 : decode cX6_meetsNoEdge 25 = .ok (.iload 4, 2) := by decide +kernel
theorem dX6_meetsNoEdge_27 : decode cX6_meetsNoEdge 27 = .ok (.iaload, 1) := by decide +kernel
theorem dX6_meetsNoEdge_28 : decode cX6_meetsNoEdge 28 = .ok (.istore 6, 2) := by decide +kernel
theorem dX6_meetsNoEdge_30 : decode cX6_meetsNoEdge 30 = .ok (.iload_n 2, 1) := by decide +kernel
theorem dX6_meetsNoEdge_31 : decode cX6_meetsNoEdge 31 = .ok (.iload 5, 2) := by decide +kernel
theorem dX6_meetsNoEdge_33 : decode cX6_meetsNoEdge 33 = .ok (.if_icmp .eq 21, 3) := by decide +kernel
theorem dX6_meetsNoEdge_36 : decode cX6_meetsNoEdge 36 = .ok (.iload_n 2, 1) := by decide +kernel
theorem dX6_meetsNoEdge_37 : decode cX6_meetsNoEdge 37 = .ok (.iload 6, 2) := by decide +kernel
theorem dX6_meetsNoEdge_39 : decode cX6_meetsNoEdge 39 = .ok (.if_icmp .eq 15, 3) := by decide +kernel
theorem dX6_meetsNoEdge_42 : decode cX6_meetsNoEdge 42 = .ok (.iload_n 3, 1) := by decide +kernel
theorem dX6_meetsNoEdge_43 : decode cX6_meetsNoEdge 43 = .ok (.iload 5, 2) := by decide +kernel
theorem dX6_meetsNoEdge_45 : decode cX6_meetsNoEdge 45 = .ok (.if_icmp .eq 9, 3) := by decide +kernel
theorem dX6_meetsNoEdge_48 : decode cX6_meetsNoEdge 48 = .ok (.iload_n 3, 1) := by decide +kernel
theorem dX6_meetsNoEdge_49 : decode cX6_meetsNoEdge 49 = .ok (.iload 6, 2) := by decide +kernel
theorem dX6_meetsNoEdge_51 : decode cX6_meetsNoEdge 51 = .ok (.if_icmp .ne 7, 3) := by decide +kernel
theorem dX6_meetsNoEdge_54 : decode cX6_meetsNoEdge 54 = .ok (.iconst 1, 1) := by decide +kernel
theorem dX6_meetsNoEdge_55 : decode cX6_meetsNoEdge 55 = .ok (.goto 4, 3) := by decide +kernel
theorem dX6_meetsNoEdge_58 : decode cX6_meetsNoEdge 58 = .ok (.iconst 0, 1) := by decide +kernel
theorem dX6_meetsNoEdge_59 : decode cX6_meetsNoEdge 59 = .ok (.istore 7, 2) := by decide +kernel
theorem dX6_meetsNoEdge_61 : decode cX6_meetsNoEdge 61 = .ok (.iload 7, 2) := by decide +kernel
theorem dX6_meetsNoEdge_63 : decode cX6_meetsNoEdge 63 = .ok (.ifCond .ne 49, 3) := by decide +kernel
theorem dX6_meetsNoEdge_66 : decode cX6_meetsNoEdge 66 = .ok (.aload_n 1, 1) := by decide +kernel
theorem dX6_meetsNoEdge_67 : decode cX6_meetsNoEdge 67 = .ok (.getfield 54, 3) := by decide +kernel
theorem dX6_meetsNoEdge_70 : decode cX6_meetsNoEdge 70 = .ok (.iload_n 2, 1) := by decide +kernel
theorem dX6_meetsNoEdge_71 : decode cX6_meetsNoEdge 71 = .ok (.aaload, 1) := by decide +kernel
theorem dX6_meetsNoEdge_72 : decode cX6_meetsNoEdge 72 = .ok (.getfield 58, 3) := by decide +kernel
theorem dX6_meetsNoEdge_75 : decode cX6_meetsNoEdge 75 = .ok (.aload_n 1, 1) := by decide +kernel
theorem dX6_meetsNoEdge_76 : decode cX6_meetsNoEdge 76 = .ok (.getfield 54, 3) := by decide +kernel
theorem dX6_meetsNoEdge_79 : decode cX6_meetsNoEdge 79 = .ok (.iload_n 3, 1) := by decide +kernel
theorem dX6_meetsNoEdge_80 : decode cX6_meetsNoEdge 80 = .ok (.aaload, 1) := by decide +kernel
theorem dX6_meetsNoEdge_81 : decode cX6_meetsNoEdge 81 = .ok (.getfield 58, 3) := by decide +kernel
theorem dX6_meetsNoEdge_84 : decode cX6_meetsNoEdge 84 = .ok (.aload_n 1, 1) := by decide +kernel
theorem dX6_meetsNoEdge_85 : decode cX6_meetsNoEdge 85 = .ok (.getfield 54, 3) := by decide +kernel
theorem dX6_meetsNoEdge_88 : decode cX6_meetsNoEdge 88 = .ok (.iload 5, 2) := by decide +kernel
theorem dX6_meetsNoEdge_90 : decode cX6_meetsNoEdge 90 = .ok (.aaload, 1) := by decide +kernel
theorem dX6_meetsNoEdge_91 : decode cX6_meetsNoEdge 91 = .ok (.getfield 58, 3) := by decide +kernel
theorem dX6_meetsNoEdge_94 : decode cX6_meetsNoEdge 94 = .ok (.aload_n 1, 1) := by decide +kernel
theorem dX6_meetsNoEdge_95 : decode cX6_meetsNoEdge 95 = .ok (.getfield 54, 3) := by decide +kernel
theorem dX6_meetsNoEdge_98 : decode cX6_meetsNoEdge 98 = .ok (.iload 6, 2) := by decide +kernel
theorem dX6_meetsNoEdge_100 : decode cX6_meetsNoEdge 100 = .ok (.aaload, 1) := by decide +kernel
theorem dX6_meetsNoEdge_101 : decode cX6_meetsNoEdge 101 = .ok (.getfield 58, 3) := by decide +kernel
theorem dX6_meetsNoEdge_104 : decode cX6_meetsNoEdge 104 = .ok (.invokestatic 113, 3) := by decide +kernel
theorem dX6_meetsNoEdge_107 : decode cX6_meetsNoEdge 107 = .ok (.ifCond .eq 5, 3) := by decide +kernel
theorem dX6_meetsNoEdge_110 : decode cX6_meetsNoEdge 110 = .ok (.iconst 0, 1) := by decide +kernel
theorem dX6_meetsNoEdge_111 : decode cX6_meetsNoEdge 111 = .ok (.ireturn, 1) := by decide +kernel
theorem dX6_meetsNoEdge_112 : decode cX6_meetsNoEdge 112 = .ok (.iinc 4 1, 3) := by decide +kernel
theorem dX6_meetsNoEdge_115 : decode cX6_meetsNoEdge 115 = .ok (.goto (-112), 3) := by decide +kernel
theorem dX6_meetsNoEdge_118 : decode cX6_meetsNoEdge 118 = .ok (.iconst 1, 1) := by decide +kernel
theorem dX6_meetsNoEdge_119 : decode cX6_meetsNoEdge 119 = .ok (.ireturn, 1) := by decide +kernel
theorem dX6_orderPairs_0 : decode cX6_orderPairs 0 = .ok (.aload_n 0, 1) := by decide +kernel
theorem dX6_orderPairs_1 : decode cX6_orderPairs 1 = .ok (.iconst 0, 1) := by decide +kernel
theorem dX6_orderPairs_2 : decode cX6_orderPairs 2 = .ok (.putfield 45, 3) := by decide +kernel
theorem dX6_orderPairs_5 : decode cX6_orderPairs 5 = .ok (.iconst 0, 1) := by decide +kernel
theorem dX6_orderPairs_6 : decode cX6_orderPairs 6 = .ok (.istore_n 2, 1) := by decide +kernel
theorem dX6_orderPairs_7 : decode cX6_orderPairs 7 = .ok (.iload_n 2, 1) := by decide +kernel
theorem dX6_orderPairs_8 : decode cX6_orderPairs 8 = .ok (.aload_n 1, 1) := by decide +kernel
theorem dX6_orderPairs_9 : decode cX6_orderPairs 9 = .ok (.getfield 49, 3) := by decide +kernel
theorem dX6_orderPairs_12 : decode cX6_orderPairs 12 = .ok (.if_icmp .ge 79, 3) := by decide +kernel
theorem dX6_orderPairs_15 : decode cX6_orderPairs 15 = .ok (.aload_n 1, 1) := by decide +kernel
theorem dX6_orderPairs_16 : decode cX6_orderPairs 16 = .ok (.getfield 54, 3) := by decide +kernel
theorem dX6_orderPairs_19 : decode cX6_orderPairs 19 = .ok (.iload_n 2, 1) := by decide +kernel
theorem dX6_orderPairs_20 : decode cX6_orderPairs 20 = .ok (.aaload, 1) := by decide +kernel
theorem dX6_orderPairs_21 : decode cX6_orderPairs 21 = .ok (.getfield 58, 3) := by decide +kernel
theorem dX6_orderPairs_24 : decode cX6_orderPairs 24 = .ok (.astore_n 3, 1) := by decide +kernel
theorem dX6_orderPairs_25 : decode cX6_orderPairs 25 = .ok (.iload_n 2, 1) := by decide +kernel
theorem dX6_orderPairs_26 : decode cX6_orderPairs 26 = .ok (.iconst 1, 1) := by decide +kernel
theorem dX6_orderPairs_27 : decode cX6_orderPairs 27 = .ok (.iadd, 1) := by decide +kernel
theorem dX6_orderPairs_28 : decode cX6_orderPairs 28 = .ok (.istore 4, 2) := by decide +kernel
theorem dX6_orderPairs_30 : decode cX6_orderPairs 30 = .ok (.iload 4, 2) := by decide +kernel
theorem dX6_orderPairs_32 : decode cX6_orderPairs 32 = .ok (.aload_n 1, 1) := by decide +kernel
theorem dX6_orderPairs_33 : decode cX6_orderPairs 33 = .ok (.getfield 49, 3) := by decide +kernel
theorem dX6_orderPairs_36 : decode cX6_orderPairs 36 = .ok (.if_icmp .ge 49, 3) := by decide +kernel
theorem dX6_orderPairs_39 : decode cX6_orderPairs 39 = .ok (.aload_n 1, 1) := by decide +kernel
theorem dX6_orderPairs_40 : decode cX6_orderPairs 40 = .ok (.getfield 54, 3) := by decide +kernel
theorem dX6_orderPairs_43 : decode cX6_orderPairs 43 = .ok (.iload 4, 2) := by decide +kernel
theorem dX6_orderPairs_45 : decode cX6_orderPairs 45 = .ok (.aaload, 1) := by decide +kernel
theorem dX6_orderPairs_46 : decode cX6_orderPairs 46 = .ok (.getfield 58, 3) := by decide +kernel
theorem dX6_orderPairs_49 : decode cX6_orderPairs 49 = .ok (.aload_n 3, 1) := by decide +kernel
theorem dX6_orderPairs_50 : decode cX6_orderPairs 50 = .ok (.getfield 64, 3) := by decide +kernel
theorem dX6_orderPairs_53 : decode cX6_orderPairs 53 = .ok (.aload_n 3, 1) := by decide +kernel
theorem dX6_orderPairs_54 : decode cX6_orderPairs 54 = .ok (.getfield 69, 3) := by decide +kernel
theorem dX6_orderPairs_57 : decode cX6_orderPairs 57 = .ok (.invokevirtual 72, 3) := by decide +kernel
theorem dX6_orderPairs_60 : decode cX6_orderPairs 60 = .ok (.istore 5, 2) := by decide +kernel
theorem dX6_orderPairs_62 : decode cX6_orderPairs 62 = .ok (.aload_n 0, 1) := by decide +kernel
theorem dX6_orderPairs_63 : decode cX6_orderPairs 63 = .ok (.iload 5, 2) := by decide +kernel
theorem dX6_orderPairs_65 : decode cX6_orderPairs 65 = .ok (.bipush 16, 2) := by decide +kernel
theorem dX6_orderPairs_67 : decode cX6_orderPairs 67 = .ok (.imul, 1) := by decide +kernel
theorem dX6_orderPairs_68 : decode cX6_orderPairs 68 = .ok (.iload_n 2, 1) := by decide +kernel
theorem dX6_orderPairs_69 : decode cX6_orderPairs 69 = .ok (.iadd, 1) := by decide +kernel
theorem dX6_orderPairs_70 : decode cX6_orderPairs 70 = .ok (.bipush 16, 2) := by decide +kernel
theorem dX6_orderPairs_72 : decode cX6_orderPairs 72 = .ok (.imul, 1) := by decide +kernel
theorem dX6_orderPairs_73 : decode cX6_orderPairs 73 = .ok (.iload 4, 2) := by decide +kernel
theorem dX6_orderPairs_75 : decode cX6_orderPairs 75 = .ok (.iadd, 1) := by decide +kernel
theorem dX6_orderPairs_76 : decode cX6_orderPairs 76 = .ok (.invokevirtual 76, 3) := by decide +kernel
theorem dX6_orderPairs_79 : decode cX6_orderPairs 79 = .ok (.iinc 4 1, 3) := by decide +kernel
theorem dX6_orderPairs_82 : decode cX6_orderPairs 82 = .ok (.goto (-52), 3) := by decide +kernel
theorem dX6_orderPairs_85 : decode cX6_orderPairs 85 = .ok (.iinc 2 1, 3) := by decide +kernel
theorem dX6_orderPairs_88 : decode cX6_orderPairs 88 = .ok (.goto (-81), 3) := by decide +kernel
theorem dX6_orderPairs_91 : decode cX6_orderPairs 91 = .ok (.return_, 1) := by decide +kernel
theorem dX6_takeEdge_0 : decode cX6_takeEdge 0 = .ok (.aload_n 0, 1) := by decide +kernel
theorem dX6_takeEdge_1 : decode cX6_takeEdge 1 = .ok (.getfield 80, 3) := by decide +kernel
theorem dX6_takeEdge_4 : decode cX6_takeEdge 4 = .ok (.bipush 42, 2) := by decide +kernel
theorem dX6_takeEdge_6 : decode cX6_takeEdge 6 = .ok (.if_icmp .lt 4, 3) := by decide +kernel
theorem dX6_takeEdge_9 : decode cX6_takeEdge 9 = .ok (.return_, 1) := by decide +kernel
theorem dX6_takeEdge_10 : decode cX6_takeEdge 10 = .ok (.aload_n 0, 1) := by decide +kernel
theorem dX6_takeEdge_11 : decode cX6_takeEdge 11 = .ok (.getfield 9, 3) := by decide +kernel
theorem dX6_takeEdge_14 : decode cX6_takeEdge 14 = .ok (.aload_n 0, 1) := by decide +kernel
theorem dX6_takeEdge_15 : decode cX6_takeEdge 15 = .ok (.getfield 80, 3) := by decide +kernel
theorem dX6_takeEdge_18 : decode cX6_takeEdge 18 = .ok (.iload_n 1, 1) := by decide +kernel
theorem dX6_takeEdge_19 : decode cX6_takeEdge 19 = .ok (.iastore, 1) := by decide +kernel
theorem dX6_takeEdge_20 : decode cX6_takeEdge 20 = .ok (.aload_n 0, 1) := by decide +kernel
theorem dX6_takeEdge_21 : decode cX6_takeEdge 21 = .ok (.getfield 15, 3) := by decide +kernel
theorem dX6_takeEdge_24 : decode cX6_takeEdge 24 = .ok (.aload_n 0, 1) := by decide +kernel
theorem dX6_takeEdge_25 : decode cX6_takeEdge 25 = .ok (.getfield 80, 3) := by decide +kernel
theorem dX6_takeEdge_28 : decode cX6_takeEdge 28 = .ok (.iload_n 2, 1) := by decide +kernel
theorem dX6_takeEdge_29 : decode cX6_takeEdge 29 = .ok (.iastore, 1) := by decide +kernel
theorem dX6_takeEdge_30 : decode cX6_takeEdge 30 = .ok (.aload_n 0, 1) := by decide +kernel
theorem dX6_takeEdge_31 : decode cX6_takeEdge 31 = .ok (.getfield 18, 3) := by decide +kernel
theorem dX6_takeEdge_34 : decode cX6_takeEdge 34 = .ok (.aload_n 0, 1) := by decide +kernel
theorem dX6_takeEdge_35 : decode cX6_takeEdge 35 = .ok (.getfield 80, 3) := by decide +kernel
theorem dX6_takeEdge_38 : decode cX6_takeEdge 38 = .ok (.iload_n 3, 1) := by decide +kernel
theorem dX6_takeEdge_39 : decode cX6_takeEdge 39 = .ok (.bastore, 1) := by decide +kernel
theorem dX6_takeEdge_40 : decode cX6_takeEdge 40 = .ok (.iload_n 3, 1) := by decide +kernel
theorem dX6_takeEdge_41 : decode cX6_takeEdge 41 = .ok (.ifCond .eq 16, 3) := by decide +kernel
theorem dX6_takeEdge_44 : decode cX6_takeEdge 44 = .ok (.aload_n 0, 1) := by decide +kernel
theorem dX6_takeEdge_45 : decode cX6_takeEdge 45 = .ok (.dup, 1) := by decide +kernel
theorem dX6_takeEdge_46 : decode cX6_takeEdge 46 = .ok (.getfield 83, 3) := by decide +kernel
theorem dX6_takeEdge_49 : decode cX6_takeEdge 49 = .ok (.iconst 1, 1) := by decide +kernel
theorem dX6_takeEdge_50 : decode cX6_takeEdge 50 = .ok (.iadd, 1) := by decide +kernel
theorem dX6_takeEdge_51 : decode cX6_takeEdge 51 = .ok (.putfield 83, 3) := by decide +kernel
theorem dX6_takeEdge_54 : decode cX6_takeEdge 54 = .ok (.goto 33, 3) := by decide +kernel
theorem dX6_takeEdge_57 : decode cX6_takeEdge 57 = .ok (.aload_n 0, 1) := by decide +kernel
theorem dX6_takeEdge_58 : decode cX6_takeEdge 58 = .ok (.getfield 28, 3) := by decide +kernel
theorem dX6_takeEdge_61 : decode cX6_takeEdge 61 = .ok (.iload_n 1, 1) := by decide +kernel
theorem dX6_takeEdge_62 : decode cX6_takeEdge 62 = .ok (.bipush 16, 2) := by decide +kernel
theorem dX6_takeEdge_64 : decode cX6_takeEdge 64 = .ok (.imul, 1) := by decide +kernel
theorem dX6_takeEdge_65 : decode cX6_takeEdge 65 = .ok (.iload_n 2, 1) := by decide +kernel
theorem dX6_takeEdge_66 : decode cX6_takeEdge 66 = .ok (.iadd, 1) := by decide +kernel
theorem dX6_takeEdge_67 : decode cX6_takeEdge 67 = .ok (.aload_n 0, 1) := by decide +kernel
theorem dX6_takeEdge_68 : decode cX6_takeEdge 68 = .ok (.getfield 80, 3) := by decide +kernel
theorem dX6_takeEdge_71 : decode cX6_takeEdge 71 = .ok (.iastore, 1) := by decide +kernel
theorem dX6_takeEdge_72 : decode cX6_takeEdge 72 = .ok (.aload_n 0, 1) := by decide +kernel
theorem dX6_takeEdge_73 : decode cX6_takeEdge 73 = .ok (.getfield 28, 3) := by decide +kernel
theorem dX6_takeEdge_76 : decode cX6_takeEdge 76 = .ok (.iload_n 2, 1) := by decide +kernel
theorem dX6_takeEdge_77 : decode cX6_takeEdge 77 = .ok (.bipush 16, 2) := by decide +kernel
theorem dX6_takeEdge_79 : decode cX6_takeEdge 79 = .ok (.imul, 1) := by decide +kernel
theorem dX6_takeEdge_80 : decode cX6_takeEdge 80 = .ok (.iload_n 1, 1) := by decide +kernel
theorem dX6_takeEdge_81 : decode cX6_takeEdge 81 = .ok (.iadd, 1) := by decide +kernel
theorem dX6_takeEdge_82 : decode cX6_takeEdge 82 = .ok (.aload_n 0, 1) := by decide +kernel
theorem dX6_takeEdge_83 : decode cX6_takeEdge 83 = .ok (.getfield 80, 3) := by decide +kernel
theorem dX6_takeEdge_86 : decode cX6_takeEdge 86 = .ok (.iastore, 1) := by decide +kernel
theorem dX6_takeEdge_87 : decode cX6_takeEdge 87 = .ok (.aload_n 0, 1) := by decide +kernel
theorem dX6_takeEdge_88 : decode cX6_takeEdge 88 = .ok (.dup, 1) := by decide +kernel
theorem dX6_takeEdge_89 : decode cX6_takeEdge 89 = .ok (.getfield 80, 3) := by decide +kernel
theorem dX6_takeEdge_92 : decode cX6_takeEdge 92 = .ok (.iconst 1, 1) := by decide +kernel
theorem dX6_takeEdge_93 : decode cX6_takeEdge 93 = .ok (.iadd, 1) := by decide +kernel
theorem dX6_takeEdge_94 : decode cX6_takeEdge 94 = .ok (.putfield 80, 3) := by decide +kernel
theorem dX6_takeEdge_97 : decode cX6_takeEdge 97 = .ok (.return_, 1) := by decide +kernel
theorem dX6_takeEdges_0 : decode cX6_takeEdges 0 = .ok (.aload_n 0, 1) := by decide +kernel
theorem dX6_takeEdges_1 : decode cX6_takeEdges 1 = .ok (.iconst 0, 1) := by decide +kernel
theorem dX6_takeEdges_2 : decode cX6_takeEdges 2 = .ok (.putfield 80, 3) := by decide +kernel
theorem dX6_takeEdges_5 : decode cX6_takeEdges 5 = .ok (.aload_n 0, 1) := by decide +kernel
theorem dX6_takeEdges_6 : decode cX6_takeEdges 6 = .ok (.iconst 0, 1) := by decide +kernel
theorem dX6_takeEdges_7 : decode cX6_takeEdges 7 = .ok (.putfield 83, 3) := by decide +kernel
theorem dX6_takeEdges_10 : decode cX6_takeEdges 10 = .ok (.aload_n 0, 1) := by decide +kernel
theorem dX6_takeEdges_11 : decode cX6_takeEdges 11 = .ok (.getfield 28, 3) := by decide +kernel
theorem dX6_takeEdges_14 : decode cX6_takeEdges 14 = .ok (.iconst (-1), 1) := by decide +kernel
theorem dX6_takeEdges_15 : decode cX6_takeEdges 15 = .ok (.invokestatic 86, 3) := by decide +kernel
theorem dX6_takeEdges_18 : decode cX6_takeEdges 18 = .ok (.iconst 0, 1) := by decide +kernel
theorem dX6_takeEdges_19 : decode cX6_takeEdges 19 = .ok (.istore_n 3, 1) := by decide +kernel
theorem dX6_takeEdges_20 : decode cX6_takeEdges 20 = .ok (.iload_n 3, 1) := by decide +kernel
theorem dX6_takeEdges_21 : decode cX6_takeEdges 21 = .ok (.aload_n 0, 1) := by decide +kernel
theorem dX6_takeEdges_22 : decode cX6_takeEdges 22 = .ok (.getfield 45, 3) := by decide +kernel
theorem dX6_takeEdges_25 : decode cX6_takeEdges 25 = .ok (.if_icmp .ge 89, 3) := by decide +kernel
theorem dX6_takeEdges_28 : decode cX6_takeEdges 28 = .ok (.aload_n 0, 1) := by decide +kernel
theorem dX6_takeEdges_29 : decode cX6_takeEdges 29 = .ok (.getfield 25, 3) := by decide +kernel
theorem dX6_takeEdges_32 : decode cX6_takeEdges 32 = .ok (.iload_n 3, 1) := by decide +kernel
theorem dX6_takeEdges_33 : decode cX6_takeEdges 33 = .ok (.iaload, 1) := by decide +kernel
theorem dX6_takeEdges_34 : decode cX6_takeEdges 34 = .ok (.bipush 16, 2) := by decide +kernel
theorem dX6_takeEdges_36 : decode cX6_takeEdges 36 = .ok (.idiv, 1) := by decide +kernel
theorem dX6_takeEdges_37 : decode cX6_takeEdges 37 = .ok (.bipush 16, 2) := by decide +kernel
theorem dX6_takeEdges_39 : decode cX6_takeEdges 39 = .ok (.irem, 1) := by decide +kernel
theorem dX6_takeEdges_40 : decode cX6_takeEdges 40 = .ok (.istore 4, 2) := by decide +kernel
theorem dX6_takeEdges_42 : decode cX6_takeEdges 42 = .ok (.aload_n 0, 1) := by decide +kernel
theorem dX6_takeEdges_43 : decode cX6_takeEdges 43 = .ok (.getfield 25, 3) := by decide +kernel
theorem dX6_takeEdges_46 : decode cX6_takeEdges 46 = .ok (.iload_n 3, 1) := by decide +kernel
theorem dX6_takeEdges_47 : decode cX6_takeEdges 47 = .ok (.iaload, 1) := by decide +kernel
theorem dX6_takeEdges_48 : decode cX6_takeEdges 48 = .ok (.bipush 16, 2) := by decide +kernel
theorem dX6_takeEdges_50 : decode cX6_takeEdges 50 = .ok (.irem, 1) := by decide +kernel
theorem dX6_takeEdges_51 : decode cX6_takeEdges 51 = .ok (.istore 5, 2) := by decide +kernel
theorem dX6_takeEdges_53 : decode cX6_takeEdges 53 = .ok (.aload_n 1, 1) := by decide +kernel
theorem dX6_takeEdges_54 : decode cX6_takeEdges 54 = .ok (.iload 4, 2) := by decide +kernel
theorem dX6_takeEdges_56 : decode cX6_takeEdges 56 = .ok (.iload 5, 2) := by decide +kernel
theorem dX6_takeEdges_58 : decode cX6_takeEdges 58 = .ok (.invokestatic 92, 3) := by decide +kernel
theorem dX6_takeEdges_61 : decode cX6_takeEdges 61 = .ok (.ifCond .eq 47, 3) := by decide +kernel
theorem dX6_takeEdges_64 : decode cX6_takeEdges 64 = .ok (.aload_n 0, 1) := by decide +kernel
theorem dX6_takeEdges_65 : decode cX6_takeEdges 65 = .ok (.aload_n 1, 1) := by decide +kernel
theorem dX6_takeEdges_66 : decode cX6_takeEdges 66 = .ok (.iload 4, 2) := by decide +kernel
theorem dX6_takeEdges_68 : decode cX6_takeEdges 68 = .ok (.iload 5, 2) := by decide +kernel
theorem dX6_takeEdges_70 : decode cX6_takeEdges 70 = .ok (.invokevirtual 96, 3) := by decide +kernel
theorem dX6_takeEdges_73 : decode cX6_takeEdges 73 = .ok (.ifCond .eq 35, 3) := by decide +kernel
theorem dX6_takeEdges_76 : decode cX6_takeEdges 76 = .ok (.aload_n 0, 1) := by decide +kernel
theorem dX6_takeEdges_77 : decode cX6_takeEdges 77 = .ok (.iload 4, 2) := by decide +kernel
theorem dX6_takeEdges_79 : decode cX6_takeEdges 79 = .ok (.iload 5, 2) := by decide +kernel
theorem dX6_takeEdges_81 : decode cX6_takeEdges 81 = .ok (.aload_n 2, 1) := by decide +kernel
theorem dX6_takeEdges_82 : decode cX6_takeEdges 82 = .ok (.aload_n 1, 1) := by decide +kernel
theorem dX6_takeEdges_83 : decode cX6_takeEdges 83 = .ok (.getfield 54, 3) := by decide +kernel
theorem dX6_takeEdges_86 : decode cX6_takeEdges 86 = .ok (.iload 4, 2) := by decide +kernel
theorem dX6_takeEdges_88 : decode cX6_takeEdges 88 = .ok (.aaload, 1) := by decide +kernel
theorem dX6_takeEdges_89 : decode cX6_takeEdges 89 = .ok (.getfield 58, 3) := by decide +kernel
theorem dX6_takeEdges_92 : decode cX6_takeEdges 92 = .ok (.aload_n 1, 1) := by decide +kernel
theorem dX6_takeEdges_93 : decode cX6_takeEdges 93 = .ok (.getfield 54, 3) := by decide +kernel
theorem dX6_takeEdges_96 : decode cX6_takeEdges 96 = .ok (.iload 5, 2) := by decide +kernel
theorem dX6_takeEdges_98 : decode cX6_takeEdges 98 = .ok (.aaload, 1) := by decide +kernel
theorem dX6_takeEdges_99 : decode cX6_takeEdges 99 = .ok (.getfield 58, 3) := by decide +kernel
theorem dX6_takeEdges_102 : decode cX6_takeEdges 102 = .ok (.invokevirtual 99, 3) := by decide +kernel
theorem dX6_takeEdges_105 : decode cX6_takeEdges 105 = .ok (.invokevirtual 105, 3) := by decide +kernel
theorem dX6_takeEdges_108 : decode cX6_takeEdges 108 = .ok (.iinc 3 1, 3) := by decide +kernel
theorem dX6_takeEdges_111 : decode cX6_takeEdges 111 = .ok (.goto (-91), 3) := by decide +kernel
theorem dX6_takeEdges_114 : decode cX6_takeEdges 114 = .ok (.return_, 1) := by decide +kernel
theorem dX6_takeTriangles_0 : decode cX6_takeTriangles 0 = .ok (.aload_n 0, 1) := by decide +kernel
theorem dX6_takeTriangles_1 : decode cX6_takeTriangles 1 = .ok (.iconst 0, 1) := by decide +kernel
theorem dX6_takeTriangles_2 : decode cX6_takeTriangles 2 = .ok (.putfield 117, 3) := by decide +kernel
theorem dX6_takeTriangles_5 : decode cX6_takeTriangles 5 = .ok (.iconst 0, 1) := by decide +kernel
theorem dX6_takeTriangles_6 : decode cX6_takeTriangles 6 = .ok (.istore_n 2, 1) := by decide +kernel
theorem dX6_takeTriangles_7 : decode cX6_takeTriangles 7 = .ok (.iload_n 2, 1) := by decide +kernel
theorem dX6_takeTriangles_8 : decode cX6_takeTriangles 8 = .ok (.aload_n 1, 1) := by decide +kernel
theorem dX6_takeTriangles_9 : decode cX6_takeTriangles 9 = .ok (.getfield 49, 3) := by decide +kernel
theorem dX6_takeTriangles_12 : decode cX6_takeTriangles 12 = .ok (.if_icmp .ge 44, 3) := by decide +kernel
theorem dX6_takeTriangles_15 : decode cX6_takeTriangles 15 = .ok (.iload_n 2, 1) := by decide +kernel
theorem dX6_takeTriangles_16 : decode cX6_takeTriangles 16 = .ok (.iconst 1, 1) := by decide +kernel
theorem dX6_takeTriangles_17 : decode cX6_takeTriangles 17 = .ok (.iadd, 1) := by decide +kernel
theorem dX6_takeTriangles_18 : decode cX6_takeTriangles 18 = .ok (.istore_n 3, 1) := by decide +kernel
theorem dX6_takeTriangles_19 : decode cX6_takeTriangles 19 = .ok (.iload_n 3, 1) := by decide +kernel
theorem dX6_takeTriangles_20 : decode cX6_takeTriangles 20 = .ok (.aload_n 1, 1) := by decide +kernel
theorem dX6_takeTriangles_21 : decode cX6_takeTriangles 21 = .ok (.getfield 49, 3) := by decide +kernel
theorem dX6_takeTriangles_24 : decode cX6_takeTriangles 24 = .ok (.if_icmp .ge 26, 3) := by decide +kernel
theorem dX6_takeTriangles_27 : decode cX6_takeTriangles 27 = .ok (.aload_n 0, 1) := by decide +kernel
theorem dX6_takeTriangles_28 : decode cX6_takeTriangles 28 = .ok (.iload_n 2, 1) := by decide +kernel
theorem dX6_takeTriangles_29 : decode cX6_takeTriangles 29 = .ok (.iload_n 3, 1) := by decide +kernel
theorem dX6_takeTriangles_30 : decode cX6_takeTriangles 30 = .ok (.invokevirtual 120, 3) := by decide +kernel
theorem dX6_takeTriangles_33 : decode cX6_takeTriangles 33 = .ok (.iconst (-1), 1) := by decide +kernel
theorem dX6_takeTriangles_34 : decode cX6_takeTriangles 34 = .ok (.if_icmp .eq 10, 3) := by decide +kernel
theorem dX6_takeTriangles_37 : decode cX6_takeTriangles 37 = .ok (.aload_n 0, 1) := by decide +kernel
theorem dX6_takeTriangles_38 : decode cX6_takeTriangles 38 = .ok (.aload_n 1, 1) := by decide +kernel
theorem dX6_takeTriangles_39 : decode cX6_takeTriangles 39 = .ok (.iload_n 2, 1) := by decide +kernel
theorem dX6_takeTriangles_40 : decode cX6_takeTriangles 40 = .ok (.iload_n 3, 1) := by decide +kernel
theorem dX6_takeTriangles_41 : decode cX6_takeTriangles 41 = .ok (.invokevirtual 123, 3) := by decide +kernel
theorem dX6_takeTriangles_44 : decode cX6_takeTriangles 44 = .ok (.iinc 3 1, 3) := by decide +kernel
theorem dX6_takeTriangles_47 : decode cX6_takeTriangles 47 = .ok (.goto (-28), 3) := by decide +kernel
theorem dX6_takeTriangles_50 : decode cX6_takeTriangles 50 = .ok (.iinc 2 1, 3) := by decide +kernel
theorem dX6_takeTriangles_53 : decode cX6_takeTriangles 53 = .ok (.goto (-46), 3) := by decide +kernel
theorem dX6_takeTriangles_56 : decode cX6_takeTriangles 56 = .ok (.return_, 1) := by decide +kernel
theorem dX6_takeTrianglesOn_0 : decode cX6_takeTrianglesOn 0 = .ok (.iload_n 3, 1) := by decide +kernel
theorem dX6_takeTrianglesOn_1 : decode cX6_takeTrianglesOn 1 = .ok (.iconst 1, 1) := by decide +kernel
theorem dX6_takeTrianglesOn_2 : decode cX6_takeTrianglesOn 2 = .ok (.iadd, 1) := by decide +kernel
theorem dX6_takeTrianglesOn_3 : decode cX6_takeTrianglesOn 3 = .ok (.istore 4, 2) := by decide +kernel
theorem dX6_takeTrianglesOn_5 : decode cX6_takeTrianglesOn 5 = .ok (.iload 4, 2) := by decide +kernel
theorem dX6_takeTrianglesOn_7 : decode cX6_takeTrianglesOn 7 = .ok (.aload_n 1, 1) := by decide +kernel
theorem dX6_takeTrianglesOn_8 : decode cX6_takeTrianglesOn 8 = .ok (.getfield 49, 3) := by decide +kernel
theorem dX6_takeTrianglesOn_11 : decode cX6_takeTrianglesOn 11 = .ok (.if_icmp .ge 134, 3) := by decide +kernel
theorem dX6_takeTrianglesOn_14 : decode cX6_takeTrianglesOn 14 = .ok (.aload_n 0, 1) := by decide +kernel
theorem dX6_takeTrianglesOn_15 : decode cX6_takeTrianglesOn 15 = .ok (.iload_n 2, 1) := by decide +kernel
theorem dX6_takeTrianglesOn_16 : decode cX6_takeTrianglesOn 16 = .ok (.iload 4, 2) := by decide +kernel
theorem dX6_takeTrianglesOn_18 : decode cX6_takeTrianglesOn 18 = .ok (.invokevirtual 120, 3) := by decide +kernel
theorem dX6_takeTrianglesOn_21 : decode cX6_takeTrianglesOn 21 = .ok (.iconst (-1), 1) := by decide +kernel
theorem dX6_takeTrianglesOn_22 : decode cX6_takeTrianglesOn 22 = .ok (.if_icmp .eq 18, 3) := by decide +kernel
theorem dX6_takeTrianglesOn_25 : decode cX6_takeTrianglesOn 25 = .ok (.aload_n 0, 1) := by decide +kernel
theorem dX6_takeTrianglesOn_26 : decode cX6_takeTrianglesOn 26 = .ok (.iload_n 3, 1) := by decide +kernel
theorem dX6_takeTrianglesOn_27 : decode cX6_takeTrianglesOn 27 = .ok (.iload 4, 2) := by decide +kernel
theorem dX6_takeTrianglesOn_29 : decode cX6_takeTrianglesOn 29 = .ok (.invokevirtual 120, 3) := by decide +kernel
theorem dX6_takeTrianglesOn_32 : decode cX6_takeTrianglesOn 32 = .ok (.iconst (-1), 1) := by decide +kernel
theorem dX6_takeTrianglesOn_33 : decode cX6_takeTrianglesOn 33 = .ok (.if_icmp .eq 7, 3) := by decide +kernel
theorem dX6_takeTrianglesOn_36 : decode cX6_takeTrianglesOn 36 = .ok (.iconst 1, 1) := by decide +kernel
theorem dX6_takeTrianglesOn_37 : decode cX6_takeTrianglesOn 37 = .ok (.goto 4, 3) := by decide +kernel
theorem dX6_takeTrianglesOn_40 : decode cX6_takeTrianglesOn 40 = .ok (.iconst 0, 1) := by decide +kernel
theorem dX6_takeTrianglesOn_41 : decode cX6_takeTrianglesOn 41 = .ok (.istore 5, 2) := by decide +kernel
theorem dX6_takeTrianglesOn_43 : decode cX6_takeTrianglesOn 43 = .ok (.iload 5, 2) := by decide +kernel
theorem dX6_takeTrianglesOn_45 : decode cX6_takeTrianglesOn 45 = .ok (.ifCond .eq 94, 3) := by decide +kernel
theorem dX6_takeTrianglesOn_48 : decode cX6_takeTrianglesOn 48 = .ok (.aload_n 0, 1) := by decide +kernel
theorem dX6_takeTrianglesOn_49 : decode cX6_takeTrianglesOn 49 = .ok (.getfield 117, 3) := by decide +kernel
theorem dX6_takeTrianglesOn_52 : decode cX6_takeTrianglesOn 52 = .ok (.bipush 27, 2) := by decide +kernel
theorem dX6_takeTrianglesOn_54 : decode cX6_takeTrianglesOn 54 = .ok (.if_icmp .ge 85, 3) := by decide +kernel
theorem dX6_takeTrianglesOn_57 : decode cX6_takeTrianglesOn 57 = .ok (.aload_n 1, 1) := by decide +kernel
theorem dX6_takeTrianglesOn_58 : decode cX6_takeTrianglesOn 58 = .ok (.iload_n 2, 1) := by decide +kernel
theorem dX6_takeTrianglesOn_59 : decode cX6_takeTrianglesOn 59 = .ok (.iload_n 3, 1) := by decide +kernel
theorem dX6_takeTrianglesOn_60 : decode cX6_takeTrianglesOn 60 = .ok (.iload 4, 2) := by decide +kernel
theorem dX6_takeTrianglesOn_62 : decode cX6_takeTrianglesOn 62 = .ok (.invokestatic 127, 3) := by decide +kernel
theorem dX6_takeTrianglesOn_65 : decode cX6_takeTrianglesOn 65 = .ok (.ifCond .eq 74, 3) := by decide +kernel
theorem dX6_takeTrianglesOn_68 : decode cX6_takeTrianglesOn 68 = .ok (.aload_n 0, 1) := by decide +kernel
theorem dX6_takeTrianglesOn_69 : decode cX6_takeTrianglesOn 69 = .ok (.getfield 31, 3) := by decide +kernel
theorem dX6_takeTrianglesOn_72 : decode cX6_takeTrianglesOn 72 = .ok (.iconst 3, 1) := by decide +kernel
theorem dX6_takeTrianglesOn_73 : decode cX6_takeTrianglesOn 73 = .ok (.aload_n 0, 1) := by decide +kernel
theorem dX6_takeTrianglesOn_74 : decode cX6_takeTrianglesOn 74 = .ok (.getfield 117, 3) := by decide +kernel
theorem dX6_takeTrianglesOn_77 : decode cX6_takeTrianglesOn 77 = .ok (.imul, 1) := by decide +kernel
theorem dX6_takeTrianglesOn_78 : decode cX6_takeTrianglesOn 78 = .ok (.iload_n 2, 1) := by decide +kernel
theorem dX6_takeTrianglesOn_79 : decode cX6_takeTrianglesOn 79 = .ok (.iastore, 1) := by decide +kernel
theorem dX6_takeTrianglesOn_80 : decode cX6_takeTrianglesOn 80 = .ok (.aload_n 0, 1) := by decide +kernel
theorem dX6_takeTrianglesOn_81 : decode cX6_takeTrianglesOn 81 = .ok (.getfield 31, 3) := by decide +kernel
theorem dX6_takeTrianglesOn_84 : decode cX6_takeTrianglesOn 84 = .ok (.iconst 3, 1) := by decide +kernel
theorem dX6_takeTrianglesOn_85 : decode cX6_takeTrianglesOn 85 = .ok (.aload_n 0, 1) := by decide +kernel
theorem dX6_takeTrianglesOn_86 : decode cX6_takeTrianglesOn 86 = .ok (.getfield 117, 3) := by decide +kernel
theorem dX6_takeTrianglesOn_89 : decode cX6_takeTrianglesOn 89 = .ok (.imul, 1) := by decide +kernel
theorem dX6_takeTrianglesOn_90 : decode cX6_takeTrianglesOn 90 = .ok (.iconst 1, 1) := by decide +kernel
theorem dX6_takeTrianglesOn_91 : decode cX6_takeTrianglesOn 91 = .ok (.iadd, 1) := by decide +kernel
theorem dX6_takeTrianglesOn_92 : decode cX6_takeTrianglesOn 92 = .ok (.iload_n 3, 1) := by decide +kernel
theorem dX6_takeTrianglesOn_93 : decode cX6_takeTrianglesOn 93 = .ok (.iastore, 1) := by decide +kernel
theorem dX6_takeTrianglesOn_94 : decode cX6_takeTrianglesOn 94 = .ok (.aload_n 0, 1) := by decide +kernel
theorem dX6_takeTrianglesOn_95 : decode cX6_takeTrianglesOn 95 = .ok (.getfield 31, 3) := by decide +kernel
theorem dX6_takeTrianglesOn_98 : decode cX6_takeTrianglesOn 98 = .ok (.iconst 3, 1) := by decide +kernel
theorem dX6_takeTrianglesOn_99 : decode cX6_takeTrianglesOn 99 = .ok (.aload_n 0, 1) := by decide +kernel
theorem dX6_takeTrianglesOn_100 : decode cX6_takeTrianglesOn 100 = .ok (.getfield 117, 3) := by decide +kernel
theorem dX6_takeTrianglesOn_103 : decode cX6_takeTrianglesOn 103 = .ok (.imul, 1) := by decide +kernel
theorem dX6_takeTrianglesOn_104 : decode cX6_takeTrianglesOn 104 = .ok (.iconst 2, 1) := by decide +kernel
theorem dX6_takeTrianglesOn_105 : decode cX6_takeTrianglesOn 105 = .ok (.iadd, 1) := by decide +kernel
theorem dX6_takeTrianglesOn_106 : decode cX6_takeTrianglesOn 106 = .ok (.iload 4, 2) := by decide +kernel
theorem dX6_takeTrianglesOn_108 : decode cX6_takeTrianglesOn 108 = .ok (.iastore, 1) := by decide +kernel
theorem dX6_takeTrianglesOn_109 : decode cX6_takeTrianglesOn 109 = .ok (.aload_n 0, 1) := by decide +kernel
theorem dX6_takeTrianglesOn_110 : decode cX6_takeTrianglesOn 110 = .ok (.getfield 22, 3) := by decide +kernel
theorem dX6_takeTrianglesOn_113 : decode cX6_takeTrianglesOn 113 = .ok (.aload_n 0, 1) := by decide +kernel
theorem dX6_takeTrianglesOn_114 : decode cX6_takeTrianglesOn 114 = .ok (.getfield 117, 3) := by decide +kernel
theorem dX6_takeTrianglesOn_117 : decode cX6_takeTrianglesOn 117 = .ok (.aload_n 1, 1) := by decide +kernel
theorem dX6_takeTrianglesOn_118 : decode cX6_takeTrianglesOn 118 = .ok (.iload_n 2, 1) := by decide +kernel
theorem dX6_takeTrianglesOn_119 : decode cX6_takeTrianglesOn 119 = .ok (.iload_n 3, 1) := by decide +kernel
theorem dX6_takeTrianglesOn_120 : decode cX6_takeTrianglesOn 120 = .ok (.iload 4, 2) := by decide +kernel
theorem dX6_takeTrianglesOn_122 : decode cX6_takeTrianglesOn 122 = .ok (.invokestatic 131, 3) := by decide +kernel
theorem dX6_takeTrianglesOn_125 : decode cX6_takeTrianglesOn 125 = .ok (.invokestatic 135, 3) := by decide +kernel
theorem dX6_takeTrianglesOn_128 : decode cX6_takeTrianglesOn 128 = .ok (.iastore, 1) := by decide +kernel
theorem dX6_takeTrianglesOn_129 : decode cX6_takeTrianglesOn 129 = .ok (.aload_n 0, 1) := by decide +kernel
theorem dX6_takeTrianglesOn_130 : decode cX6_takeTrianglesOn 130 = .ok (.dup, 1) := by decide +kernel
theorem dX6_takeTrianglesOn_131 : decode cX6_takeTrianglesOn 131 = .ok (.getfield 117, 3) := by decide +kernel
theorem dX6_takeTrianglesOn_134 : decode cX6_takeTrianglesOn 134 = .ok (.iconst 1, 1) := by decide +kernel
theorem dX6_takeTrianglesOn_135 : decode cX6_takeTrianglesOn 135 = .ok (.iadd, 1) := by decide +kernel
theorem dX6_takeTrianglesOn_136 : decode cX6_takeTrianglesOn 136 = .ok (.putfield 117, 3) := by decide +kernel
theorem dX6_takeTrianglesOn_139 : decode cX6_takeTrianglesOn 139 = .ok (.iinc 4 1, 3) := by decide +kernel
theorem dX6_takeTrianglesOn_142 : decode cX6_takeTrianglesOn 142 = .ok (.goto (-137), 3) := by decide +kernel
theorem dX6_takeTrianglesOn_145 : decode cX6_takeTrianglesOn 145 = .ok (.return_, 1) := by decide +kernel
theorem dX6_turnOf_0 : decode cX6_turnOf 0 = .ok (.aload_n 0, 1) := by decide +kernel
theorem dX6_turnOf_1 : decode cX6_turnOf 1 = .ok (.getfield 54, 3) := by decide +kernel
theorem dX6_turnOf_4 : decode cX6_turnOf 4 = .ok (.iload_n 1, 1) := by decide +kernel
theorem dX6_turnOf_5 : decode cX6_turnOf 5 = .ok (.aaload, 1) := by decide +kernel
theorem dX6_turnOf_6 : decode cX6_turnOf 6 = .ok (.getfield 58, 3) := by decide +kernel
theorem dX6_turnOf_9 : decode cX6_turnOf 9 = .ok (.aload_n 0, 1) := by decide +kernel
theorem dX6_turnOf_10 : decode cX6_turnOf 10 = .ok (.getfield 54, 3) := by decide +kernel
theorem dX6_turnOf_13 : decode cX6_turnOf 13 = .ok (.iload_n 2, 1) := by decide +kernel
theorem dX6_turnOf_14 : decode cX6_turnOf 14 = .ok (.aaload, 1) := by decide +kernel
theorem dX6_turnOf_15 : decode cX6_turnOf 15 = .ok (.getfield 58, 3) := by decide +kernel
theorem dX6_turnOf_18 : decode cX6_turnOf 18 = .ok (.aload_n 0, 1) := by decide +kernel
theorem dX6_turnOf_19 : decode cX6_turnOf 19 = .ok (.getfield 54, 3) := by decide +kernel
theorem dX6_turnOf_22 : decode cX6_turnOf 22 = .ok (.iload_n 3, 1) := by decide +kernel
theorem dX6_turnOf_23 : decode cX6_turnOf 23 = .ok (.aaload, 1) := by decide +kernel
theorem dX6_turnOf_24 : decode cX6_turnOf 24 = .ok (.getfield 58, 3) := by decide +kernel
theorem dX6_turnOf_27 : decode cX6_turnOf 27 = .ok (.invokestatic 144, 3) := by decide +kernel
theorem dX6_turnOf_30 : decode cX6_turnOf 30 = .ok (.ireturn, 1) := by decide +kernel
theorem dX7_areApart_0 : decode cX7_areApart 0 = .ok (.iload_n 0, 1) := by decide +kernel
theorem dX7_areApart_1 : decode cX7_areApart 1 = .ok (.ifCond .ge 7, 3) := by decide +kernel
theorem dX7_areApart_4 : decode cX7_areApart 4 = .ok (.iload_n 1, 1) := by decide +kernel
theorem dX7_areApart_5 : decode cX7_areApart 5 = .ok (.ifCond .gt 11, 3) := by decide +kernel
theorem dX7_areApart_8 : decode cX7_areApart 8 = .ok (.iload_n 0, 1) := by decide +kernel
theorem dX7_areApart_9 : decode cX7_areApart 9 = .ok (.ifCond .le 11, 3) := by decide +kernel
theorem dX7_areApart_12 : decode cX7_areApart 12 = .ok (.iload_n 1, 1) := by decide +kernel
theorem dX7_areApart_13 : decode cX7_areApart 13 = .ok (.ifCond .ge 7, 3) := by decide +kernel
theorem dX7_areApart_16 : decode cX7_areApart 16 = .ok (.iconst 1, 1) := by decide +kernel
theorem dX7_areApart_17 : decode cX7_areApart 17 = .ok (.goto 4, 3) := by decide +kernel
theorem dX7_areApart_20 : decode cX7_areApart 20 = .ok (.iconst 0, 1) := by decide +kernel
theorem dX7_areApart_21 : decode cX7_areApart 21 = .ok (.ireturn, 1) := by decide +kernel
theorem dX7_init_0 : decode cX7_init 0 = .ok (.aload_n 0, 1) := by decide +kernel
theorem dX7_init_1 : decode cX7_init 1 = .ok (.invokespecial 1, 3) := by decide +kernel
theorem dX7_init_4 : decode cX7_init 4 = .ok (.return_, 1) := by decide +kernel
theorem dX7_isInTriangle_0 : decode cX7_isInTriangle 0 = .ok (.aload_n 0, 1) := by decide +kernel
theorem dX7_isInTriangle_1 : decode cX7_isInTriangle 1 = .ok (.aload_n 1, 1) := by decide +kernel
theorem dX7_isInTriangle_2 : decode cX7_isInTriangle 2 = .ok (.aload_n 3, 1) := by decide +kernel
theorem dX7_isInTriangle_3 : decode cX7_isInTriangle 3 = .ok (.invokestatic 16, 3) := by decide +kernel
theorem dX7_isInTriangle_6 : decode cX7_isInTriangle 6 = .ok (.istore 4, 2) := by decide +kernel
theorem dX7_isInTriangle_8 : decode cX7_isInTriangle 8 = .ok (.aload_n 1, 1) := by decide +kernel
theorem dX7_isInTriangle_9 : decode cX7_isInTriangle 9 = .ok (.aload_n 2, 1) := by decide +kernel
theorem dX7_isInTriangle_10 : decode cX7_isInTriangle 10 = .ok (.aload_n 3, 1) := by decide +kernel
theorem dX7_isInTriangle_11 : decode cX7_isInTriangle 11 = .ok (.invokestatic 16, 3) := by decide +kernel
theorem dX7_isInTriangle_14 : decode cX7_isInTriangle 14 = .ok (.istore 5, 2) := by decide +kernel
theorem dX7_isInTriangle_16 : decode cX7_isInTriangle 16 = .ok (.aload_n 2, 1) := by decide +kernel
theorem dX7_isInTriangle_17 : decode cX7_isInTriangle 17 = .ok (.aload_n 0, 1) := by decide +kernel
theorem dX7_isInTriangle_18 : decode cX7_isInTriangle 18 = .ok (.aload_n 3, 1) := by decide +kernel
theorem dX7_isInTriangle_19 : decode cX7_isInTriangle 19 = .ok (.invokestatic 16, 3) := by decide +kernel
theorem dX7_isInTriangle_22 : decode cX7_isInTriangle 22 = .ok (.istore 6, 2) := by decide +kernel
theorem dX7_isInTriangle_24 : decode cX7_isInTriangle 24 = .ok (.iload 4, 2) := by decide +kernel
theorem dX7_isInTriangle_26 : decode cX7_isInTriangle 26 = .ok (.ifCond .lt 13, 3) := by decide +kernel
theorem dX7_isInTriangle_29 : decode cX7_isInTriangle 29 = .ok (.iload 5, 2) := by decide +kernel
theorem dX7_isInTriangle_31 : decode cX7_isInTriangle 31 = .ok (.ifCond .lt 8, 3) := by decide +kernel
theorem dX7_isInTriangle_34 : decode cX7_isInTriangle 34 = .ok (.iload 6, 2) := by decide +kernel
theorem dX7_isInTriangle_36 : decode cX7_isInTriangle 36 = .ok (.ifCond .ge 18, 3) := by decide +kernel
theorem dX7_isInTriangle_39 : decode cX7_isInTriangle 39 = .ok (.iload 4, 2) := by decide +kernel
theorem dX7_isInTriangle_41 : decode cX7_isInTriangle 41 = .ok (.ifCond .gt 17, 3) := by decide +kernel
theorem dX7_isInTriangle_44 : decode cX7_isInTriangle 44 = .ok (.iload 5, 2) := by decide +kernel
theorem dX7_isInTriangle_46 : decode cX7_isInTriangle 46 = .ok (.ifCond .gt 12, 3) := by decide +kernel
theorem dX7_isInTriangle_49 : decode cX7_isInTriangle 49 = .ok (.iload 6, 2) := by decide +kernel
theorem dX7_isInTriangle_51 : decode cX7_isInTriangle 51 = .ok (.ifCond .gt 7, 3) := by decide +kernel
theorem dX7_isInTriangle_54 : decode cX7_isInTriangle 54 = .ok (.iconst 1, 1) := by decide +kernel
theorem dX7_isInTriangle_55 : decode cX7_isInTriangle 55 = .ok (.goto 4, 3) := by decide +kernel
theorem dX7_isInTriangle_58 : decode cX7_isInTriangle 58 = .ok (.iconst 0, 1) := by decide +kernel
theorem dX7_isInTriangle_59 : decode cX7_isInTriangle 59 = .ok (.ireturn, 1) := by decide +kernel
theorem dX7_isOnWay_0 : decode cX7_isOnWay 0 = .ok (.aload_n 0, 1) := by decide +kernel
theorem dX7_isOnWay_1 : decode cX7_isOnWay 1 = .ok (.aload_n 1, 1) := by decide +kernel
theorem dX7_isOnWay_2 : decode cX7_isOnWay 2 = .ok (.aload_n 2, 1) := by decide +kernel
theorem dX7_isOnWay_3 : decode cX7_isOnWay 3 = .ok (.invokestatic 16, 3) := by decide +kernel
theorem dX7_isOnWay_6 : decode cX7_isOnWay 6 = .ok (.ifCond .ne 71, 3) := by decide +kernel
theorem dX7_isOnWay_9 : decode cX7_isOnWay 9 = .ok (.aload_n 0, 1) := by decide +kernel
theorem dX7_isOnWay_10 : decode cX7_isOnWay 10 = .ok (.getfield 7, 3) := by decide +kernel
theorem dX7_isOnWay_13 : decode cX7_isOnWay 13 = .ok (.aload_n 1, 1) := by decide +kernel
theorem dX7_isOnWay_14 : decode cX7_isOnWay 14 = .ok (.getfield 7, 3) := by decide +kernel
theorem dX7_isOnWay_17 : decode cX7_isOnWay 17 = .ok (.invokestatic 20, 3) := by decide +kernel
theorem dX7_isOnWay_20 : decode cX7_isOnWay 20 = .ok (.aload_n 0, 1) := by decide +kernel
theorem dX7_isOnWay_21 : decode cX7_isOnWay 21 = .ok (.getfield 7, 3) := by decide +kernel
theorem dX7_isOnWay_24 : decode cX7_isOnWay 24 = .ok (.aload_n 1, 1) := by decide +kernel
theorem dX7_isOnWay_25 : decode cX7_isOnWay 25 = .ok (.getfield 7, 3) := by decide +kernel
theorem dX7_isOnWay_28 : decode cX7_isOnWay 28 = .ok (.invokestatic 26, 3) := by decide +kernel
theorem dX7_isOnWay_31 : decode cX7_isOnWay 31 = .ok (.aload_n 2, 1) := by decide +kernel
theorem dX7_isOnWay_32 : decode cX7_isOnWay 32 = .ok (.getfield 7, 3) := by decide +kernel
theorem dX7_isOnWay_35 : decode cX7_isOnWay 35 = .ok (.invokestatic 29, 3) := by decide +kernel
theorem dX7_isOnWay_38 : decode cX7_isOnWay 38 = .ok (.ifCond .eq 39, 3) := by decide +kernel
theorem dX7_isOnWay_41 : decode cX7_isOnWay 41 = .ok (.aload_n 0, 1) := by decide +kernel
theorem dX7_isOnWay_42 : decode cX7_isOnWay 42 = .ok (.getfield 13, 3) := by decide +kernel
theorem dX7_isOnWay_45 : decode cX7_isOnWay 45 = .ok (.aload_n 1, 1) := by decide +kernel
theorem dX7_isOnWay_46 : decode cX7_isOnWay 46 = .ok (.getfield 13, 3) := by decide +kernel
theorem dX7_isOnWay_49 : decode cX7_isOnWay 49 = .ok (.invokestatic 20, 3) := by decide +kernel
theorem dX7_isOnWay_52 : decode cX7_isOnWay 52 = .ok (.aload_n 0, 1) := by decide +kernel
theorem dX7_isOnWay_53 : decode cX7_isOnWay 53 = .ok (.getfield 13, 3) := by decide +kernel
theorem dX7_isOnWay_56 : decode cX7_isOnWay 56 = .ok (.aload_n 1, 1) := by decide +kernel
theorem dX7_isOnWay_57 : decode cX7_isOnWay 57 = .ok (.getfield 13, 3) := by decide +kernel
theorem dX7_isOnWay_60 : decode cX7_isOnWay 60 = .ok (.invokestatic 26, 3) := by decide +kernel
theorem dX7_isOnWay_63 : decode cX7_isOnWay 63 = .ok (.aload_n 2, 1) := by decide +kernel
theorem dX7_isOnWay_64 : decode cX7_isOnWay 64 = .ok (.getfield 13, 3) := by decide +kernel
theorem dX7_isOnWay_67 : decode cX7_isOnWay 67 = .ok (.invokestatic 29, 3) := by decide +kernel
theorem dX7_isOnWay_70 : decode cX7_isOnWay 70 = .ok (.ifCond .eq 7, 3) := by decide +kernel
theorem dX7_isOnWay_73 : decode cX7_isOnWay 73 = .ok (.iconst 1, 1) := by decide +kernel
theorem dX7_isOnWay_74 : decode cX7_isOnWay 74 = .ok (.goto 4, 3) := by decide +kernel
theorem dX7_isOnWay_77 : decode cX7_isOnWay 77 = .ok (.iconst 0, 1) := by decide +kernel
theorem dX7_isOnWay_78 : decode cX7_isOnWay 78 = .ok (.ireturn, 1) := by decide +kernel
theorem dX7_moveTo_0 : decode cX7_moveTo 0 = .ok (.aload_n 0, 1) := by decide +kernel
theorem dX7_moveTo_1 : decode cX7_moveTo 1 = .ok (.iload_n 1, 1) := by decide +kernel
theorem dX7_moveTo_2 : decode cX7_moveTo 2 = .ok (.putfield 7, 3) := by decide +kernel
theorem dX7_moveTo_5 : decode cX7_moveTo 5 = .ok (.aload_n 0, 1) := by decide +kernel
theorem dX7_moveTo_6 : decode cX7_moveTo 6 = .ok (.iload_n 2, 1) := by decide +kernel
theorem dX7_moveTo_7 : decode cX7_moveTo 7 = .ok (.putfield 13, 3) := by decide +kernel
theorem dX7_moveTo_10 : decode cX7_moveTo 10 = .ok (.return_, 1) := by decide +kernel
theorem dX7_squareTo_0 : decode cX7_squareTo 0 = .ok (.iload_n 1, 1) := by decide +kernel
theorem dX7_squareTo_1 : decode cX7_squareTo 1 = .ok (.aload_n 0, 1) := by decide +kernel
theorem dX7_squareTo_2 : decode cX7_squareTo 2 = .ok (.getfield 7, 3) := by decide +kernel
theorem dX7_squareTo_5 : decode cX7_squareTo 5 = .ok (.isub, 1) := by decide +kernel
theorem dX7_squareTo_6 : decode cX7_squareTo 6 = .ok (.iload_n 1, 1) := by decide +kernel
theorem dX7_squareTo_7 : decode cX7_squareTo 7 = .ok (.aload_n 0, 1) := by decide +kernel
theorem dX7_squareTo_8 : decode cX7_squareTo 8 = .ok (.getfield 7, 3) := by decide +kernel
theorem dX7_squareTo_11 : decode cX7_squareTo 11 = .ok (.isub, 1) := by decide +kernel
theorem dX7_squareTo_12 : decode cX7_squareTo 12 = .ok (.imul, 1) := by decide +kernel
theorem dX7_squareTo_13 : decode cX7_squareTo 13 = .ok (.iload_n 2, 1) := by decide +kernel
theorem dX7_squareTo_14 : decode cX7_squareTo 14 = .ok (.aload_n 0, 1) := by decide +kernel
theorem dX7_squareTo_15 : decode cX7_squareTo 15 = .ok (.getfield 13, 3) := by decide +kernel
theorem dX7_squareTo_18 : decode cX7_squareTo 18 = .ok (.isub, 1) := by decide +kernel
theorem dX7_squareTo_19 : decode cX7_squareTo 19 = .ok (.iload_n 2, 1) := by decide +kernel
theorem dX7_squareTo_20 : decode cX7_squareTo 20 = .ok (.aload_n 0, 1) := by decide +kernel
theorem dX7_squareTo_21 : decode cX7_squareTo 21 = .ok (.getfield 13, 3) := by decide +kernel
theorem dX7_squareTo_24 : decode cX7_squareTo 24 = .ok (.isub, 1) := by decide +kernel
theorem dX7_squareTo_25 : decode cX7_squareTo 25 = .ok (.imul, 1) := by decide +kernel
theorem dX7_squareTo_26 : decode cX7_squareTo 26 = .ok (.iadd, 1) := by decide +kernel
theorem dX7_squareTo_27 : decode cX7_squareTo 27 = .ok (.ireturn, 1) := by decide +kernel
theorem dX7_turn_0 : decode cX7_turn 0 = .ok (.aload_n 1, 1) := by decide +kernel
theorem dX7_turn_1 : decode cX7_turn 1 = .ok (.getfield 7, 3) := by decide +kernel
theorem dX7_turn_4 : decode cX7_turn 4 = .ok (.aload_n 0, 1) := by decide +kernel
theorem dX7_turn_5 : decode cX7_turn 5 = .ok (.getfield 7, 3) := by decide +kernel
theorem dX7_turn_8 : decode cX7_turn 8 = .ok (.isub, 1) := by decide +kernel
theorem dX7_turn_9 : decode cX7_turn 9 = .ok (.aload_n 2, 1) := by decide +kernel
theorem dX7_turn_10 : decode cX7_turn 10 = .ok (.getfield 13, 3) := by decide +kernel
theorem dX7_turn_13 : decode cX7_turn 13 = .ok (.aload_n 0, 1) := by decide +kernel
theorem dX7_turn_14 : decode cX7_turn 14 = .ok (.getfield 13, 3) := by decide +kernel
theorem dX7_turn_17 : decode cX7_turn 17 = .ok (.isub, 1) := by decide +kernel
theorem dX7_turn_18 : decode cX7_turn 18 = .ok (.imul, 1) := by decide +kernel
theorem dX7_turn_19 : decode cX7_turn 19 = .ok (.aload_n 1, 1) := by decide +kernel
theorem dX7_turn_20 : decode cX7_turn 20 = .ok (.getfield 13, 3) := by decide +kernel
theorem dX7_turn_23 : decode cX7_turn 23 = .ok (.aload_n 0, 1) := by decide +kernel
theorem dX7_turn_24 : decode cX7_turn 24 = .ok (.getfield 13, 3) := by decide +kernel
theorem dX7_turn_27 : decode cX7_turn 27 = .ok (.isub, 1) := by decide +kernel
theorem dX7_turn_28 : decode cX7_turn 28 = .ok (.aload_n 2, 1) := by decide +kernel
theorem dX7_turn_29 : decode cX7_turn 29 = .ok (.getfield 7, 3) := by decide +kernel
theorem dX7_turn_32 : decode cX7_turn 32 = .ok (.aload_n 0, 1) := by decide +kernel
theorem dX7_turn_33 : decode cX7_turn 33 = .ok (.getfield 7, 3) := by decide +kernel
theorem dX7_turn_36 : decode cX7_turn 36 = .ok (.isub, 1) := by decide +kernel
theorem dX7_turn_37 : decode cX7_turn 37 = .ok (.imul, 1) := by decide +kernel
theorem dX7_turn_38 : decode cX7_turn 38 = .ok (.isub, 1) := by decide +kernel
theorem dX7_turn_39 : decode cX7_turn 39 = .ok (.ireturn, 1) := by decide +kernel
theorem dX7_waysMeet_0 : decode cX7_waysMeet 0 = .ok (.aload_n 0, 1) := by decide +kernel
theorem dX7_waysMeet_1 : decode cX7_waysMeet 1 = .ok (.aload_n 1, 1) := by decide +kernel
theorem dX7_waysMeet_2 : decode cX7_waysMeet 2 = .ok (.aload_n 2, 1) := by decide +kernel
theorem dX7_waysMeet_3 : decode cX7_waysMeet 3 = .ok (.invokestatic 16, 3) := by decide +kernel
theorem dX7_waysMeet_6 : decode cX7_waysMeet 6 = .ok (.aload_n 0, 1) := by decide +kernel
theorem dX7_waysMeet_7 : decode cX7_waysMeet 7 = .ok (.aload_n 1, 1) := by decide +kernel
theorem dX7_waysMeet_8 : decode cX7_waysMeet 8 = .ok (.aload_n 3, 1) := by decide +kernel
theorem dX7_waysMeet_9 : decode cX7_waysMeet 9 = .ok (.invokestatic 16, 3) := by decide +kernel
theorem dX7_waysMeet_12 : decode cX7_waysMeet 12 = .ok (.invokestatic 35, 3) := by decide +kernel
theorem dX7_waysMeet_15 : decode cX7_waysMeet 15 = .ok (.ifCond .eq 23, 3) := by decide +kernel
theorem dX7_waysMeet_18 : decode cX7_waysMeet 18 = .ok (.aload_n 2, 1) := by decide +kernel
theorem dX7_waysMeet_19 : decode cX7_waysMeet 19 = .ok (.aload_n 3, 1) := by decide +kernel
theorem dX7_waysMeet_20 : decode cX7_waysMeet 20 = .ok (.aload_n 0, 1) := by decide +kernel
theorem dX7_waysMeet_21 : decode cX7_waysMeet 21 = .ok (.invokestatic 16, 3) := by decide +kernel
theorem dX7_waysMeet_24 : decode cX7_waysMeet 24 = .ok (.aload_n 2, 1) := by decide +kernel
theorem dX7_waysMeet_25 : decode cX7_waysMeet 25 = .ok (.aload_n 3, 1) := by decide +kernel
theorem dX7_waysMeet_26 : decode cX7_waysMeet 26 = .ok (.aload_n 1, 1) := by decide +kernel
theorem dX7_waysMeet_27 : decode cX7_waysMeet 27 = .ok (.invokestatic 16, 3) := by decide +kernel
theorem dX7_waysMeet_30 : decode cX7_waysMeet 30 = .ok (.invokestatic 35, 3) := by decide +kernel
theorem dX7_waysMeet_33 : decode cX7_waysMeet 33 = .ok (.ifCond .eq 5, 3) := by decide +kernel
theorem dX7_waysMeet_36 : decode cX7_waysMeet 36 = .ok (.iconst 1, 1) := by decide +kernel
theorem dX7_waysMeet_37 : decode cX7_waysMeet 37 = .ok (.ireturn, 1) := by decide +kernel
theorem dX7_waysMeet_38 : decode cX7_waysMeet 38 = .ok (.aload_n 0, 1) := by decide +kernel
theorem dX7_waysMeet_39 : decode cX7_waysMeet 39 = .ok (.aload_n 1, 1) := by decide +kernel
theorem dX7_waysMeet_40 : decode cX7_waysMeet 40 = .ok (.aload_n 2, 1) := by decide +kernel
theorem dX7_waysMeet_41 : decode cX7_waysMeet 41 = .ok (.invokestatic 39, 3) := by decide +kernel
theorem dX7_waysMeet_44 : decode cX7_waysMeet 44 = .ok (.ifCond .ne 30, 3) := by decide +kernel
theorem dX7_waysMeet_47 : decode cX7_waysMeet 47 = .ok (.aload_n 0, 1) := by decide +kernel
theorem dX7_waysMeet_48 : decode cX7_waysMeet 48 = .ok (.aload_n 1, 1) := by decide +kernel
theorem dX7_waysMeet_49 : decode cX7_waysMeet 49 = .ok (.aload_n 3, 1) := by decide +kernel
theorem dX7_waysMeet_50 : decode cX7_waysMeet 50 = .ok (.invokestatic 39, 3) := by decide +kernel
theorem dX7_waysMeet_53 : decode cX7_waysMeet 53 = .ok (.ifCond .ne 21, 3) := by decide +kernel
theorem dX7_waysMeet_56 : decode cX7_waysMeet 56 = .ok (.aload_n 2, 1) := by decide +kernel
theorem dX7_waysMeet_57 : decode cX7_waysMeet 57 = .ok (.aload_n 3, 1) := by decide +kernel
theorem dX7_waysMeet_58 : decode cX7_waysMeet 58 = .ok (.aload_n 0, 1) := by decide +kernel
theorem dX7_waysMeet_59 : decode cX7_waysMeet 59 = .ok (.invokestatic 39, 3) := by decide +kernel
theorem dX7_waysMeet_62 : decode cX7_waysMeet 62 = .ok (.ifCond .ne 12, 3) := by decide +kernel
theorem dX7_waysMeet_65 : decode cX7_waysMeet 65 = .ok (.aload_n 2, 1) := by decide +kernel
theorem dX7_waysMeet_66 : decode cX7_waysMeet 66 = .ok (.aload_n 3, 1) := by decide +kernel
theorem dX7_waysMeet_67 : decode cX7_waysMeet 67 = .ok (.aload_n 1, 1) := by decide +kernel
theorem dX7_waysMeet_68 : decode cX7_waysMeet 68 = .ok (.invokestatic 39, 3) := by decide +kernel
theorem dX7_waysMeet_71 : decode cX7_waysMeet 71 = .ok (.ifCond .eq 7, 3) := by decide +kernel
theorem dX7_waysMeet_74 : decode cX7_waysMeet 74 = .ok (.iconst 1, 1) := by decide +kernel
theorem dX7_waysMeet_75 : decode cX7_waysMeet 75 = .ok (.goto 4, 3) := by decide +kernel
theorem dX7_waysMeet_78 : decode cX7_waysMeet 78 = .ok (.iconst 0, 1) := by decide +kernel
theorem dX7_waysMeet_79 : decode cX7_waysMeet 79 = .ok (.ireturn, 1) := by decide +kernel
theorem dX8_add_0 : decode cX8_add 0 = .ok (.bipush 32, 2) := by decide +kernel
theorem dX8_add_2 : decode cX8_add 2 = .ok (.bipush 126, 2) := by decide +kernel
theorem dX8_add_4 : decode cX8_add 4 = .ok (.iload_n 1, 1) := by decide +kernel
theorem dX8_add_5 : decode cX8_add 5 = .ok (.invokestatic 15, 3) := by decide +kernel
theorem dX8_add_8 : decode cX8_add 8 = .ok (.ifCond .ne 9, 3) := by decide +kernel
theorem dX8_add_11 : decode cX8_add 11 = .ok (.iload_n 1, 1) := by decide +kernel
theorem dX8_add_12 : decode cX8_add 12 = .ok (.bipush 10, 2) := by decide +kernel
theorem dX8_add_14 : decode cX8_add 14 = .ok (.if_icmp .ne 13, 3) := by decide +kernel
theorem dX8_add_17 : decode cX8_add 17 = .ok (.aload_n 0, 1) := by decide +kernel
theorem dX8_add_18 : decode cX8_add 18 = .ok (.getfield 19, 3) := by decide +kernel
theorem dX8_add_21 : decode cX8_add 21 = .ok (.sipush 600, 3) := by decide +kernel
theorem dX8_add_24 : decode cX8_add 24 = .ok (.if_icmp .lt 5, 3) := by decide +kernel
theorem dX8_add_27 : decode cX8_add 27 = .ok (.iconst 0, 1) := by decide +kernel
theorem dX8_add_28 : decode cX8_add 28 = .ok (.ireturn, 1) := by decide +kernel
theorem dX8_add_29 : decode cX8_add 29 = .ok (.aload_n 0, 1) := by decide +kernel
theorem dX8_add_30 : decode cX8_add 30 = .ok (.getfield 9, 3) := by decide +kernel
theorem dX8_add_33 : decode cX8_add 33 = .ok (.aload_n 0, 1) := by decide +kernel
theorem dX8_add_34 : decode cX8_add 34 = .ok (.getfield 19, 3) := by decide +kernel
theorem dX8_add_37 : decode cX8_add 37 = .ok (.iload_n 1, 1) := by decide +kernel
theorem dX8_add_38 : decode cX8_add 38 = .ok (.i2c, 1) := by decide +kernel
theorem dX8_add_39 : decode cX8_add 39 = .ok (.castore, 1) := by decide +kernel
theorem dX8_add_40 : decode cX8_add 40 = .ok (.aload_n 0, 1) := by decide +kernel
theorem dX8_add_41 : decode cX8_add 41 = .ok (.dup, 1) := by decide +kernel
theorem dX8_add_42 : decode cX8_add 42 = .ok (.getfield 19, 3) := by decide +kernel
theorem dX8_add_45 : decode cX8_add 45 = .ok (.iconst 1, 1) := by decide +kernel
theorem dX8_add_46 : decode cX8_add 46 = .ok (.iadd, 1) := by decide +kernel
theorem dX8_add_47 : decode cX8_add 47 = .ok (.putfield 19, 3) := by decide +kernel
theorem dX8_add_50 : decode cX8_add 50 = .ok (.iconst 1, 1) := by decide +kernel
theorem dX8_add_51 : decode cX8_add 51 = .ok (.ireturn, 1) := by decide +kernel
theorem dX8_clear_0 : decode cX8_clear 0 = .ok (.aload_n 0, 1) := by decide +kernel
theorem dX8_clear_1 : decode cX8_clear 1 = .ok (.iconst 0, 1) := by decide +kernel
theorem dX8_clear_2 : decode cX8_clear 2 = .ok (.putfield 19, 3) := by decide +kernel
theorem dX8_clear_5 : decode cX8_clear 5 = .ok (.return_, 1) := by decide +kernel
theorem dX8_init_0 : decode cX8_init 0 = .ok (.aload_n 0, 1) := by decide +kernel
theorem dX8_init_1 : decode cX8_init 1 = .ok (.invokespecial 3, 3) := by decide +kernel
theorem dX8_init_4 : decode cX8_init 4 = .ok (.aload_n 0, 1) := by decide +kernel
theorem dX8_init_5 : decode cX8_init 5 = .ok (.sipush 600, 3) := by decide +kernel
theorem dX8_init_8 : decode cX8_init 8 = .ok (.newarray .char, 2) := by decide +kernel
theorem dX8_init_10 : decode cX8_init 10 = .ok (.putfield 9, 3) := by decide +kernel
theorem dX8_init_13 : decode cX8_init 13 = .ok (.return_, 1) := by decide +kernel
theorem dX8_isGap_0 : decode cX8_isGap 0 = .ok (.iload_n 0, 1) := by decide +kernel
theorem dX8_isGap_1 : decode cX8_isGap 1 = .ok (.bipush 32, 2) := by decide +kernel
theorem dX8_isGap_3 : decode cX8_isGap 3 = .ok (.if_icmp .eq 9, 3) := by decide +kernel
theorem dX8_isGap_6 : decode cX8_isGap 6 = .ok (.iload_n 0, 1) := by decide +kernel
theorem dX8_isGap_7 : decode cX8_isGap 7 = .ok (.bipush 10, 2) := by decide +kernel
theorem dX8_isGap_9 : decode cX8_isGap 9 = .ok (.if_icmp .ne 7, 3) := by decide +kernel
theorem dX8_isGap_12 : decode cX8_isGap 12 = .ok (.iconst 1, 1) := by decide +kernel
theorem dX8_isGap_13 : decode cX8_isGap 13 = .ok (.goto 4, 3) := by decide +kernel
theorem dX8_isGap_16 : decode cX8_isGap 16 = .ok (.iconst 0, 1) := by decide +kernel
theorem dX8_isGap_17 : decode cX8_isGap 17 = .ok (.ireturn, 1) := by decide +kernel
theorem dX8_isLetter_0 : decode cX8_isLetter 0 = .ok (.aload_n 0, 1) := by decide +kernel
theorem dX8_isLetter_1 : decode cX8_isLetter 1 = .ok (.getfield 23, 3) := by decide +kernel
theorem dX8_isLetter_4 : decode cX8_isLetter 4 = .ok (.aload_n 0, 1) := by decide +kernel
theorem dX8_isLetter_5 : decode cX8_isLetter 5 = .ok (.getfield 32, 3) := by decide +kernel
theorem dX8_isLetter_8 : decode cX8_isLetter 8 = .ok (.isub, 1) := by decide +kernel
theorem dX8_isLetter_9 : decode cX8_isLetter 9 = .ok (.iconst 1, 1) := by decide +kernel
theorem dX8_isLetter_10 : decode cX8_isLetter 10 = .ok (.if_icmp .ne 20, 3) := by decide +kernel
theorem dX8_isLetter_13 : decode cX8_isLetter 13 = .ok (.aload_n 0, 1) := by decide +kernel
theorem dX8_isLetter_14 : decode cX8_isLetter 14 = .ok (.getfield 9, 3) := by decide +kernel
theorem dX8_isLetter_17 : decode cX8_isLetter 17 = .ok (.aload_n 0, 1) := by decide +kernel
theorem dX8_isLetter_18 : decode cX8_isLetter 18 = .ok (.getfield 32, 3) := by decide +kernel
theorem dX8_isLetter_21 : decode cX8_isLetter 21 = .ok (.caload, 1) := by decide +kernel
theorem dX8_isLetter_22 : decode cX8_isLetter 22 = .ok (.iload_n 1, 1) := by decide +kernel
theorem dX8_isLetter_23 : decode cX8_isLetter 23 = .ok (.if_icmp .ne 7, 3) := by decide +kernel
theorem dX8_isLetter_26 : decode cX8_isLetter 26 = .ok (.iconst 1, 1) := by decide +kernel
theorem dX8_isLetter_27 : decode cX8_isLetter 27 = .ok (.goto 4, 3) := by decide +kernel
theorem dX8_isLetter_30 : decode cX8_isLetter 30 = .ok (.iconst 0, 1) := by decide +kernel
theorem dX8_isLetter_31 : decode cX8_isLetter 31 = .ok (.ireturn, 1) := by decide +kernel
theorem dX8_isNumber_0 : decode cX8_isNumber 0 = .ok (.aload_n 0, 1) := by decide +kernel
theorem dX8_isNumber_1 : decode cX8_isNumber 1 = .ok (.getfield 32, 3) := by decide +kernel
theorem dX8_isNumber_4 : decode cX8_isNumber 4 = .ok (.aload_n 0, 1) := by decide +kernel
theorem dX8_isNumber_5 : decode cX8_isNumber 5 = .ok (.getfield 23, 3) := by decide +kernel
theorem dX8_isNumber_8 : decode cX8_isNumber 8 = .ok (.if_icmp .ge 21, 3) := by decide +kernel
theorem dX8_isNumber_11 : decode cX8_isNumber 11 = .ok (.aload_n 0, 1) := by decide +kernel
theorem dX8_isNumber_12 : decode cX8_isNumber 12 = .ok (.getfield 9, 3) := by decide +kernel
theorem dX8_isNumber_15 : decode cX8_isNumber 15 = .ok (.aload_n 0, 1) := by decide +kernel
theorem dX8_isNumber_16 : decode cX8_isNumber 16 = .ok (.getfield 32, 3) := by decide +kernel
theorem dX8_isNumber_19 : decode cX8_isNumber 19 = .ok (.caload, 1) := by decide +kernel
theorem dX8_isNumber_20 : decode cX8_isNumber 20 = .ok (.bipush 45, 2) := by decide +kernel
theorem dX8_isNumber_22 : decode cX8_isNumber 22 = .ok (.if_icmp .ne 7, 3) := by decide +kernel
theorem dX8_isNumber_25 : decode cX8_isNumber 25 = .ok (.iconst 1, 1) := by decide +kernel
theorem dX8_isNumber_26 : decode cX8_isNumber 26 = .ok (.goto 4, 3) := by decide +kernel
theorem dX8_isNumber_29 : decode cX8_isNumber 29 = .ok (.iconst 0, 1) := by decide +kernel
theorem dX8_isNumber_30 : decode cX8_isNumber 30 = .ok (.istore_n 3, 1) := by decide +kernel
theorem dX8_isNumber_31 : decode cX8_isNumber 31 = .ok (.iload_n 3, 1) := by decide +kernel
theorem dX8_isNumber_32 : decode cX8_isNumber 32 = .ok (.ifCond .eq 12, 3) := by decide +kernel
theorem dX8_isNumber_35 : decode cX8_isNumber 35 = .ok (.aload_n 0, 1) := by decide +kernel
theorem dX8_isNumber_36 : decode cX8_isNumber 36 = .ok (.getfield 32, 3) := by decide +kernel
theorem dX8_isNumber_39 : decode cX8_isNumber 39 = .ok (.iconst 1, 1) := by decide +kernel
theorem dX8_isNumber_40 : decode cX8_isNumber 40 = .ok (.iadd, 1) := by decide +kernel
theorem dX8_isNumber_41 : decode cX8_isNumber 41 = .ok (.goto 7, 3) := by decide +kernel
theorem dX8_isNumber_44 : decode cX8_isNumber 44 = .ok (.aload_n 0, 1) := by decide +kernel
theorem dX8_isNumber_45 : decode cX8_isNumber 45 = .ok (.getfield 32, 3) := by decide +kernel
theorem dX8_isNumber_48 : decode cX8_isNumber 48 = .ok (.istore 4, 2) := by decide +kernel
theorem dX8_isNumber_50 : decode cX8_isNumber 50 = .ok (.iconst 1, 1) := by decide +kernel
theorem dX8_isNumber_51 : decode cX8_isNumber 51 = .ok (.bipush 6, 2) := by decide +kernel
theorem dX8_isNumber_53 : decode cX8_isNumber 53 = .ok (.aload_n 0, 1) := by decide +kernel
theorem dX8_isNumber_54 : decode cX8_isNumber 54 = .ok (.getfield 23, 3) := by decide +kernel
theorem dX8_isNumber_57 : decode cX8_isNumber 57 = .ok (.iload 4, 2) := by decide +kernel
theorem dX8_isNumber_59 : decode cX8_isNumber 59 = .ok (.isub, 1) := by decide +kernel
theorem dX8_isNumber_60 : decode cX8_isNumber 60 = .ok (.invokestatic 15, 3) := by decide +kernel
theorem dX8_isNumber_63 : decode cX8_isNumber 63 = .ok (.ifCond .ne 5, 3) := by decide +kernel
theorem dX8_isNumber_66 : decode cX8_isNumber 66 = .ok (.iconst 0, 1) := by decide +kernel
theorem dX8_isNumber_67 : decode cX8_isNumber 67 = .ok (.ireturn, 1) := by decide +kernel
theorem dX8_isNumber_68 : decode cX8_isNumber 68 = .ok (.iconst 0, 1) := by decide +kernel
theorem dX8_isNumber_69 : decode cX8_isNumber 69 = .ok (.istore 5, 2) := by decide +kernel
theorem dX8_isNumber_71 : decode cX8_isNumber 71 = .ok (.iload 4, 2) := by decide +kernel
theorem dX8_isNumber_73 : decode cX8_isNumber 73 = .ok (.istore 6, 2) := by decide +kernel
theorem dX8_isNumber_75 : decode cX8_isNumber 75 = .ok (.iload 6, 2) := by decide +kernel
theorem dX8_isNumber_77 : decode cX8_isNumber 77 = .ok (.aload_n 0, 1) := by decide +kernel
theorem dX8_isNumber_78 : decode cX8_isNumber 78 = .ok (.getfield 23, 3) := by decide +kernel
theorem dX8_isNumber_81 : decode cX8_isNumber 81 = .ok (.if_icmp .ge 46, 3) := by decide +kernel
theorem dX8_isNumber_84 : decode cX8_isNumber 84 = .ok (.bipush 48, 2) := by decide +kernel
theorem dX8_isNumber_86 : decode cX8_isNumber 86 = .ok (.bipush 57, 2) := by decide +kernel
theorem dX8_isNumber_88 : decode cX8_isNumber 88 = .ok (.aload_n 0, 1) := by decide +kernel
theorem dX8_isNumber_89 : decode cX8_isNumber 89 = .ok (.getfield 9, 3) := by decide +kernel
theorem dX8_isNumber_92 : decode cX8_isNumber 92 = .ok (.iload 6, 2) := by decide +kernel
theorem dX8_isNumber_94 : decode cX8_isNumber 94 = .ok (.caload, 1) := by decide +kernel
theorem dX8_isNumber_95 : decode cX8_isNumber 95 = .ok (.invokestatic 15, 3) := by decide +kernel
theorem dX8_isNumber_98 : decode cX8_isNumber 98 = .ok (.ifCond .ne 5, 3) := by decide +kernel
theorem dX8_isNumber_101 : decode cX8_isNumber 101 = .ok (.iconst 0, 1) := by decide +kernel
theorem dX8_isNumber_102 : decode cX8_isNumber 102 = .ok (.ireturn, 1) := by decide +kernel
theorem dX8_isNumber_103 : decode cX8_isNumber 103 = .ok (.iload 5, 2) := by decide +kernel
theorem dX8_isNumber_105 : decode cX8_isNumber 105 = .ok (.bipush 10, 2) := by decide +kernel
theorem dX8_isNumber_107 : decode cX8_isNumber 107 = .ok (.imul, 1) := by decide +kernel
theorem dX8_isNumber_108 : decode cX8_isNumber 108 = .ok (.aload_n 0, 1) := by decide +kernel
theorem dX8_isNumber_109 : decode cX8_isNumber 109 = .ok (.getfield 9, 3) := by decide +kernel
theorem dX8_isNumber_112 : decode cX8_isNumber 112 = .ok (.iload 6, 2) := by decide +kernel
theorem dX8_isNumber_114 : decode cX8_isNumber 114 = .ok (.caload, 1) := by decide +kernel
theorem dX8_isNumber_115 : decode cX8_isNumber 115 = .ok (.bipush 48, 2) := by decide +kernel
theorem dX8_isNumber_117 : decode cX8_isNumber 117 = .ok (.isub, 1) := by decide +kernel
theorem dX8_isNumber_118 : decode cX8_isNumber 118 = .ok (.iadd, 1) := by decide +kernel
theorem dX8_isNumber_119 : decode cX8_isNumber 119 = .ok (.istore 5, 2) := by decide +kernel
theorem dX8_isNumber_121 : decode cX8_isNumber 121 = .ok (.iinc 6 1, 3) := by decide +kernel
theorem dX8_isNumber_124 : decode cX8_isNumber 124 = .ok (.goto (-49), 3) := by decide +kernel
theorem dX8_isNumber_127 : decode cX8_isNumber 127 = .ok (.aload_n 0, 1) := by decide +kernel
theorem dX8_isNumber_128 : decode cX8_isNumber 128 = .ok (.iload_n 3, 1) := by decide +kernel
theorem dX8_isNumber_129 : decode cX8_isNumber 129 = .ok (.ifCond .eq 9, 3) := by decide +kernel
theorem dX8_isNumber_132 : decode cX8_isNumber 132 = .ok (.iload 5, 2) := by decide +kernel
theorem dX8_isNumber_134 : decode cX8_isNumber 134 = .ok (.ineg, 1) := by decide +kernel
theorem dX8_isNumber_135 : decode cX8_isNumber 135 = .ok (.goto 5, 3) := by decide +kernel
theorem dX8_isNumber_138 : decode cX8_isNumber 138 = .ok (.iload 5, 2) := by decide +kernel
theorem dX8_isNumber_140 : decode cX8_isNumber 140 = .ok (.putfield 53, 3) := by decide +kernel
theorem dX8_isNumber_143 : decode cX8_isNumber 143 = .ok (.iload_n 1, 1) := by decide +kernel
theorem dX8_isNumber_144 : decode cX8_isNumber 144 = .ok (.iload_n 2, 1) := by decide +kernel
theorem dX8_isNumber_145 : decode cX8_isNumber 145 = .ok (.aload_n 0, 1) := by decide +kernel
theorem dX8_isNumber_146 : decode cX8_isNumber 146 = .ok (.getfield 53, 3) := by decide +kernel
theorem dX8_isNumber_149 : decode cX8_isNumber 149 = .ok (.invokestatic 15, 3) := by decide +kernel
theorem dX8_isNumber_152 : decode cX8_isNumber 152 = .ok (.ireturn, 1) := by decide +kernel
theorem dX8_moveToNextWord_0 : decode cX8_moveToNextWord 0 = .ok (.aload_n 0, 1) := by decide +kernel
theorem dX8_moveToNextWord_1 : decode cX8_moveToNextWord 1 = .ok (.aload_n 0, 1) := by decide +kernel
theorem dX8_moveToNextWord_2 : decode cX8_moveToNextWord 2 = .ok (.getfield 23, 3) := by decide +kernel
theorem dX8_moveToNextWord_5 : decode cX8_moveToNextWord 5 = .ok (.putfield 32, 3) := by decide +kernel
theorem dX8_moveToNextWord_8 : decode cX8_moveToNextWord 8 = .ok (.aload_n 0, 1) := by decide +kernel
theorem dX8_moveToNextWord_9 : decode cX8_moveToNextWord 9 = .ok (.getfield 32, 3) := by decide +kernel
theorem dX8_moveToNextWord_12 : decode cX8_moveToNextWord 12 = .ok (.aload_n 0, 1) := by decide +kernel
theorem dX8_moveToNextWord_13 : decode cX8_moveToNextWord 13 = .ok (.getfield 19, 3) := by decide +kernel
theorem dX8_moveToNextWord_16 : decode cX8_moveToNextWord 16 = .ok (.if_icmp .ge 31, 3) := by decide +kernel
theorem dX8_moveToNextWord_19 : decode cX8_moveToNextWord 19 = .ok (.aload_n 0, 1) := by decide +kernel
theorem dX8_moveToNextWord_20 : decode cX8_moveToNextWord 20 = .ok (.getfield 9, 3) := by decide +kernel
theorem dX8_moveToNextWord_23 : decode cX8_moveToNextWord 23 = .ok (.aload_n 0, 1) := by decide +kernel
theorem dX8_moveToNextWord_24 : decode cX8_moveToNextWord 24 = .ok (.getfield 32, 3) := by decide +kernel
theorem dX8_moveToNextWord_27 : decode cX8_moveToNextWord 27 = .ok (.caload, 1) := by decide +kernel
theorem dX8_moveToNextWord_28 : decode cX8_moveToNextWord 28 = .ok (.invokestatic 76, 3) := by decide +kernel
theorem dX8_moveToNextWord_31 : decode cX8_moveToNextWord 31 = .ok (.ifCond .eq 16, 3) := by decide +kernel
theorem dX8_moveToNextWord_34 : decode cX8_moveToNextWord 34 = .ok (.aload_n 0, 1) := by decide +kernel
theorem dX8_moveToNextWord_35 : decode cX8_moveToNextWord 35 = .ok (.dup, 1) := by decide +kernel
theorem dX8_moveToNextWord_36 : decode cX8_moveToNextWord 36 = .ok (.getfield 32, 3) := by decide +kernel
theorem dX8_moveToNextWord_39 : decode cX8_moveToNextWord 39 = .ok (.iconst 1, 1) := by decide +kernel
theorem dX8_moveToNextWord_40 : decode cX8_moveToNextWord 40 = .ok (.iadd, 1) := by decide +kernel
theorem dX8_moveToNextWord_41 : decode cX8_moveToNextWord 41 = .ok (.putfield 32, 3) := by decide +kernel
theorem dX8_moveToNextWord_44 : decode cX8_moveToNextWord 44 = .ok (.goto (-36), 3) := by decide +kernel
theorem dX8_moveToNextWord_47 : decode cX8_moveToNextWord 47 = .ok (.aload_n 0, 1) := by decide +kernel
theorem dX8_moveToNextWord_48 : decode cX8_moveToNextWord 48 = .ok (.aload_n 0, 1) := by decide +kernel
theorem dX8_moveToNextWord_49 : decode cX8_moveToNextWord 49 = .ok (.getfield 32, 3) := by decide +kernel
theorem dX8_moveToNextWord_52 : decode cX8_moveToNextWord 52 = .ok (.putfield 23, 3) := by decide +kernel
theorem dX8_moveToNextWord_55 : decode cX8_moveToNextWord 55 = .ok (.aload_n 0, 1) := by decide +kernel
theorem dX8_moveToNextWord_56 : decode cX8_moveToNextWord 56 = .ok (.getfield 23, 3) := by decide +kernel
theorem dX8_moveToNextWord_59 : decode cX8_moveToNextWord 59 = .ok (.aload_n 0, 1) := by decide +kernel
theorem dX8_moveToNextWord_60 : decode cX8_moveToNextWord 60 = .ok (.getfield 19, 3) := by decide +kernel
theorem dX8_moveToNextWord_63 : decode cX8_moveToNextWord 63 = .ok (.if_icmp .ge 31, 3) := by decide +kernel
theorem dX8_moveToNextWord_66 : decode cX8_moveToNextWord 66 = .ok (.aload_n 0, 1) := by decide +kernel
theorem dX8_moveToNextWord_67 : decode cX8_moveToNextWord 67 = .ok (.getfield 9, 3) := by decide +kernel
theorem dX8_moveToNextWord_70 : decode cX8_moveToNextWord 70 = .ok (.aload_n 0, 1) := by decide +kernel
theorem dX8_moveToNextWord_71 : decode cX8_moveToNextWord 71 = .ok (.getfield 23, 3) := by decide +kernel
theorem dX8_moveToNextWord_74 : decode cX8_moveToNextWord 74 = .ok (.caload, 1) := by decide +kernel
theorem dX8_moveToNextWord_75 : decode cX8_moveToNextWord 75 = .ok (.invokestatic 76, 3) := by decide +kernel
theorem dX8_moveToNextWord_78 : decode cX8_moveToNextWord 78 = .ok (.ifCond .ne 16, 3) := by decide +kernel
theorem dX8_moveToNextWord_81 : decode cX8_moveToNextWord 81 = .ok (.aload_n 0, 1) := by decide +kernel
theorem dX8_moveToNextWord_82 : decode cX8_moveToNextWord 82 = .ok (.dup, 1) := by decide +kernel
theorem dX8_moveToNextWord_83 : decode cX8_moveToNextWord 83 = .ok (.getfield 23, 3) := by decide +kernel
theorem dX8_moveToNextWord_86 : decode cX8_moveToNextWord 86 = .ok (.iconst 1, 1) := by decide +kernel
theorem dX8_moveToNextWord_87 : decode cX8_moveToNextWord 87 = .ok (.iadd, 1) := by decide +kernel
theorem dX8_moveToNextWord_88 : decode cX8_moveToNextWord 88 = .ok (.putfield 23, 3) := by decide +kernel
theorem dX8_moveToNextWord_91 : decode cX8_moveToNextWord 91 = .ok (.goto (-36), 3) := by decide +kernel
theorem dX8_moveToNextWord_94 : decode cX8_moveToNextWord 94 = .ok (.aload_n 0, 1) := by decide +kernel
theorem dX8_moveToNextWord_95 : decode cX8_moveToNextWord 95 = .ok (.dup, 1) := by decide +kernel
theorem dX8_moveToNextWord_96 : decode cX8_moveToNextWord 96 = .ok (.getfield 26, 3) := by decide +kernel
theorem dX8_moveToNextWord_99 : decode cX8_moveToNextWord 99 = .ok (.iconst 1, 1) := by decide +kernel
theorem dX8_moveToNextWord_100 : decode cX8_moveToNextWord 100 = .ok (.iadd, 1) := by decide +kernel
theorem dX8_moveToNextWord_101 : decode cX8_moveToNextWord 101 = .ok (.putfield 26, 3) := by decide +kernel
theorem dX8_moveToNextWord_104 : decode cX8_moveToNextWord 104 = .ok (.return_, 1) := by decide +kernel
