theorem dL_layer_0 : decode cL_layer 0 = .ok (.aload 4, 2) := by decide +kernel
theorem dL_layer_2 : decode cL_layer 2 = .ok (.iconst 0, 1) := by decide +kernel
theorem dL_layer_3 : decode cL_layer 3 = .ok (.aload_n 0, 1) := by decide +kernel
theorem dL_layer_4 : decode cL_layer 4 = .ok (.iload_n 1, 1) := by decide +kernel
theorem dL_layer_5 : decode cL_layer 5 = .ok (.iload_n 2, 1) := by decide +kernel
theorem dL_layer_6 : decode cL_layer 6 = .ok (.iload_n 3, 1) := by decide +kernel
theorem dL_layer_7 : decode cL_layer 7 = .ok (.invokevirtual 17, 3) := by decide +kernel
theorem dL_layer_10 : decode cL_layer 10 = .ok (.i2l, 1) := by decide +kernel
theorem dL_layer_11 : decode cL_layer 11 = .ok (.lastore, 1) := by decide +kernel
theorem dL_layer_12 : decode cL_layer 12 = .ok (.goto 15, 3) := by decide +kernel
theorem dL_layer_15 : decode cL_layer 15 = .ok (.astore 5, 2) := by decide +kernel
theorem dL_layer_17 : decode cL_layer 17 = .ok (.iconst 1, 1) := by decide +kernel
theorem dL_layer_18 : decode cL_layer 18 = .ok (.ireturn, 1) := by decide +kernel
theorem dL_layer_19 : decode cL_layer 19 = .ok (.astore 5, 2) := by decide +kernel
theorem dL_layer_21 : decode cL_layer 21 = .ok (.iconst 2, 1) := by decide +kernel
theorem dL_layer_22 : decode cL_layer 22 = .ok (.ireturn, 1) := by decide +kernel
theorem dL_layer_23 : decode cL_layer 23 = .ok (.astore 5, 2) := by decide +kernel
theorem dL_layer_25 : decode cL_layer 25 = .ok (.iconst 3, 1) := by decide +kernel
theorem dL_layer_26 : decode cL_layer 26 = .ok (.ireturn, 1) := by decide +kernel
theorem dL_layer_27 : decode cL_layer 27 = .ok (.iconst 0, 1) := by decide +kernel
theorem dL_layer_28 : decode cL_layer 28 = .ok (.ireturn, 1) := by decide +kernel
theorem dL_match_0 : decode cL_match 0 = .ok (.aload 4, 2) := by decide +kernel
theorem dL_match_2 : decode cL_match 2 = .ok (.iconst 0, 1) := by decide +kernel
theorem dL_match_3 : decode cL_match 3 = .ok (.aload_n 0, 1) := by decide +kernel
theorem dL_match_4 : decode cL_match 4 = .ok (.iload_n 1, 1) := by decide +kernel
theorem dL_match_5 : decode cL_match 5 = .ok (.iload_n 2, 1) := by decide +kernel
theorem dL_match_6 : decode cL_match 6 = .ok (.iload_n 3, 1) := by decide +kernel
theorem dL_match_7 : decode cL_match 7 = .ok (.invokevirtual 35, 3) := by decide +kernel
theorem dL_match_10 : decode cL_match 10 = .ok (.i2l, 1) := by decide +kernel
theorem dL_match_11 : decode cL_match 11 = .ok (.lastore, 1) := by decide +kernel
theorem dL_match_12 : decode cL_match 12 = .ok (.goto 15, 3) := by decide +kernel
theorem dL_match_15 : decode cL_match 15 = .ok (.astore 5, 2) := by decide +kernel
theorem dL_match_17 : decode cL_match 17 = .ok (.iconst 1, 1) := by decide +kernel
theorem dL_match_18 : decode cL_match 18 = .ok (.ireturn, 1) := by decide +kernel
theorem dL_match_19 : decode cL_match 19 = .ok (.astore 5, 2) := by decide +kernel
theorem dL_match_21 : decode cL_match 21 = .ok (.iconst 2, 1) := by decide +kernel
theorem dL_match_22 : decode cL_match 22 = .ok (.ireturn, 1) := by decide +kernel
theorem dL_match_23 : decode cL_match 23 = .ok (.astore 5, 2) := by decide +kernel
theorem dL_match_25 : decode cL_match 25 = .ok (.iconst 3, 1) := by decide +kernel
theorem dL_match_26 : decode cL_match 26 = .ok (.ireturn, 1) := by decide +kernel
theorem dL_match_27 : decode cL_match 27 = .ok (.iconst 0, 1) := by decide +kernel
theorem dL_match_28 : decode cL_match 28 = .ok (.ireturn, 1) := by decide +kernel
theorem dL_section_0 : decode cL_section 0 = .ok (.aload 5, 2) := by decide +kernel
theorem dL_section_2 : decode cL_section 2 = .ok (.iconst 0, 1) := by decide +kernel
theorem dL_section_3 : decode cL_section 3 = .ok (.aload_n 0, 1) := by decide +kernel
theorem dL_section_4 : decode cL_section 4 = .ok (.iload_n 1, 1) := by decide +kernel
theorem dL_section_5 : decode cL_section 5 = .ok (.iload_n 2, 1) := by decide +kernel
theorem dL_section_6 : decode cL_section 6 = .ok (.iload_n 3, 1) := by decide +kernel
theorem dL_section_7 : decode cL_section 7 = .ok (.iload 4, 2) := by decide +kernel
theorem dL_section_9 : decode cL_section 9 = .ok (.invokevirtual 41, 3) := by decide +kernel
theorem dL_section_12 : decode cL_section 12 = .ok (.i2l, 1) := by decide +kernel
theorem dL_section_13 : decode cL_section 13 = .ok (.lastore, 1) := by decide +kernel
theorem dL_section_14 : decode cL_section 14 = .ok (.goto 15, 3) := by decide +kernel
theorem dL_section_17 : decode cL_section 17 = .ok (.astore 6, 2) := by decide +kernel
theorem dL_section_19 : decode cL_section 19 = .ok (.iconst 1, 1) := by decide +kernel
theorem dL_section_20 : decode cL_section 20 = .ok (.ireturn, 1) := by decide +kernel
theorem dL_section_21 : decode cL_section 21 = .ok (.astore 6, 2) := by decide +kernel
theorem dL_section_23 : decode cL_section 23 = .ok (.iconst 2, 1) := by decide +kernel
theorem dL_section_24 : decode cL_section 24 = .ok (.ireturn, 1) := by decide +kernel
theorem dL_section_25 : decode cL_section 25 = .ok (.astore 6, 2) := by decide +kernel
theorem dL_section_27 : decode cL_section 27 = .ok (.iconst 3, 1) := by decide +kernel
theorem dL_section_28 : decode cL_section 28 = .ok (.ireturn, 1) := by decide +kernel
theorem dL_section_29 : decode cL_section 29 = .ok (.iconst 0, 1) := by decide +kernel
theorem dL_section_30 : decode cL_section 30 = .ok (.ireturn, 1) := by decide +kernel
theorem dL_sum_0 : decode cL_sum 0 = .ok (.aload_n 3, 1) := by decide +kernel
theorem dL_sum_1 : decode cL_sum 1 = .ok (.iconst 0, 1) := by decide +kernel
theorem dL_sum_2 : decode cL_sum 2 = .ok (.aload_n 0, 1) := by decide +kernel
theorem dL_sum_3 : decode cL_sum 3 = .ok (.iload_n 1, 1) := by decide +kernel
theorem dL_sum_4 : decode cL_sum 4 = .ok (.iload_n 2, 1) := by decide +kernel
theorem dL_sum_5 : decode cL_sum 5 = .ok (.invokevirtual 38, 3) := by decide +kernel
theorem dL_sum_8 : decode cL_sum 8 = .ok (.i2l, 1) := by decide +kernel
theorem dL_sum_9 : decode cL_sum 9 = .ok (.lastore, 1) := by decide +kernel
theorem dL_sum_10 : decode cL_sum 10 = .ok (.goto 15, 3) := by decide +kernel
theorem dL_sum_13 : decode cL_sum 13 = .ok (.astore 4, 2) := by decide +kernel
theorem dL_sum_15 : decode cL_sum 15 = .ok (.iconst 1, 1) := by decide +kernel
theorem dL_sum_16 : decode cL_sum 16 = .ok (.ireturn, 1) := by decide +kernel
theorem dL_sum_17 : decode cL_sum 17 = .ok (.astore 4, 2) := by decide +kernel
theorem dL_sum_19 : decode cL_sum 19 = .ok (.iconst 2, 1) := by decide +kernel
theorem dL_sum_20 : decode cL_sum 20 = .ok (.ireturn, 1) := by decide +kernel
theorem dL_sum_21 : decode cL_sum 21 = .ok (.astore 4, 2) := by decide +kernel
theorem dL_sum_23 : decode cL_sum 23 = .ok (.iconst 3, 1) := by decide +kernel
theorem dL_sum_24 : decode cL_sum 24 = .ok (.ireturn, 1) := by decide +kernel
theorem dL_sum_25 : decode cL_sum 25 = .ok (.iconst 0, 1) := by decide +kernel
theorem dL_sum_26 : decode cL_sum 26 = .ok (.ireturn, 1) := by decide +kernel
theorem dL_triangle_0 : decode cL_triangle 0 = .ok (.aload_n 3, 1) := by decide +kernel
theorem dL_triangle_1 : decode cL_triangle 1 = .ok (.iconst 0, 1) := by decide +kernel
theorem dL_triangle_2 : decode cL_triangle 2 = .ok (.aload_n 0, 1) := by decide +kernel
theorem dL_triangle_3 : decode cL_triangle 3 = .ok (.iload_n 1, 1) := by decide +kernel
theorem dL_triangle_4 : decode cL_triangle 4 = .ok (.iload_n 2, 1) := by decide +kernel
theorem dL_triangle_5 : decode cL_triangle 5 = .ok (.invokevirtual 32, 3) := by decide +kernel
theorem dL_triangle_8 : decode cL_triangle 8 = .ok (.i2l, 1) := by decide +kernel
theorem dL_triangle_9 : decode cL_triangle 9 = .ok (.lastore, 1) := by decide +kernel
theorem dL_triangle_10 : decode cL_triangle 10 = .ok (.goto 15, 3) := by decide +kernel
theorem dL_triangle_13 : decode cL_triangle 13 = .ok (.astore 4, 2) := by decide +kernel
theorem dL_triangle_15 : decode cL_triangle 15 = .ok (.iconst 1, 1) := by decide +kernel
theorem dL_triangle_16 : decode cL_triangle 16 = .ok (.ireturn, 1) := by decide +kernel
theorem dL_triangle_17 : decode cL_triangle 17 = .ok (.astore 4, 2) := by decide +kernel
theorem dL_triangle_19 : decode cL_triangle 19 = .ok (.iconst 2, 1) := by decide +kernel
theorem dL_triangle_20 : decode cL_triangle 20 = .ok (.ireturn, 1) := by decide +kernel
theorem dL_triangle_21 : decode cL_triangle 21 = .ok (.astore 4, 2) := by decide +kernel
theorem dL_triangle_23 : decode cL_triangle 23 = .ok (.iconst 3, 1) := by decide +kernel
theorem dL_triangle_24 : decode cL_triangle 24 = .ok (.ireturn, 1) := by decide +kernel
theorem dL_triangle_25 : decode cL_triangle 25 = .ok (.iconst 0, 1) := by decide +kernel
theorem dL_triangle_26 : decode cL_triangle 26 = .ok (.ireturn, 1) := by decide +kernel
theorem dL_volume_0 : decode cL_volume 0 = .ok (.aload 6, 2) := by decide +kernel
theorem dL_volume_2 : decode cL_volume 2 = .ok (.iconst 0, 1) := by decide +kernel
theorem dL_volume_3 : decode cL_volume 3 = .ok (.aload_n 0, 1) := by decide +kernel
theorem dL_volume_4 : decode cL_volume 4 = .ok (.iload_n 1, 1) := by decide +kernel
theorem dL_volume_5 : decode cL_volume 5 = .ok (.iload_n 2, 1) := by decide +kernel
theorem dL_volume_6 : decode cL_volume 6 = .ok (.iload_n 3, 1) := by decide +kernel
theorem dL_volume_7 : decode cL_volume 7 = .ok (.iload 4, 2) := by decide +kernel
theorem dL_volume_9 : decode cL_volume 9 = .ok (.iload 5, 2) := by decide +kernel
theorem dL_volume_11 : decode cL_volume 11 = .ok (.invokevirtual 62, 3) := by decide +kernel
theorem dL_volume_14 : decode cL_volume 14 = .ok (.lastore, 1) := by decide +kernel
theorem dL_volume_15 : decode cL_volume 15 = .ok (.goto 11, 3) := by decide +kernel
theorem dL_volume_18 : decode cL_volume 18 = .ok (.astore 7, 2) := by decide +kernel
theorem dL_volume_20 : decode cL_volume 20 = .ok (.iconst 1, 1) := by decide +kernel
theorem dL_volume_21 : decode cL_volume 21 = .ok (.ireturn, 1) := by decide +kernel
theorem dL_volume_22 : decode cL_volume 22 = .ok (.astore 7, 2) := by decide +kernel
theorem dL_volume_24 : decode cL_volume 24 = .ok (.iconst 2, 1) := by decide +kernel
theorem dL_volume_25 : decode cL_volume 25 = .ok (.ireturn, 1) := by decide +kernel
theorem dL_volume_26 : decode cL_volume 26 = .ok (.iconst 0, 1) := by decide +kernel
theorem dL_volume_27 : decode cL_volume 27 = .ok (.ireturn, 1) := by decide +kernel
theorem dL_wet_0 : decode cL_wet 0 = .ok (.aload 5, 2) := by decide +kernel
theorem dL_wet_2 : decode cL_wet 2 = .ok (.iconst 0, 1) := by decide +kernel
theorem dL_wet_3 : decode cL_wet 3 = .ok (.aload_n 0, 1) := by decide +kernel
theorem dL_wet_4 : decode cL_wet 4 = .ok (.iload_n 1, 1) := by decide +kernel
theorem dL_wet_5 : decode cL_wet 5 = .ok (.iload_n 2, 1) := by decide +kernel
theorem dL_wet_6 : decode cL_wet 6 = .ok (.iload_n 3, 1) := by decide +kernel
theorem dL_wet_7 : decode cL_wet 7 = .ok (.iload 4, 2) := by decide +kernel
theorem dL_wet_9 : decode cL_wet 9 = .ok (.invokevirtual 59, 3) := by decide +kernel
theorem dL_wet_12 : decode cL_wet 12 = .ok (.lastore, 1) := by decide +kernel
theorem dL_wet_13 : decode cL_wet 13 = .ok (.goto 11, 3) := by decide +kernel
theorem dL_wet_16 : decode cL_wet 16 = .ok (.astore 6, 2) := by decide +kernel
theorem dL_wet_18 : decode cL_wet 18 = .ok (.iconst 1, 1) := by decide +kernel
theorem dL_wet_19 : decode cL_wet 19 = .ok (.ireturn, 1) := by decide +kernel
theorem dL_wet_20 : decode cL_wet 20 = .ok (.astore 6, 2) := by decide +kernel
theorem dL_wet_22 : decode cL_wet 22 = .ok (.iconst 2, 1) := by decide +kernel
theorem dL_wet_23 : decode cL_wet 23 = .ok (.ireturn, 1) := by decide +kernel
theorem dL_wet_24 : decode cL_wet 24 = .ok (.iconst 0, 1) := by decide +kernel
theorem dL_wet_25 : decode cL_wet 25 = .ok (.ireturn, 1) := by decide +kernel
theorem dL_write_0 : decode cL_write 0 = .ok (.aload_n 2, 1) := by decide +kernel
theorem dL_write_1 : decode cL_write 1 = .ok (.iconst 0, 1) := by decide +kernel
theorem dL_write_2 : decode cL_write 2 = .ok (.aload_n 0, 1) := by decide +kernel
theorem dL_write_3 : decode cL_write 3 = .ok (.iload_n 1, 1) := by decide +kernel
theorem dL_write_4 : decode cL_write 4 = .ok (.invokevirtual 69, 3) := by decide +kernel
theorem dL_write_7 : decode cL_write 7 = .ok (.i2l, 1) := by decide +kernel
theorem dL_write_8 : decode cL_write 8 = .ok (.lastore, 1) := by decide +kernel
theorem dL_write_9 : decode cL_write 9 = .ok (.goto 6, 3) := by decide +kernel
theorem dL_write_12 : decode cL_write 12 = .ok (.astore_n 3, 1) := by decide +kernel
theorem dL_write_13 : decode cL_write 13 = .ok (.iconst 1, 1) := by decide +kernel
theorem dL_write_14 : decode cL_write 14 = .ok (.ireturn, 1) := by decide +kernel
theorem dL_write_15 : decode cL_write 15 = .ok (.iconst 0, 1) := by decide +kernel
theorem dL_write_16 : decode cL_write 16 = .ok (.ireturn, 1) := by decide +kernel
