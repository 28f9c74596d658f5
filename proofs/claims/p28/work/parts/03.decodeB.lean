theorem dL_cell_0 : decode cL_cell 0 = .ok (.iload_n 1, 1) := by decide +kernel
theorem dL_cell_1 : decode cL_cell 1 = .ok (.aload_n 0, 1) := by decide +kernel
theorem dL_cell_2 : decode cL_cell 2 = .ok (.arraylength, 1) := by decide +kernel
theorem dL_cell_3 : decode cL_cell 3 = .ok (.if_icmp .ge 9, 3) := by decide +kernel
theorem dL_cell_6 : decode cL_cell 6 = .ok (.aload_n 0, 1) := by decide +kernel
theorem dL_cell_7 : decode cL_cell 7 = .ok (.iload_n 1, 1) := by decide +kernel
theorem dL_cell_8 : decode cL_cell 8 = .ok (.iaload, 1) := by decide +kernel
theorem dL_cell_9 : decode cL_cell 9 = .ok (.goto 10, 3) := by decide +kernel
theorem dL_cell_12 : decode cL_cell 12 = .ok (.ldc 7, 2) := by decide +kernel
theorem dL_cell_14 : decode cL_cell 14 = .ok (.iload_n 1, 1) := by decide +kernel
theorem dL_cell_15 : decode cL_cell 15 = .ok (.imul, 1) := by decide +kernel
theorem dL_cell_16 : decode cL_cell 16 = .ok (.ldc 8, 2) := by decide +kernel
theorem dL_cell_18 : decode cL_cell 18 = .ok (.iadd, 1) := by decide +kernel
theorem dL_cell_19 : decode cL_cell 19 = .ok (.ireturn, 1) := by decide +kernel
theorem dL_low_0 : decode cL_low 0 = .ok (.iload_n 0, 1) := by decide +kernel
theorem dL_low_1 : decode cL_low 1 = .ok (.ldc 9, 2) := by decide +kernel
theorem dL_low_3 : decode cL_low 3 = .ok (.iand, 1) := by decide +kernel
theorem dL_low_4 : decode cL_low 4 = .ok (.iload_n 1, 1) := by decide +kernel
theorem dL_low_5 : decode cL_low 5 = .ok (.irem, 1) := by decide +kernel
theorem dL_low_6 : decode cL_low 6 = .ok (.ireturn, 1) := by decide +kernel
theorem dL_layer_0 : decode cL_layer 0 = .ok (.iload_n 0, 1) := by decide +kernel
theorem dL_layer_1 : decode cL_layer 1 = .ok (.iconst 4, 1) := by decide +kernel
theorem dL_layer_2 : decode cL_layer 2 = .ok (.invokestatic 10, 3) := by decide +kernel
theorem dL_layer_5 : decode cL_layer 5 = .ok (.ireturn, 1) := by decide +kernel
theorem dL_bottom_0 : decode cL_bottom 0 = .ok (.iload_n 0, 1) := by decide +kernel
theorem dL_bottom_1 : decode cL_bottom 1 = .ok (.iconst 2, 1) := by decide +kernel
theorem dL_bottom_2 : decode cL_bottom 2 = .ok (.ishr, 1) := by decide +kernel
theorem dL_bottom_3 : decode cL_bottom 3 = .ok (.sipush 500, 3) := by decide +kernel
theorem dL_bottom_6 : decode cL_bottom 6 = .ok (.invokestatic 10, 3) := by decide +kernel
theorem dL_bottom_9 : decode cL_bottom 9 = .ok (.ireturn, 1) := by decide +kernel
theorem dL_top_0 : decode cL_top 0 = .ok (.iload_n 0, 1) := by decide +kernel
theorem dL_top_1 : decode cL_top 1 = .ok (.invokestatic 16, 3) := by decide +kernel
theorem dL_top_4 : decode cL_top 4 = .ok (.iload_n 0, 1) := by decide +kernel
theorem dL_top_5 : decode cL_top 5 = .ok (.bipush 11, 2) := by decide +kernel
theorem dL_top_7 : decode cL_top 7 = .ok (.ishr, 1) := by decide +kernel
theorem dL_top_8 : decode cL_top 8 = .ok (.iload_n 0, 1) := by decide +kernel
theorem dL_top_9 : decode cL_top 9 = .ok (.bipush 20, 2) := by decide +kernel
theorem dL_top_11 : decode cL_top 11 = .ok (.ishr, 1) := by decide +kernel
theorem dL_top_12 : decode cL_top 12 = .ok (.iconst 4, 1) := by decide +kernel
theorem dL_top_13 : decode cL_top 13 = .ok (.invokestatic 10, 3) := by decide +kernel
theorem dL_top_16 : decode cL_top 16 = .ok (.ifCond .ne 7, 3) := by decide +kernel
theorem dL_top_19 : decode cL_top 19 = .ok (.iconst 2, 1) := by decide +kernel
theorem dL_top_20 : decode cL_top 20 = .ok (.goto 6, 3) := by decide +kernel
theorem dL_top_23 : decode cL_top 23 = .ok (.sipush 400, 3) := by decide +kernel
theorem dL_top_26 : decode cL_top 26 = .ok (.invokestatic 10, 3) := by decide +kernel
theorem dL_top_29 : decode cL_top 29 = .ok (.iadd, 1) := by decide +kernel
theorem dL_top_30 : decode cL_top 30 = .ok (.ireturn, 1) := by decide +kernel
theorem dL_rows_0 : decode cL_rows 0 = .ok (.iconst 1, 1) := by decide +kernel
theorem dL_rows_1 : decode cL_rows 1 = .ok (.iload_n 0, 1) := by decide +kernel
theorem dL_rows_2 : decode cL_rows 2 = .ok (.bipush 21, 2) := by decide +kernel
theorem dL_rows_4 : decode cL_rows 4 = .ok (.ishr, 1) := by decide +kernel
theorem dL_rows_5 : decode cL_rows 5 = .ok (.bipush 9, 2) := by decide +kernel
theorem dL_rows_7 : decode cL_rows 7 = .ok (.invokestatic 10, 3) := by decide +kernel
theorem dL_rows_10 : decode cL_rows 10 = .ok (.iadd, 1) := by decide +kernel
theorem dL_rows_11 : decode cL_rows 11 = .ok (.ireturn, 1) := by decide +kernel
theorem dL_valueOf_0 : decode cL_valueOf 0 = .ok (.iload_n 0, 1) := by decide +kernel
theorem dL_valueOf_1 : decode cL_valueOf 1 = .ok (.invokestatic 16, 3) := by decide +kernel
theorem dL_valueOf_4 : decode cL_valueOf 4 = .ok (.iload_n 1, 1) := by decide +kernel
theorem dL_valueOf_5 : decode cL_valueOf 5 = .ok (.iload_n 2, 1) := by decide +kernel
theorem dL_valueOf_6 : decode cL_valueOf 6 = .ok (.ishr, 1) := by decide +kernel
theorem dL_valueOf_7 : decode cL_valueOf 7 = .ok (.iload_n 0, 1) := by decide +kernel
theorem dL_valueOf_8 : decode cL_valueOf 8 = .ok (.invokestatic 20, 3) := by decide +kernel
theorem dL_valueOf_11 : decode cL_valueOf 11 = .ok (.iload_n 0, 1) := by decide +kernel
theorem dL_valueOf_12 : decode cL_valueOf 12 = .ok (.invokestatic 16, 3) := by decide +kernel
theorem dL_valueOf_15 : decode cL_valueOf 15 = .ok (.isub, 1) := by decide +kernel
theorem dL_valueOf_16 : decode cL_valueOf 16 = .ok (.iconst 1, 1) := by decide +kernel
theorem dL_valueOf_17 : decode cL_valueOf 17 = .ok (.iadd, 1) := by decide +kernel
theorem dL_valueOf_18 : decode cL_valueOf 18 = .ok (.invokestatic 10, 3) := by decide +kernel
theorem dL_valueOf_21 : decode cL_valueOf 21 = .ok (.iadd, 1) := by decide +kernel
theorem dL_valueOf_22 : decode cL_valueOf 22 = .ok (.ireturn, 1) := by decide +kernel
theorem dL_type_0 : decode cL_type 0 = .ok (.aload_n 0, 1) := by decide +kernel
theorem dL_type_1 : decode cL_type 1 = .ok (.iload_n 2, 1) := by decide +kernel
theorem dL_type_2 : decode cL_type 2 = .ok (.i2c, 1) := by decide +kernel
theorem dL_type_3 : decode cL_type 3 = .ok (.invokevirtual 23, 3) := by decide +kernel
theorem dL_type_6 : decode cL_type 6 = .ok (.iload_n 1, 1) := by decide +kernel
theorem dL_type_7 : decode cL_type 7 = .ok (.iconst 1, 1) := by decide +kernel
theorem dL_type_8 : decode cL_type 8 = .ok (.iadd, 1) := by decide +kernel
theorem dL_type_9 : decode cL_type 9 = .ok (.if_icmp .ne 9, 3) := by decide +kernel
theorem dL_type_12 : decode cL_type 12 = .ok (.iload_n 1, 1) := by decide +kernel
theorem dL_type_13 : decode cL_type 13 = .ok (.iconst 1, 1) := by decide +kernel
theorem dL_type_14 : decode cL_type 14 = .ok (.iadd, 1) := by decide +kernel
theorem dL_type_15 : decode cL_type 15 = .ok (.goto 6, 3) := by decide +kernel
theorem dL_type_18 : decode cL_type 18 = .ok (.sipush (-1000), 3) := by decide +kernel
theorem dL_type_21 : decode cL_type 21 = .ok (.ireturn, 1) := by decide +kernel
theorem dL_number_0 : decode cL_number 0 = .ok (.iload_n 2, 1) := by decide +kernel
theorem dL_number_1 : decode cL_number 1 = .ok (.bipush 99, 2) := by decide +kernel
theorem dL_number_3 : decode cL_number 3 = .ok (.if_icmp .le 18, 3) := by decide +kernel
theorem dL_number_6 : decode cL_number 6 = .ok (.aload_n 0, 1) := by decide +kernel
theorem dL_number_7 : decode cL_number 7 = .ok (.iload_n 1, 1) := by decide +kernel
theorem dL_number_8 : decode cL_number 8 = .ok (.bipush 48, 2) := by decide +kernel
theorem dL_number_10 : decode cL_number 10 = .ok (.iload_n 2, 1) := by decide +kernel
theorem dL_number_11 : decode cL_number 11 = .ok (.bipush 100, 2) := by decide +kernel
theorem dL_number_13 : decode cL_number 13 = .ok (.idiv, 1) := by decide +kernel
theorem dL_number_14 : decode cL_number 14 = .ok (.iadd, 1) := by decide +kernel
theorem dL_number_15 : decode cL_number 15 = .ok (.invokestatic 29, 3) := by decide +kernel
theorem dL_number_18 : decode cL_number 18 = .ok (.goto 4, 3) := by decide +kernel
theorem dL_number_21 : decode cL_number 21 = .ok (.iload_n 1, 1) := by decide +kernel
theorem dL_number_22 : decode cL_number 22 = .ok (.istore_n 3, 1) := by decide +kernel
theorem dL_number_23 : decode cL_number 23 = .ok (.iload_n 2, 1) := by decide +kernel
theorem dL_number_24 : decode cL_number 24 = .ok (.bipush 9, 2) := by decide +kernel
theorem dL_number_26 : decode cL_number 26 = .ok (.if_icmp .le 21, 3) := by decide +kernel
theorem dL_number_29 : decode cL_number 29 = .ok (.aload_n 0, 1) := by decide +kernel
theorem dL_number_30 : decode cL_number 30 = .ok (.iload_n 3, 1) := by decide +kernel
theorem dL_number_31 : decode cL_number 31 = .ok (.bipush 48, 2) := by decide +kernel
theorem dL_number_33 : decode cL_number 33 = .ok (.iload_n 2, 1) := by decide +kernel
theorem dL_number_34 : decode cL_number 34 = .ok (.bipush 10, 2) := by decide +kernel
theorem dL_number_36 : decode cL_number 36 = .ok (.idiv, 1) := by decide +kernel
theorem dL_number_37 : decode cL_number 37 = .ok (.bipush 10, 2) := by decide +kernel
theorem dL_number_39 : decode cL_number 39 = .ok (.irem, 1) := by decide +kernel
theorem dL_number_40 : decode cL_number 40 = .ok (.iadd, 1) := by decide +kernel
theorem dL_number_41 : decode cL_number 41 = .ok (.invokestatic 29, 3) := by decide +kernel
theorem dL_number_44 : decode cL_number 44 = .ok (.goto 4, 3) := by decide +kernel
theorem dL_number_47 : decode cL_number 47 = .ok (.iload_n 3, 1) := by decide +kernel
theorem dL_number_48 : decode cL_number 48 = .ok (.istore_n 3, 1) := by decide +kernel
theorem dL_number_49 : decode cL_number 49 = .ok (.aload_n 0, 1) := by decide +kernel
theorem dL_number_50 : decode cL_number 50 = .ok (.iload_n 3, 1) := by decide +kernel
theorem dL_number_51 : decode cL_number 51 = .ok (.bipush 48, 2) := by decide +kernel
theorem dL_number_53 : decode cL_number 53 = .ok (.iload_n 2, 1) := by decide +kernel
theorem dL_number_54 : decode cL_number 54 = .ok (.bipush 10, 2) := by decide +kernel
theorem dL_number_56 : decode cL_number 56 = .ok (.irem, 1) := by decide +kernel
theorem dL_number_57 : decode cL_number 57 = .ok (.iadd, 1) := by decide +kernel
theorem dL_number_58 : decode cL_number 58 = .ok (.invokestatic 29, 3) := by decide +kernel
theorem dL_number_61 : decode cL_number 61 = .ok (.ireturn, 1) := by decide +kernel
theorem dL_write_0 : decode cL_write 0 = .ok (.aload_n 0, 1) := by decide +kernel
theorem dL_write_1 : decode cL_write 1 = .ok (.aload_n 0, 1) := by decide +kernel
theorem dL_write_2 : decode cL_write 2 = .ok (.iconst 0, 1) := by decide +kernel
theorem dL_write_3 : decode cL_write 3 = .ok (.bipush 48, 2) := by decide +kernel
theorem dL_write_5 : decode cL_write 5 = .ok (.iload_n 1, 1) := by decide +kernel
theorem dL_write_6 : decode cL_write 6 = .ok (.invokestatic 32, 3) := by decide +kernel
theorem dL_write_9 : decode cL_write 9 = .ok (.iadd, 1) := by decide +kernel
theorem dL_write_10 : decode cL_write 10 = .ok (.invokestatic 29, 3) := by decide +kernel
theorem dL_write_13 : decode cL_write 13 = .ok (.bipush 58, 2) := by decide +kernel
theorem dL_write_15 : decode cL_write 15 = .ok (.invokestatic 29, 3) := by decide +kernel
theorem dL_write_18 : decode cL_write 18 = .ok (.istore_n 3, 1) := by decide +kernel
theorem dL_write_19 : decode cL_write 19 = .ok (.aload_n 0, 1) := by decide +kernel
theorem dL_write_20 : decode cL_write 20 = .ok (.aload_n 0, 1) := by decide +kernel
theorem dL_write_21 : decode cL_write 21 = .ok (.aload_n 0, 1) := by decide +kernel
theorem dL_write_22 : decode cL_write 22 = .ok (.iload_n 3, 1) := by decide +kernel
theorem dL_write_23 : decode cL_write 23 = .ok (.iload_n 1, 1) := by decide +kernel
theorem dL_write_24 : decode cL_write 24 = .ok (.invokestatic 16, 3) := by decide +kernel
theorem dL_write_27 : decode cL_write 27 = .ok (.invokestatic 35, 3) := by decide +kernel
theorem dL_write_30 : decode cL_write 30 = .ok (.bipush 45, 2) := by decide +kernel
theorem dL_write_32 : decode cL_write 32 = .ok (.invokestatic 29, 3) := by decide +kernel
theorem dL_write_35 : decode cL_write 35 = .ok (.iload_n 1, 1) := by decide +kernel
theorem dL_write_36 : decode cL_write 36 = .ok (.invokestatic 20, 3) := by decide +kernel
theorem dL_write_39 : decode cL_write 39 = .ok (.invokestatic 35, 3) := by decide +kernel
theorem dL_write_42 : decode cL_write 42 = .ok (.istore_n 3, 1) := by decide +kernel
theorem dL_write_43 : decode cL_write 43 = .ok (.iconst 0, 1) := by decide +kernel
theorem dL_write_44 : decode cL_write 44 = .ok (.istore 4, 2) := by decide +kernel
theorem dL_write_46 : decode cL_write 46 = .ok (.iload 4, 2) := by decide +kernel
theorem dL_write_48 : decode cL_write 48 = .ok (.iload_n 1, 1) := by decide +kernel
theorem dL_write_49 : decode cL_write 49 = .ok (.invokestatic 38, 3) := by decide +kernel
theorem dL_write_52 : decode cL_write 52 = .ok (.if_icmp .ge 38, 3) := by decide +kernel
theorem dL_write_55 : decode cL_write 55 = .ok (.aload_n 0, 1) := by decide +kernel
theorem dL_write_56 : decode cL_write 56 = .ok (.aload_n 0, 1) := by decide +kernel
theorem dL_write_57 : decode cL_write 57 = .ok (.iload_n 3, 1) := by decide +kernel
theorem dL_write_58 : decode cL_write 58 = .ok (.iload 4, 2) := by decide +kernel
theorem dL_write_60 : decode cL_write 60 = .ok (.ifCond .ne 8, 3) := by decide +kernel
theorem dL_write_63 : decode cL_write 63 = .ok (.bipush 61, 2) := by decide +kernel
theorem dL_write_65 : decode cL_write 65 = .ok (.goto 5, 3) := by decide +kernel
theorem dL_write_68 : decode cL_write 68 = .ok (.bipush 44, 2) := by decide +kernel
theorem dL_write_70 : decode cL_write 70 = .ok (.invokestatic 29, 3) := by decide +kernel
theorem dL_write_73 : decode cL_write 73 = .ok (.iload_n 1, 1) := by decide +kernel
theorem dL_write_74 : decode cL_write 74 = .ok (.iload_n 2, 1) := by decide +kernel
theorem dL_write_75 : decode cL_write 75 = .ok (.iload 4, 2) := by decide +kernel
theorem dL_write_77 : decode cL_write 77 = .ok (.invokestatic 41, 3) := by decide +kernel
theorem dL_write_80 : decode cL_write 80 = .ok (.invokestatic 35, 3) := by decide +kernel
theorem dL_write_83 : decode cL_write 83 = .ok (.istore_n 3, 1) := by decide +kernel
theorem dL_write_84 : decode cL_write 84 = .ok (.iinc 4 1, 3) := by decide +kernel
theorem dL_write_87 : decode cL_write 87 = .ok (.goto (-41), 3) := by decide +kernel
theorem dL_write_90 : decode cL_write 90 = .ok (.iload_n 3, 1) := by decide +kernel
theorem dL_write_91 : decode cL_write 91 = .ok (.ireturn, 1) := by decide +kernel
theorem dL_build_0 : decode cL_build 0 = .ok (.iconst 1, 1) := by decide +kernel
theorem dL_build_1 : decode cL_build 1 = .ok (.aload_n 1, 1) := by decide +kernel
theorem dL_build_2 : decode cL_build 2 = .ok (.iconst 0, 1) := by decide +kernel
theorem dL_build_3 : decode cL_build 3 = .ok (.invokestatic 45, 3) := by decide +kernel
theorem dL_build_6 : decode cL_build 6 = .ok (.bipush 7, 2) := by decide +kernel
theorem dL_build_8 : decode cL_build 8 = .ok (.invokestatic 10, 3) := by decide +kernel
theorem dL_build_11 : decode cL_build 11 = .ok (.iadd, 1) := by decide +kernel
theorem dL_build_12 : decode cL_build 12 = .ok (.istore_n 2, 1) := by decide +kernel
theorem dL_build_13 : decode cL_build 13 = .ok (.iconst 0, 1) := by decide +kernel
theorem dL_build_14 : decode cL_build 14 = .ok (.istore_n 3, 1) := by decide +kernel
theorem dL_build_15 : decode cL_build 15 = .ok (.iconst 0, 1) := by decide +kernel
theorem dL_build_16 : decode cL_build 16 = .ok (.istore 4, 2) := by decide +kernel
theorem dL_build_18 : decode cL_build 18 = .ok (.iload 4, 2) := by decide +kernel
theorem dL_build_20 : decode cL_build 20 = .ok (.iload_n 2, 1) := by decide +kernel
theorem dL_build_21 : decode cL_build 21 = .ok (.if_icmp .ge 137, 3) := by decide +kernel
theorem dL_build_24 : decode cL_build 24 = .ok (.aload_n 1, 1) := by decide +kernel
theorem dL_build_25 : decode cL_build 25 = .ok (.iconst 1, 1) := by decide +kernel
theorem dL_build_26 : decode cL_build 26 = .ok (.iconst 2, 1) := by decide +kernel
theorem dL_build_27 : decode cL_build 27 = .ok (.iload 4, 2) := by decide +kernel
theorem dL_build_29 : decode cL_build 29 = .ok (.imul, 1) := by decide +kernel
theorem dL_build_30 : decode cL_build 30 = .ok (.iadd, 1) := by decide +kernel
theorem dL_build_31 : decode cL_build 31 = .ok (.invokestatic 45, 3) := by decide +kernel
theorem dL_build_34 : decode cL_build 34 = .ok (.istore 5, 2) := by decide +kernel
theorem dL_build_36 : decode cL_build 36 = .ok (.aload_n 0, 1) := by decide +kernel
theorem dL_build_37 : decode cL_build 37 = .ok (.iload 5, 2) := by decide +kernel
theorem dL_build_39 : decode cL_build 39 = .ok (.aload_n 1, 1) := by decide +kernel
theorem dL_build_40 : decode cL_build 40 = .ok (.iconst 2, 1) := by decide +kernel
theorem dL_build_41 : decode cL_build 41 = .ok (.iconst 2, 1) := by decide +kernel
theorem dL_build_42 : decode cL_build 42 = .ok (.iload 4, 2) := by decide +kernel
theorem dL_build_44 : decode cL_build 44 = .ok (.imul, 1) := by decide +kernel
theorem dL_build_45 : decode cL_build 45 = .ok (.iadd, 1) := by decide +kernel
theorem dL_build_46 : decode cL_build 46 = .ok (.invokestatic 45, 3) := by decide +kernel
theorem dL_build_49 : decode cL_build 49 = .ok (.invokestatic 49, 3) := by decide +kernel
theorem dL_build_52 : decode cL_build 52 = .ok (.istore 6, 2) := by decide +kernel
theorem dL_build_54 : decode cL_build 54 = .ok (.iload_n 3, 1) := by decide +kernel
theorem dL_build_55 : decode cL_build 55 = .ok (.iload 5, 2) := by decide +kernel
theorem dL_build_57 : decode cL_build 57 = .ok (.invokestatic 38, 3) := by decide +kernel
theorem dL_build_60 : decode cL_build 60 = .ok (.iadd, 1) := by decide +kernel
theorem dL_build_61 : decode cL_build 61 = .ok (.istore_n 3, 1) := by decide +kernel
theorem dL_build_62 : decode cL_build 62 = .ok (.aload_n 0, 1) := by decide +kernel
theorem dL_build_63 : decode cL_build 63 = .ok (.invokevirtual 52, 3) := by decide +kernel
theorem dL_build_66 : decode cL_build 66 = .ok (.iload 4, 2) := by decide +kernel
theorem dL_build_68 : decode cL_build 68 = .ok (.if_icmp .ne 82, 3) := by decide +kernel
theorem dL_build_71 : decode cL_build 71 = .ok (.aload_n 0, 1) := by decide +kernel
theorem dL_build_72 : decode cL_build 72 = .ok (.invokevirtual 56, 3) := by decide +kernel
theorem dL_build_75 : decode cL_build 75 = .ok (.iload 6, 2) := by decide +kernel
theorem dL_build_77 : decode cL_build 77 = .ok (.if_icmp .ne 73, 3) := by decide +kernel
theorem dL_build_80 : decode cL_build 80 = .ok (.aload_n 0, 1) := by decide +kernel
theorem dL_build_81 : decode cL_build 81 = .ok (.iload 4, 2) := by decide +kernel
theorem dL_build_83 : decode cL_build 83 = .ok (.iconst 0, 1) := by decide +kernel
theorem dL_build_84 : decode cL_build 84 = .ok (.invokevirtual 59, 3) := by decide +kernel
theorem dL_build_87 : decode cL_build 87 = .ok (.iload 5, 2) := by decide +kernel
theorem dL_build_89 : decode cL_build 89 = .ok (.invokestatic 32, 3) := by decide +kernel
theorem dL_build_92 : decode cL_build 92 = .ok (.if_icmp .ne 58, 3) := by decide +kernel
theorem dL_build_95 : decode cL_build 95 = .ok (.aload_n 0, 1) := by decide +kernel
theorem dL_build_96 : decode cL_build 96 = .ok (.iload 4, 2) := by decide +kernel
theorem dL_build_98 : decode cL_build 98 = .ok (.iconst 1, 1) := by decide +kernel
theorem dL_build_99 : decode cL_build 99 = .ok (.invokevirtual 59, 3) := by decide +kernel
theorem dL_build_102 : decode cL_build 102 = .ok (.iload 5, 2) := by decide +kernel
theorem dL_build_104 : decode cL_build 104 = .ok (.invokestatic 16, 3) := by decide +kernel
theorem dL_build_107 : decode cL_build 107 = .ok (.if_icmp .ne 43, 3) := by decide +kernel
theorem dL_build_110 : decode cL_build 110 = .ok (.aload_n 0, 1) := by decide +kernel
theorem dL_build_111 : decode cL_build 111 = .ok (.iload 4, 2) := by decide +kernel
theorem dL_build_113 : decode cL_build 113 = .ok (.iconst 2, 1) := by decide +kernel
theorem dL_build_114 : decode cL_build 114 = .ok (.invokevirtual 59, 3) := by decide +kernel
theorem dL_build_117 : decode cL_build 117 = .ok (.iload 5, 2) := by decide +kernel
theorem dL_build_119 : decode cL_build 119 = .ok (.invokestatic 20, 3) := by decide +kernel
theorem dL_build_122 : decode cL_build 122 = .ok (.if_icmp .ne 28, 3) := by decide +kernel
theorem dL_build_125 : decode cL_build 125 = .ok (.aload_n 0, 1) := by decide +kernel
theorem dL_build_126 : decode cL_build 126 = .ok (.iload 4, 2) := by decide +kernel
theorem dL_build_128 : decode cL_build 128 = .ok (.iconst 3, 1) := by decide +kernel
theorem dL_build_129 : decode cL_build 129 = .ok (.invokevirtual 59, 3) := by decide +kernel
theorem dL_build_132 : decode cL_build 132 = .ok (.iload 5, 2) := by decide +kernel
theorem dL_build_134 : decode cL_build 134 = .ok (.invokestatic 38, 3) := by decide +kernel
theorem dL_build_137 : decode cL_build 137 = .ok (.if_icmp .ne 13, 3) := by decide +kernel
theorem dL_build_140 : decode cL_build 140 = .ok (.aload_n 0, 1) := by decide +kernel
theorem dL_build_141 : decode cL_build 141 = .ok (.iload 4, 2) := by decide +kernel
theorem dL_build_143 : decode cL_build 143 = .ok (.iconst 4, 1) := by decide +kernel
theorem dL_build_144 : decode cL_build 144 = .ok (.invokevirtual 59, 3) := by decide +kernel
theorem dL_build_147 : decode cL_build 147 = .ok (.ifCond .eq 5, 3) := by decide +kernel
theorem dL_build_150 : decode cL_build 150 = .ok (.iconst 0, 1) := by decide +kernel
theorem dL_build_151 : decode cL_build 151 = .ok (.ireturn, 1) := by decide +kernel
theorem dL_build_152 : decode cL_build 152 = .ok (.iinc 4 1, 3) := by decide +kernel
theorem dL_build_155 : decode cL_build 155 = .ok (.goto (-137), 3) := by decide +kernel
theorem dL_build_158 : decode cL_build 158 = .ok (.iconst 1, 1) := by decide +kernel
theorem dL_build_159 : decode cL_build 159 = .ok (.aload_n 1, 1) := by decide +kernel
theorem dL_build_160 : decode cL_build 160 = .ok (.bipush 17, 2) := by decide +kernel
theorem dL_build_162 : decode cL_build 162 = .ok (.invokestatic 45, 3) := by decide +kernel
theorem dL_build_165 : decode cL_build 165 = .ok (.iconst 5, 1) := by decide +kernel
theorem dL_build_166 : decode cL_build 166 = .ok (.invokestatic 10, 3) := by decide +kernel
theorem dL_build_169 : decode cL_build 169 = .ok (.iadd, 1) := by decide +kernel
theorem dL_build_170 : decode cL_build 170 = .ok (.istore 4, 2) := by decide +kernel
theorem dL_build_172 : decode cL_build 172 = .ok (.iconst 0, 1) := by decide +kernel
theorem dL_build_173 : decode cL_build 173 = .ok (.istore 5, 2) := by decide +kernel
theorem dL_build_175 : decode cL_build 175 = .ok (.iload 5, 2) := by decide +kernel
theorem dL_build_177 : decode cL_build 177 = .ok (.iload 4, 2) := by decide +kernel
theorem dL_build_179 : decode cL_build 179 = .ok (.if_icmp .ge 182, 3) := by decide +kernel
theorem dL_build_182 : decode cL_build 182 = .ok (.aload_n 1, 1) := by decide +kernel
theorem dL_build_183 : decode cL_build 183 = .ok (.bipush 18, 2) := by decide +kernel
theorem dL_build_185 : decode cL_build 185 = .ok (.iload 5, 2) := by decide +kernel
theorem dL_build_187 : decode cL_build 187 = .ok (.iadd, 1) := by decide +kernel
theorem dL_build_188 : decode cL_build 188 = .ok (.invokestatic 45, 3) := by decide +kernel
theorem dL_build_191 : decode cL_build 191 = .ok (.istore 6, 2) := by decide +kernel
theorem dL_build_193 : decode cL_build 193 = .ok (.iload 6, 2) := by decide +kernel
theorem dL_build_195 : decode cL_build 195 = .ok (.iconst 5, 1) := by decide +kernel
theorem dL_build_196 : decode cL_build 196 = .ok (.invokestatic 10, 3) := by decide +kernel
theorem dL_build_199 : decode cL_build 199 = .ok (.istore 7, 2) := by decide +kernel
theorem dL_build_201 : decode cL_build 201 = .ok (.iconst 1, 1) := by decide +kernel
theorem dL_build_202 : decode cL_build 202 = .ok (.iload 6, 2) := by decide +kernel
theorem dL_build_204 : decode cL_build 204 = .ok (.iconst 3, 1) := by decide +kernel
theorem dL_build_205 : decode cL_build 205 = .ok (.ishr, 1) := by decide +kernel
theorem dL_build_206 : decode cL_build 206 = .ok (.bipush 15, 2) := by decide +kernel
theorem dL_build_208 : decode cL_build 208 = .ok (.invokestatic 10, 3) := by decide +kernel
theorem dL_build_211 : decode cL_build 211 = .ok (.iadd, 1) := by decide +kernel
theorem dL_build_212 : decode cL_build 212 = .ok (.istore 8, 2) := by decide +kernel
theorem dL_build_214 : decode cL_build 214 = .ok (.iload 7, 2) := by decide +kernel
theorem dL_build_216 : decode cL_build 216 = .ok (.iconst 1, 1) := by decide +kernel
theorem dL_build_217 : decode cL_build 217 = .ok (.if_icmp .ne 17, 3) := by decide +kernel
theorem dL_build_220 : decode cL_build 220 = .ok (.iload 6, 2) := by decide +kernel
theorem dL_build_222 : decode cL_build 222 = .ok (.bipush 7, 2) := by decide +kernel
theorem dL_build_224 : decode cL_build 224 = .ok (.ishr, 1) := by decide +kernel
theorem dL_build_225 : decode cL_build 225 = .ok (.sipush 700, 3) := by decide +kernel
theorem dL_build_228 : decode cL_build 228 = .ok (.invokestatic 10, 3) := by decide +kernel
theorem dL_build_231 : decode cL_build 231 = .ok (.goto 4, 3) := by decide +kernel
theorem dL_build_234 : decode cL_build 234 = .ok (.iconst 0, 1) := by decide +kernel
theorem dL_build_235 : decode cL_build 235 = .ok (.istore 9, 2) := by decide +kernel
theorem dL_build_237 : decode cL_build 237 = .ok (.iload 6, 2) := by decide +kernel
theorem dL_build_239 : decode cL_build 239 = .ok (.bipush 17, 2) := by decide +kernel
theorem dL_build_241 : decode cL_build 241 = .ok (.ishr, 1) := by decide +kernel
theorem dL_build_242 : decode cL_build 242 = .ok (.iconst 4, 1) := by decide +kernel
theorem dL_build_243 : decode cL_build 243 = .ok (.invokestatic 10, 3) := by decide +kernel
theorem dL_build_246 : decode cL_build 246 = .ok (.ifCond .ne 7, 3) := by decide +kernel
theorem dL_build_249 : decode cL_build 249 = .ok (.iconst 0, 1) := by decide +kernel
theorem dL_build_250 : decode cL_build 250 = .ok (.goto 36, 3) := by decide +kernel
theorem dL_build_253 : decode cL_build 253 = .ok (.iload 6, 2) := by decide +kernel
theorem dL_build_255 : decode cL_build 255 = .ok (.bipush 19, 2) := by decide +kernel
theorem dL_build_257 : decode cL_build 257 = .ok (.ishr, 1) := by decide +kernel
theorem dL_build_258 : decode cL_build 258 = .ok (.iload 7, 2) := by decide +kernel
theorem dL_build_260 : decode cL_build 260 = .ok (.iconst 1, 1) := by decide +kernel
theorem dL_build_261 : decode cL_build 261 = .ok (.if_icmp .ne 7, 3) := by decide +kernel
theorem dL_build_264 : decode cL_build 264 = .ok (.iconst 5, 1) := by decide +kernel
theorem dL_build_265 : decode cL_build 265 = .ok (.goto 18, 3) := by decide +kernel
theorem dL_build_268 : decode cL_build 268 = .ok (.iload 7, 2) := by decide +kernel
theorem dL_build_270 : decode cL_build 270 = .ok (.iconst 4, 1) := by decide +kernel
theorem dL_build_271 : decode cL_build 271 = .ok (.if_icmp .ne 9, 3) := by decide +kernel
theorem dL_build_274 : decode cL_build 274 = .ok (.sipush 3000, 3) := by decide +kernel
theorem dL_build_277 : decode cL_build 277 = .ok (.goto 6, 3) := by decide +kernel
theorem dL_build_280 : decode cL_build 280 = .ok (.sipush 300, 3) := by decide +kernel
theorem dL_build_283 : decode cL_build 283 = .ok (.invokestatic 10, 3) := by decide +kernel
theorem dL_build_286 : decode cL_build 286 = .ok (.istore 10, 2) := by decide +kernel
theorem dL_build_288 : decode cL_build 288 = .ok (.aload_n 0, 1) := by decide +kernel
theorem dL_build_289 : decode cL_build 289 = .ok (.iload 7, 2) := by decide +kernel
theorem dL_build_291 : decode cL_build 291 = .ok (.iload 8, 2) := by decide +kernel
theorem dL_build_293 : decode cL_build 293 = .ok (.iload 9, 2) := by decide +kernel
theorem dL_build_295 : decode cL_build 295 = .ok (.iload 10, 2) := by decide +kernel
theorem dL_build_297 : decode cL_build 297 = .ok (.invokevirtual 62, 3) := by decide +kernel
theorem dL_build_300 : decode cL_build 300 = .ok (.iload 5, 2) := by decide +kernel
theorem dL_build_302 : decode cL_build 302 = .ok (.if_icmp .ne 51, 3) := by decide +kernel
theorem dL_build_305 : decode cL_build 305 = .ok (.aload_n 0, 1) := by decide +kernel
theorem dL_build_306 : decode cL_build 306 = .ok (.iload 5, 2) := by decide +kernel
theorem dL_build_308 : decode cL_build 308 = .ok (.iconst 0, 1) := by decide +kernel
theorem dL_build_309 : decode cL_build 309 = .ok (.invokevirtual 66, 3) := by decide +kernel
theorem dL_build_312 : decode cL_build 312 = .ok (.iload 7, 2) := by decide +kernel
theorem dL_build_314 : decode cL_build 314 = .ok (.if_icmp .ne 39, 3) := by decide +kernel
theorem dL_build_317 : decode cL_build 317 = .ok (.aload_n 0, 1) := by decide +kernel
theorem dL_build_318 : decode cL_build 318 = .ok (.iload 5, 2) := by decide +kernel
theorem dL_build_320 : decode cL_build 320 = .ok (.iconst 1, 1) := by decide +kernel
theorem dL_build_321 : decode cL_build 321 = .ok (.invokevirtual 66, 3) := by decide +kernel
theorem dL_build_324 : decode cL_build 324 = .ok (.iload 8, 2) := by decide +kernel
theorem dL_build_326 : decode cL_build 326 = .ok (.if_icmp .ne 27, 3) := by decide +kernel
theorem dL_build_329 : decode cL_build 329 = .ok (.aload_n 0, 1) := by decide +kernel
theorem dL_build_330 : decode cL_build 330 = .ok (.iload 5, 2) := by decide +kernel
theorem dL_build_332 : decode cL_build 332 = .ok (.iconst 2, 1) := by decide +kernel
theorem dL_build_333 : decode cL_build 333 = .ok (.invokevirtual 66, 3) := by decide +kernel
theorem dL_build_336 : decode cL_build 336 = .ok (.iload 9, 2) := by decide +kernel
theorem dL_build_338 : decode cL_build 338 = .ok (.if_icmp .ne 15, 3) := by decide +kernel
theorem dL_build_341 : decode cL_build 341 = .ok (.aload_n 0, 1) := by decide +kernel
theorem dL_build_342 : decode cL_build 342 = .ok (.iload 5, 2) := by decide +kernel
theorem dL_build_344 : decode cL_build 344 = .ok (.iconst 3, 1) := by decide +kernel
theorem dL_build_345 : decode cL_build 345 = .ok (.invokevirtual 66, 3) := by decide +kernel
theorem dL_build_348 : decode cL_build 348 = .ok (.iload 10, 2) := by decide +kernel
theorem dL_build_350 : decode cL_build 350 = .ok (.if_icmp .eq 5, 3) := by decide +kernel
theorem dL_build_353 : decode cL_build 353 = .ok (.iconst 0, 1) := by decide +kernel
theorem dL_build_354 : decode cL_build 354 = .ok (.ireturn, 1) := by decide +kernel
theorem dL_build_355 : decode cL_build 355 = .ok (.iinc 5 1, 3) := by decide +kernel
theorem dL_build_358 : decode cL_build 358 = .ok (.goto (-183), 3) := by decide +kernel
theorem dL_build_361 : decode cL_build 361 = .ok (.aload_n 1, 1) := by decide +kernel
theorem dL_build_362 : decode cL_build 362 = .ok (.bipush 23, 2) := by decide +kernel
theorem dL_build_364 : decode cL_build 364 = .ok (.invokestatic 45, 3) := by decide +kernel
theorem dL_build_367 : decode cL_build 367 = .ok (.iconst 3, 1) := by decide +kernel
theorem dL_build_368 : decode cL_build 368 = .ok (.invokestatic 10, 3) := by decide +kernel
theorem dL_build_371 : decode cL_build 371 = .ok (.istore 5, 2) := by decide +kernel
theorem dL_build_373 : decode cL_build 373 = .ok (.aload_n 0, 1) := by decide +kernel
theorem dL_build_374 : decode cL_build 374 = .ok (.iload 5, 2) := by decide +kernel
theorem dL_build_376 : decode cL_build 376 = .ok (.invokevirtual 69, 3) := by decide +kernel
theorem dL_build_379 : decode cL_build 379 = .ok (.istore 6, 2) := by decide +kernel
theorem dL_build_381 : decode cL_build 381 = .ok (.iload 6, 2) := by decide +kernel
theorem dL_build_383 : decode cL_build 383 = .ok (.iload 5, 2) := by decide +kernel
theorem dL_build_385 : decode cL_build 385 = .ok (.ifCond .ne 8, 3) := by decide +kernel
theorem dL_build_388 : decode cL_build 388 = .ok (.bipush (-5), 2) := by decide +kernel
theorem dL_build_390 : decode cL_build 390 = .ok (.goto 4, 3) := by decide +kernel
theorem dL_build_393 : decode cL_build 393 = .ok (.iconst 0, 1) := by decide +kernel
theorem dL_build_394 : decode cL_build 394 = .ok (.if_icmp .ne 43, 3) := by decide +kernel
theorem dL_build_397 : decode cL_build 397 = .ok (.aload_n 0, 1) := by decide +kernel
theorem dL_build_398 : decode cL_build 398 = .ok (.iconst 0, 1) := by decide +kernel
theorem dL_build_399 : decode cL_build 399 = .ok (.invokevirtual 72, 3) := by decide +kernel
theorem dL_build_402 : decode cL_build 402 = .ok (.iload_n 2, 1) := by decide +kernel
theorem dL_build_403 : decode cL_build 403 = .ok (.if_icmp .ne 34, 3) := by decide +kernel
theorem dL_build_406 : decode cL_build 406 = .ok (.aload_n 0, 1) := by decide +kernel
theorem dL_build_407 : decode cL_build 407 = .ok (.iconst 1, 1) := by decide +kernel
theorem dL_build_408 : decode cL_build 408 = .ok (.invokevirtual 72, 3) := by decide +kernel
theorem dL_build_411 : decode cL_build 411 = .ok (.iload 4, 2) := by decide +kernel
theorem dL_build_413 : decode cL_build 413 = .ok (.if_icmp .ne 24, 3) := by decide +kernel
theorem dL_build_416 : decode cL_build 416 = .ok (.aload_n 0, 1) := by decide +kernel
theorem dL_build_417 : decode cL_build 417 = .ok (.iconst 4, 1) := by decide +kernel
theorem dL_build_418 : decode cL_build 418 = .ok (.invokevirtual 72, 3) := by decide +kernel
theorem dL_build_421 : decode cL_build 421 = .ok (.iload_n 3, 1) := by decide +kernel
theorem dL_build_422 : decode cL_build 422 = .ok (.if_icmp .ne 15, 3) := by decide +kernel
theorem dL_build_425 : decode cL_build 425 = .ok (.aload_n 0, 1) := by decide +kernel
theorem dL_build_426 : decode cL_build 426 = .ok (.iconst 5, 1) := by decide +kernel
theorem dL_build_427 : decode cL_build 427 = .ok (.invokevirtual 72, 3) := by decide +kernel
theorem dL_build_430 : decode cL_build 430 = .ok (.ifCond .ne 7, 3) := by decide +kernel
theorem dL_build_433 : decode cL_build 433 = .ok (.iconst 1, 1) := by decide +kernel
theorem dL_build_434 : decode cL_build 434 = .ok (.goto 4, 3) := by decide +kernel
theorem dL_build_437 : decode cL_build 437 = .ok (.iconst 0, 1) := by decide +kernel
theorem dL_build_438 : decode cL_build 438 = .ok (.ireturn, 1) := by decide +kernel
theorem dL_truth_0 : decode cL_truth 0 = .ok (.iconst 0, 1) := by decide +kernel
theorem dL_truth_1 : decode cL_truth 1 = .ok (.istore_n 3, 1) := by decide +kernel
theorem dL_truth_2 : decode cL_truth 2 = .ok (.iconst 0, 1) := by decide +kernel
theorem dL_truth_3 : decode cL_truth 3 = .ok (.istore 4, 2) := by decide +kernel
theorem dL_truth_5 : decode cL_truth 5 = .ok (.sipush 1000, 3) := by decide +kernel
theorem dL_truth_8 : decode cL_truth 8 = .ok (.istore 5, 2) := by decide +kernel
theorem dL_truth_10 : decode cL_truth 10 = .ok (.iconst (-1), 1) := by decide +kernel
theorem dL_truth_11 : decode cL_truth 11 = .ok (.istore 6, 2) := by decide +kernel
theorem dL_truth_13 : decode cL_truth 13 = .ok (.iconst 0, 1) := by decide +kernel
theorem dL_truth_14 : decode cL_truth 14 = .ok (.istore 7, 2) := by decide +kernel
theorem dL_truth_16 : decode cL_truth 16 = .ok (.iconst 0, 1) := by decide +kernel
theorem dL_truth_17 : decode cL_truth 17 = .ok (.istore 8, 2) := by decide +kernel
theorem dL_truth_19 : decode cL_truth 19 = .ok (.iload 8, 2) := by decide +kernel
theorem dL_truth_21 : decode cL_truth 21 = .ok (.aload_n 0, 1) := by decide +kernel
theorem dL_truth_22 : decode cL_truth 22 = .ok (.iconst 0, 1) := by decide +kernel
theorem dL_truth_23 : decode cL_truth 23 = .ok (.invokevirtual 72, 3) := by decide +kernel
theorem dL_truth_26 : decode cL_truth 26 = .ok (.if_icmp .ge 138, 3) := by decide +kernel
theorem dL_truth_29 : decode cL_truth 29 = .ok (.aload_n 1, 1) := by decide +kernel
theorem dL_truth_30 : decode cL_truth 30 = .ok (.iconst 1, 1) := by decide +kernel
theorem dL_truth_31 : decode cL_truth 31 = .ok (.iconst 2, 1) := by decide +kernel
theorem dL_truth_32 : decode cL_truth 32 = .ok (.iload 8, 2) := by decide +kernel
theorem dL_truth_34 : decode cL_truth 34 = .ok (.imul, 1) := by decide +kernel
theorem dL_truth_35 : decode cL_truth 35 = .ok (.iadd, 1) := by decide +kernel
theorem dL_truth_36 : decode cL_truth 36 = .ok (.invokestatic 45, 3) := by decide +kernel
theorem dL_truth_39 : decode cL_truth 39 = .ok (.istore 9, 2) := by decide +kernel
theorem dL_truth_41 : decode cL_truth 41 = .ok (.iconst 0, 1) := by decide +kernel
theorem dL_truth_42 : decode cL_truth 42 = .ok (.istore 10, 2) := by decide +kernel
theorem dL_truth_44 : decode cL_truth 44 = .ok (.iload 10, 2) := by decide +kernel
theorem dL_truth_46 : decode cL_truth 46 = .ok (.iload 9, 2) := by decide +kernel
theorem dL_truth_48 : decode cL_truth 48 = .ok (.invokestatic 38, 3) := by decide +kernel
theorem dL_truth_51 : decode cL_truth 51 = .ok (.if_icmp .ge 107, 3) := by decide +kernel
theorem dL_truth_54 : decode cL_truth 54 = .ok (.aload_n 0, 1) := by decide +kernel
theorem dL_truth_55 : decode cL_truth 55 = .ok (.iload_n 2, 1) := by decide +kernel
theorem dL_truth_56 : decode cL_truth 56 = .ok (.iconst 1, 1) := by decide +kernel
theorem dL_truth_57 : decode cL_truth 57 = .ok (.invokevirtual 66, 3) := by decide +kernel
theorem dL_truth_60 : decode cL_truth 60 = .ok (.iload 9, 2) := by decide +kernel
theorem dL_truth_62 : decode cL_truth 62 = .ok (.invokestatic 32, 3) := by decide +kernel
theorem dL_truth_65 : decode cL_truth 65 = .ok (.ishr, 1) := by decide +kernel
theorem dL_truth_66 : decode cL_truth 66 = .ok (.iconst 1, 1) := by decide +kernel
theorem dL_truth_67 : decode cL_truth 67 = .ok (.iand, 1) := by decide +kernel
theorem dL_truth_68 : decode cL_truth 68 = .ok (.iconst 1, 1) := by decide +kernel
theorem dL_truth_69 : decode cL_truth 69 = .ok (.if_icmp .ne 89, 3) := by decide +kernel
theorem dL_truth_72 : decode cL_truth 72 = .ok (.iload 9, 2) := by decide +kernel
theorem dL_truth_74 : decode cL_truth 74 = .ok (.aload_n 1, 1) := by decide +kernel
theorem dL_truth_75 : decode cL_truth 75 = .ok (.iconst 2, 1) := by decide +kernel
theorem dL_truth_76 : decode cL_truth 76 = .ok (.iconst 2, 1) := by decide +kernel
theorem dL_truth_77 : decode cL_truth 77 = .ok (.iload 8, 2) := by decide +kernel
theorem dL_truth_79 : decode cL_truth 79 = .ok (.imul, 1) := by decide +kernel
theorem dL_truth_80 : decode cL_truth 80 = .ok (.iadd, 1) := by decide +kernel
theorem dL_truth_81 : decode cL_truth 81 = .ok (.invokestatic 45, 3) := by decide +kernel
theorem dL_truth_84 : decode cL_truth 84 = .ok (.iload 10, 2) := by decide +kernel
theorem dL_truth_86 : decode cL_truth 86 = .ok (.invokestatic 41, 3) := by decide +kernel
theorem dL_truth_89 : decode cL_truth 89 = .ok (.istore 11, 2) := by decide +kernel
theorem dL_truth_91 : decode cL_truth 91 = .ok (.iload_n 3, 1) := by decide +kernel
theorem dL_truth_92 : decode cL_truth 92 = .ok (.iload 11, 2) := by decide +kernel
theorem dL_truth_94 : decode cL_truth 94 = .ok (.iadd, 1) := by decide +kernel
theorem dL_truth_95 : decode cL_truth 95 = .ok (.istore_n 3, 1) := by decide +kernel
theorem dL_truth_96 : decode cL_truth 96 = .ok (.iload 4, 2) := by decide +kernel
theorem dL_truth_98 : decode cL_truth 98 = .ok (.iload 11, 2) := by decide +kernel
theorem dL_truth_100 : decode cL_truth 100 = .ok (.aload_n 0, 1) := by decide +kernel
theorem dL_truth_101 : decode cL_truth 101 = .ok (.iload_n 2, 1) := by decide +kernel
theorem dL_truth_102 : decode cL_truth 102 = .ok (.iconst 2, 1) := by decide +kernel
theorem dL_truth_103 : decode cL_truth 103 = .ok (.invokevirtual 66, 3) := by decide +kernel
theorem dL_truth_106 : decode cL_truth 106 = .ok (.if_icmp .lt 7, 3) := by decide +kernel
theorem dL_truth_109 : decode cL_truth 109 = .ok (.iconst 1, 1) := by decide +kernel
theorem dL_truth_110 : decode cL_truth 110 = .ok (.goto 4, 3) := by decide +kernel
theorem dL_truth_113 : decode cL_truth 113 = .ok (.iconst 0, 1) := by decide +kernel
theorem dL_truth_114 : decode cL_truth 114 = .ok (.iadd, 1) := by decide +kernel
theorem dL_truth_115 : decode cL_truth 115 = .ok (.istore 4, 2) := by decide +kernel
theorem dL_truth_117 : decode cL_truth 117 = .ok (.iload 11, 2) := by decide +kernel
theorem dL_truth_119 : decode cL_truth 119 = .ok (.iload 5, 2) := by decide +kernel
theorem dL_truth_121 : decode cL_truth 121 = .ok (.if_icmp .ge 8, 3) := by decide +kernel
theorem dL_truth_124 : decode cL_truth 124 = .ok (.iload 11, 2) := by decide +kernel
theorem dL_truth_126 : decode cL_truth 126 = .ok (.goto 5, 3) := by decide +kernel
theorem dL_truth_129 : decode cL_truth 129 = .ok (.iload 5, 2) := by decide +kernel
theorem dL_truth_131 : decode cL_truth 131 = .ok (.istore 5, 2) := by decide +kernel
theorem dL_truth_133 : decode cL_truth 133 = .ok (.iload 11, 2) := by decide +kernel
theorem dL_truth_135 : decode cL_truth 135 = .ok (.iload 6, 2) := by decide +kernel
theorem dL_truth_137 : decode cL_truth 137 = .ok (.if_icmp .le 8, 3) := by decide +kernel
theorem dL_truth_140 : decode cL_truth 140 = .ok (.iload 11, 2) := by decide +kernel
theorem dL_truth_142 : decode cL_truth 142 = .ok (.goto 5, 3) := by decide +kernel
theorem dL_truth_145 : decode cL_truth 145 = .ok (.iload 6, 2) := by decide +kernel
theorem dL_truth_147 : decode cL_truth 147 = .ok (.istore 6, 2) := by decide +kernel
theorem dL_truth_149 : decode cL_truth 149 = .ok (.iinc 7 1, 3) := by decide +kernel
theorem dL_truth_152 : decode cL_truth 152 = .ok (.iinc 10 1, 3) := by decide +kernel
theorem dL_truth_155 : decode cL_truth 155 = .ok (.goto (-111), 3) := by decide +kernel
theorem dL_truth_158 : decode cL_truth 158 = .ok (.iinc 8 1, 3) := by decide +kernel
theorem dL_truth_161 : decode cL_truth 161 = .ok (.goto (-142), 3) := by decide +kernel
theorem dL_truth_164 : decode cL_truth 164 = .ok (.aload_n 0, 1) := by decide +kernel
theorem dL_truth_165 : decode cL_truth 165 = .ok (.iload_n 2, 1) := by decide +kernel
theorem dL_truth_166 : decode cL_truth 166 = .ok (.iconst 0, 1) := by decide +kernel
theorem dL_truth_167 : decode cL_truth 167 = .ok (.invokevirtual 66, 3) := by decide +kernel
theorem dL_truth_170 : decode cL_truth 170 = .ok (.istore 8, 2) := by decide +kernel
theorem dL_truth_172 : decode cL_truth 172 = .ok (.iload 7, 2) := by decide +kernel
theorem dL_truth_174 : decode cL_truth 174 = .ok (.ifCond .ne 8, 3) := by decide +kernel
theorem dL_truth_177 : decode cL_truth 177 = .ok (.bipush (-5), 2) := by decide +kernel
theorem dL_truth_179 : decode cL_truth 179 = .ok (.goto 52, 3) := by decide +kernel
theorem dL_truth_182 : decode cL_truth 182 = .ok (.iload 8, 2) := by decide +kernel
theorem dL_truth_184 : decode cL_truth 184 = .ok (.ifCond .ne 7, 3) := by decide +kernel
theorem dL_truth_187 : decode cL_truth 187 = .ok (.iload_n 3, 1) := by decide +kernel
theorem dL_truth_188 : decode cL_truth 188 = .ok (.goto 43, 3) := by decide +kernel
theorem dL_truth_191 : decode cL_truth 191 = .ok (.iload 8, 2) := by decide +kernel
theorem dL_truth_193 : decode cL_truth 193 = .ok (.iconst 1, 1) := by decide +kernel
theorem dL_truth_194 : decode cL_truth 194 = .ok (.if_icmp .ne 8, 3) := by decide +kernel
theorem dL_truth_197 : decode cL_truth 197 = .ok (.iload 4, 2) := by decide +kernel
theorem dL_truth_199 : decode cL_truth 199 = .ok (.goto 32, 3) := by decide +kernel
theorem dL_truth_202 : decode cL_truth 202 = .ok (.iload 8, 2) := by decide +kernel
theorem dL_truth_204 : decode cL_truth 204 = .ok (.iconst 2, 1) := by decide +kernel
theorem dL_truth_205 : decode cL_truth 205 = .ok (.if_icmp .ne 8, 3) := by decide +kernel
theorem dL_truth_208 : decode cL_truth 208 = .ok (.iload 5, 2) := by decide +kernel
theorem dL_truth_210 : decode cL_truth 210 = .ok (.goto 21, 3) := by decide +kernel
theorem dL_truth_213 : decode cL_truth 213 = .ok (.iload 8, 2) := by decide +kernel
theorem dL_truth_215 : decode cL_truth 215 = .ok (.iconst 3, 1) := by decide +kernel
theorem dL_truth_216 : decode cL_truth 216 = .ok (.if_icmp .ne 8, 3) := by decide +kernel
theorem dL_truth_219 : decode cL_truth 219 = .ok (.iload 6, 2) := by decide +kernel
theorem dL_truth_221 : decode cL_truth 221 = .ok (.goto 10, 3) := by decide +kernel
theorem dL_truth_224 : decode cL_truth 224 = .ok (.bipush 100, 2) := by decide +kernel
theorem dL_truth_226 : decode cL_truth 226 = .ok (.iload_n 3, 1) := by decide +kernel
theorem dL_truth_227 : decode cL_truth 227 = .ok (.imul, 1) := by decide +kernel
theorem dL_truth_228 : decode cL_truth 228 = .ok (.iload 7, 2) := by decide +kernel
theorem dL_truth_230 : decode cL_truth 230 = .ok (.idiv, 1) := by decide +kernel
theorem dL_truth_231 : decode cL_truth 231 = .ok (.ireturn, 1) := by decide +kernel
theorem dL_isSound_0 : decode cL_isSound 0 = .ok (.aload_n 0, 1) := by decide +kernel
theorem dL_isSound_1 : decode cL_isSound 1 = .ok (.iload_n 2, 1) := by decide +kernel
theorem dL_isSound_2 : decode cL_isSound 2 = .ok (.iconst 5, 1) := by decide +kernel
theorem dL_isSound_3 : decode cL_isSound 3 = .ok (.invokevirtual 66, 3) := by decide +kernel
theorem dL_isSound_6 : decode cL_isSound 6 = .ok (.istore 4, 2) := by decide +kernel
theorem dL_isSound_8 : decode cL_isSound 8 = .ok (.aload_n 0, 1) := by decide +kernel
theorem dL_isSound_9 : decode cL_isSound 9 = .ok (.iload_n 2, 1) := by decide +kernel
theorem dL_isSound_10 : decode cL_isSound 10 = .ok (.bipush 6, 2) := by decide +kernel
theorem dL_isSound_12 : decode cL_isSound 12 = .ok (.invokevirtual 66, 3) := by decide +kernel
theorem dL_isSound_15 : decode cL_isSound 15 = .ok (.istore 5, 2) := by decide +kernel
theorem dL_isSound_17 : decode cL_isSound 17 = .ok (.aload_n 0, 1) := by decide +kernel
theorem dL_isSound_18 : decode cL_isSound 18 = .ok (.iload_n 2, 1) := by decide +kernel
theorem dL_isSound_19 : decode cL_isSound 19 = .ok (.bipush 7, 2) := by decide +kernel
theorem dL_isSound_21 : decode cL_isSound 21 = .ok (.invokevirtual 66, 3) := by decide +kernel
theorem dL_isSound_24 : decode cL_isSound 24 = .ok (.istore 6, 2) := by decide +kernel
theorem dL_isSound_26 : decode cL_isSound 26 = .ok (.aload_n 0, 1) := by decide +kernel
theorem dL_isSound_27 : decode cL_isSound 27 = .ok (.aload_n 1, 1) := by decide +kernel
theorem dL_isSound_28 : decode cL_isSound 28 = .ok (.iload_n 2, 1) := by decide +kernel
theorem dL_isSound_29 : decode cL_isSound 29 = .ok (.invokestatic 75, 3) := by decide +kernel
theorem dL_isSound_32 : decode cL_isSound 32 = .ok (.istore 7, 2) := by decide +kernel
theorem dL_isSound_34 : decode cL_isSound 34 = .ok (.aload_n 0, 1) := by decide +kernel
theorem dL_isSound_35 : decode cL_isSound 35 = .ok (.iload_n 2, 1) := by decide +kernel
theorem dL_isSound_36 : decode cL_isSound 36 = .ok (.iconst 4, 1) := by decide +kernel
theorem dL_isSound_37 : decode cL_isSound 37 = .ok (.invokevirtual 66, 3) := by decide +kernel
theorem dL_isSound_40 : decode cL_isSound 40 = .ok (.iconst 1, 1) := by decide +kernel
theorem dL_isSound_41 : decode cL_isSound 41 = .ok (.if_icmp .ne 7, 3) := by decide +kernel
theorem dL_isSound_44 : decode cL_isSound 44 = .ok (.iconst 1, 1) := by decide +kernel
theorem dL_isSound_45 : decode cL_isSound 45 = .ok (.goto 4, 3) := by decide +kernel
theorem dL_isSound_48 : decode cL_isSound 48 = .ok (.iconst 0, 1) := by decide +kernel
theorem dL_isSound_49 : decode cL_isSound 49 = .ok (.istore 8, 2) := by decide +kernel
theorem dL_isSound_51 : decode cL_isSound 51 = .ok (.iload 7, 2) := by decide +kernel
theorem dL_isSound_53 : decode cL_isSound 53 = .ok (.bipush (-5), 2) := by decide +kernel
theorem dL_isSound_55 : decode cL_isSound 55 = .ok (.if_icmp .ne 45, 3) := by decide +kernel
theorem dL_isSound_58 : decode cL_isSound 58 = .ok (.iload 4, 2) := by decide +kernel
theorem dL_isSound_60 : decode cL_isSound 60 = .ok (.bipush (-5), 2) := by decide +kernel
theorem dL_isSound_62 : decode cL_isSound 62 = .ok (.if_icmp .ne 36, 3) := by decide +kernel
theorem dL_isSound_65 : decode cL_isSound 65 = .ok (.iload 5, 2) := by decide +kernel
theorem dL_isSound_67 : decode cL_isSound 67 = .ok (.bipush (-5), 2) := by decide +kernel
theorem dL_isSound_69 : decode cL_isSound 69 = .ok (.if_icmp .ne 29, 3) := by decide +kernel
theorem dL_isSound_72 : decode cL_isSound 72 = .ok (.iload 6, 2) := by decide +kernel
theorem dL_isSound_74 : decode cL_isSound 74 = .ok (.bipush (-5), 2) := by decide +kernel
theorem dL_isSound_76 : decode cL_isSound 76 = .ok (.if_icmp .ne 22, 3) := by decide +kernel
theorem dL_isSound_79 : decode cL_isSound 79 = .ok (.iload 8, 2) := by decide +kernel
theorem dL_isSound_81 : decode cL_isSound 81 = .ok (.ifCond .ne 17, 3) := by decide +kernel
theorem dL_isSound_84 : decode cL_isSound 84 = .ok (.aload_n 0, 1) := by decide +kernel
theorem dL_isSound_85 : decode cL_isSound 85 = .ok (.iload_n 2, 1) := by decide +kernel
theorem dL_isSound_86 : decode cL_isSound 86 = .ok (.bipush 11, 2) := by decide +kernel
theorem dL_isSound_88 : decode cL_isSound 88 = .ok (.invokevirtual 66, 3) := by decide +kernel
theorem dL_isSound_91 : decode cL_isSound 91 = .ok (.ifCond .ne 7, 3) := by decide +kernel
theorem dL_isSound_94 : decode cL_isSound 94 = .ok (.iconst 1, 1) := by decide +kernel
theorem dL_isSound_95 : decode cL_isSound 95 = .ok (.goto 4, 3) := by decide +kernel
theorem dL_isSound_98 : decode cL_isSound 98 = .ok (.iconst 0, 1) := by decide +kernel
theorem dL_isSound_99 : decode cL_isSound 99 = .ok (.ireturn, 1) := by decide +kernel
theorem dL_isSound_100 : decode cL_isSound 100 = .ok (.iload 4, 2) := by decide +kernel
theorem dL_isSound_102 : decode cL_isSound 102 = .ok (.iload 7, 2) := by decide +kernel
theorem dL_isSound_104 : decode cL_isSound 104 = .ok (.if_icmp .gt 47, 3) := by decide +kernel
theorem dL_isSound_107 : decode cL_isSound 107 = .ok (.iload 7, 2) := by decide +kernel
theorem dL_isSound_109 : decode cL_isSound 109 = .ok (.iload 5, 2) := by decide +kernel
theorem dL_isSound_111 : decode cL_isSound 111 = .ok (.if_icmp .gt 40, 3) := by decide +kernel
theorem dL_isSound_114 : decode cL_isSound 114 = .ok (.iload 4, 2) := by decide +kernel
theorem dL_isSound_116 : decode cL_isSound 116 = .ok (.iload 6, 2) := by decide +kernel
theorem dL_isSound_118 : decode cL_isSound 118 = .ok (.if_icmp .gt 33, 3) := by decide +kernel
theorem dL_isSound_121 : decode cL_isSound 121 = .ok (.iload 6, 2) := by decide +kernel
theorem dL_isSound_123 : decode cL_isSound 123 = .ok (.iload 5, 2) := by decide +kernel
theorem dL_isSound_125 : decode cL_isSound 125 = .ok (.if_icmp .gt 26, 3) := by decide +kernel
theorem dL_isSound_128 : decode cL_isSound 128 = .ok (.iload 4, 2) := by decide +kernel
theorem dL_isSound_130 : decode cL_isSound 130 = .ok (.aload_n 3, 1) := by decide +kernel
theorem dL_isSound_131 : decode cL_isSound 131 = .ok (.iload_n 2, 1) := by decide +kernel
theorem dL_isSound_132 : decode cL_isSound 132 = .ok (.iaload, 1) := by decide +kernel
theorem dL_isSound_133 : decode cL_isSound 133 = .ok (.if_icmp .lt 18, 3) := by decide +kernel
theorem dL_isSound_136 : decode cL_isSound 136 = .ok (.iload 5, 2) := by decide +kernel
theorem dL_isSound_138 : decode cL_isSound 138 = .ok (.aload_n 3, 1) := by decide +kernel
theorem dL_isSound_139 : decode cL_isSound 139 = .ok (.bipush 6, 2) := by decide +kernel
theorem dL_isSound_141 : decode cL_isSound 141 = .ok (.iload_n 2, 1) := by decide +kernel
theorem dL_isSound_142 : decode cL_isSound 142 = .ok (.iadd, 1) := by decide +kernel
theorem dL_isSound_143 : decode cL_isSound 143 = .ok (.iaload, 1) := by decide +kernel
theorem dL_isSound_144 : decode cL_isSound 144 = .ok (.if_icmp .gt 7, 3) := by decide +kernel
theorem dL_isSound_147 : decode cL_isSound 147 = .ok (.iconst 1, 1) := by decide +kernel
theorem dL_isSound_148 : decode cL_isSound 148 = .ok (.goto 4, 3) := by decide +kernel
theorem dL_isSound_151 : decode cL_isSound 151 = .ok (.iconst 0, 1) := by decide +kernel
theorem dL_isSound_152 : decode cL_isSound 152 = .ok (.istore 9, 2) := by decide +kernel
theorem dL_isSound_154 : decode cL_isSound 154 = .ok (.aload_n 0, 1) := by decide +kernel
theorem dL_isSound_155 : decode cL_isSound 155 = .ok (.iload_n 2, 1) := by decide +kernel
theorem dL_isSound_156 : decode cL_isSound 156 = .ok (.bipush 11, 2) := by decide +kernel
theorem dL_isSound_158 : decode cL_isSound 158 = .ok (.invokevirtual 66, 3) := by decide +kernel
theorem dL_isSound_161 : decode cL_isSound 161 = .ok (.aload_n 0, 1) := by decide +kernel
theorem dL_isSound_162 : decode cL_isSound 162 = .ok (.iload_n 2, 1) := by decide +kernel
theorem dL_isSound_163 : decode cL_isSound 163 = .ok (.bipush 12, 2) := by decide +kernel
theorem dL_isSound_165 : decode cL_isSound 165 = .ok (.invokevirtual 66, 3) := by decide +kernel
theorem dL_isSound_168 : decode cL_isSound 168 = .ok (.if_icmp .ne 7, 3) := by decide +kernel
theorem dL_isSound_171 : decode cL_isSound 171 = .ok (.iconst 1, 1) := by decide +kernel
theorem dL_isSound_172 : decode cL_isSound 172 = .ok (.goto 4, 3) := by decide +kernel
theorem dL_isSound_175 : decode cL_isSound 175 = .ok (.iconst 0, 1) := by decide +kernel
theorem dL_isSound_176 : decode cL_isSound 176 = .ok (.istore 10, 2) := by decide +kernel
theorem dL_isSound_178 : decode cL_isSound 178 = .ok (.iload 9, 2) := by decide +kernel
theorem dL_isSound_180 : decode cL_isSound 180 = .ok (.ifCond .eq 50, 3) := by decide +kernel
theorem dL_isSound_183 : decode cL_isSound 183 = .ok (.iload 10, 2) := by decide +kernel
theorem dL_isSound_185 : decode cL_isSound 185 = .ok (.ifCond .eq 22, 3) := by decide +kernel
theorem dL_isSound_188 : decode cL_isSound 188 = .ok (.iload 4, 2) := by decide +kernel
theorem dL_isSound_190 : decode cL_isSound 190 = .ok (.iload 5, 2) := by decide +kernel
theorem dL_isSound_192 : decode cL_isSound 192 = .ok (.if_icmp .ne 38, 3) := by decide +kernel
theorem dL_isSound_195 : decode cL_isSound 195 = .ok (.iload 6, 2) := by decide +kernel
theorem dL_isSound_197 : decode cL_isSound 197 = .ok (.iload 7, 2) := by decide +kernel
theorem dL_isSound_199 : decode cL_isSound 199 = .ok (.if_icmp .ne 31, 3) := by decide +kernel
theorem dL_isSound_202 : decode cL_isSound 202 = .ok (.iload 8, 2) := by decide +kernel
theorem dL_isSound_204 : decode cL_isSound 204 = .ok (.ifCond .eq 26, 3) := by decide +kernel
theorem dL_isSound_207 : decode cL_isSound 207 = .ok (.iload 8, 2) := by decide +kernel
theorem dL_isSound_209 : decode cL_isSound 209 = .ok (.ifCond .ne 17, 3) := by decide +kernel
theorem dL_isSound_212 : decode cL_isSound 212 = .ok (.iload 5, 2) := by decide +kernel
theorem dL_isSound_214 : decode cL_isSound 214 = .ok (.iload 4, 2) := by decide +kernel
theorem dL_isSound_216 : decode cL_isSound 216 = .ok (.isub, 1) := by decide +kernel
theorem dL_isSound_217 : decode cL_isSound 217 = .ok (.aload_n 0, 1) := by decide +kernel
theorem dL_isSound_218 : decode cL_isSound 218 = .ok (.iload_n 2, 1) := by decide +kernel
theorem dL_isSound_219 : decode cL_isSound 219 = .ok (.iconst 3, 1) := by decide +kernel
theorem dL_isSound_220 : decode cL_isSound 220 = .ok (.invokevirtual 66, 3) := by decide +kernel
theorem dL_isSound_223 : decode cL_isSound 223 = .ok (.if_icmp .le 7, 3) := by decide +kernel
theorem dL_isSound_226 : decode cL_isSound 226 = .ok (.iconst 1, 1) := by decide +kernel
theorem dL_isSound_227 : decode cL_isSound 227 = .ok (.goto 4, 3) := by decide +kernel
theorem dL_isSound_230 : decode cL_isSound 230 = .ok (.iconst 0, 1) := by decide +kernel
theorem dL_isSound_231 : decode cL_isSound 231 = .ok (.istore 9, 2) := by decide +kernel
theorem dL_isSound_233 : decode cL_isSound 233 = .ok (.iload 8, 2) := by decide +kernel
theorem dL_isSound_235 : decode cL_isSound 235 = .ok (.ifCond .ne 53, 3) := by decide +kernel
theorem dL_isSound_238 : decode cL_isSound 238 = .ok (.iload 9, 2) := by decide +kernel
theorem dL_isSound_240 : decode cL_isSound 240 = .ok (.ifCond .eq 42, 3) := by decide +kernel
theorem dL_isSound_243 : decode cL_isSound 243 = .ok (.aload_n 0, 1) := by decide +kernel
theorem dL_isSound_244 : decode cL_isSound 244 = .ok (.iload_n 2, 1) := by decide +kernel
theorem dL_isSound_245 : decode cL_isSound 245 = .ok (.bipush 8, 2) := by decide +kernel
theorem dL_isSound_247 : decode cL_isSound 247 = .ok (.invokevirtual 66, 3) := by decide +kernel
theorem dL_isSound_250 : decode cL_isSound 250 = .ok (.bipush (-5), 2) := by decide +kernel
theorem dL_isSound_252 : decode cL_isSound 252 = .ok (.if_icmp .ne 30, 3) := by decide +kernel
theorem dL_isSound_255 : decode cL_isSound 255 = .ok (.aload_n 0, 1) := by decide +kernel
theorem dL_isSound_256 : decode cL_isSound 256 = .ok (.iload_n 2, 1) := by decide +kernel
theorem dL_isSound_257 : decode cL_isSound 257 = .ok (.bipush 10, 2) := by decide +kernel
theorem dL_isSound_259 : decode cL_isSound 259 = .ok (.invokevirtual 66, 3) := by decide +kernel
theorem dL_isSound_262 : decode cL_isSound 262 = .ok (.bipush (-5), 2) := by decide +kernel
theorem dL_isSound_264 : decode cL_isSound 264 = .ok (.if_icmp .ne 18, 3) := by decide +kernel
theorem dL_isSound_267 : decode cL_isSound 267 = .ok (.aload_n 3, 1) := by decide +kernel
theorem dL_isSound_268 : decode cL_isSound 268 = .ok (.bipush 12, 2) := by decide +kernel
theorem dL_isSound_270 : decode cL_isSound 270 = .ok (.iload_n 2, 1) := by decide +kernel
theorem dL_isSound_271 : decode cL_isSound 271 = .ok (.iadd, 1) := by decide +kernel
theorem dL_isSound_272 : decode cL_isSound 272 = .ok (.iaload, 1) := by decide +kernel
theorem dL_isSound_273 : decode cL_isSound 273 = .ok (.bipush (-5), 2) := by decide +kernel
theorem dL_isSound_275 : decode cL_isSound 275 = .ok (.if_icmp .ne 7, 3) := by decide +kernel
theorem dL_isSound_278 : decode cL_isSound 278 = .ok (.iconst 1, 1) := by decide +kernel
theorem dL_isSound_279 : decode cL_isSound 279 = .ok (.goto 4, 3) := by decide +kernel
theorem dL_isSound_282 : decode cL_isSound 282 = .ok (.iconst 0, 1) := by decide +kernel
theorem dL_isSound_283 : decode cL_isSound 283 = .ok (.istore 9, 2) := by decide +kernel
theorem dL_isSound_285 : decode cL_isSound 285 = .ok (.goto 102, 3) := by decide +kernel
theorem dL_isSound_288 : decode cL_isSound 288 = .ok (.aload_n 0, 1) := by decide +kernel
theorem dL_isSound_289 : decode cL_isSound 289 = .ok (.iload_n 2, 1) := by decide +kernel
theorem dL_isSound_290 : decode cL_isSound 290 = .ok (.bipush 10, 2) := by decide +kernel
theorem dL_isSound_292 : decode cL_isSound 292 = .ok (.invokevirtual 66, 3) := by decide +kernel
theorem dL_isSound_295 : decode cL_isSound 295 = .ok (.istore 11, 2) := by decide +kernel
theorem dL_isSound_297 : decode cL_isSound 297 = .ok (.iload 9, 2) := by decide +kernel
theorem dL_isSound_299 : decode cL_isSound 299 = .ok (.ifCond .eq 77, 3) := by decide +kernel
theorem dL_isSound_302 : decode cL_isSound 302 = .ok (.aload_n 0, 1) := by decide +kernel
theorem dL_isSound_303 : decode cL_isSound 303 = .ok (.iload_n 2, 1) := by decide +kernel
theorem dL_isSound_304 : decode cL_isSound 304 = .ok (.bipush 9, 2) := by decide +kernel
theorem dL_isSound_306 : decode cL_isSound 306 = .ok (.invokevirtual 66, 3) := by decide +kernel
theorem dL_isSound_309 : decode cL_isSound 309 = .ok (.aload_n 0, 1) := by decide +kernel
theorem dL_isSound_310 : decode cL_isSound 310 = .ok (.iload_n 2, 1) := by decide +kernel
theorem dL_isSound_311 : decode cL_isSound 311 = .ok (.bipush 8, 2) := by decide +kernel
theorem dL_isSound_313 : decode cL_isSound 313 = .ok (.invokevirtual 66, 3) := by decide +kernel
theorem dL_isSound_316 : decode cL_isSound 316 = .ok (.isub, 1) := by decide +kernel
theorem dL_isSound_317 : decode cL_isSound 317 = .ok (.aload_n 0, 1) := by decide +kernel
theorem dL_isSound_318 : decode cL_isSound 318 = .ok (.iload_n 2, 1) := by decide +kernel
theorem dL_isSound_319 : decode cL_isSound 319 = .ok (.iconst 3, 1) := by decide +kernel
theorem dL_isSound_320 : decode cL_isSound 320 = .ok (.invokevirtual 66, 3) := by decide +kernel
theorem dL_isSound_323 : decode cL_isSound 323 = .ok (.if_icmp .gt 53, 3) := by decide +kernel
theorem dL_isSound_326 : decode cL_isSound 326 = .ok (.aload_n 0, 1) := by decide +kernel
theorem dL_isSound_327 : decode cL_isSound 327 = .ok (.iload_n 2, 1) := by decide +kernel
theorem dL_isSound_328 : decode cL_isSound 328 = .ok (.bipush 8, 2) := by decide +kernel
theorem dL_isSound_330 : decode cL_isSound 330 = .ok (.invokevirtual 66, 3) := by decide +kernel
theorem dL_isSound_333 : decode cL_isSound 333 = .ok (.iload 7, 2) := by decide +kernel
theorem dL_isSound_335 : decode cL_isSound 335 = .ok (.if_icmp .gt 41, 3) := by decide +kernel
theorem dL_isSound_338 : decode cL_isSound 338 = .ok (.iload 7, 2) := by decide +kernel
theorem dL_isSound_340 : decode cL_isSound 340 = .ok (.aload_n 0, 1) := by decide +kernel
theorem dL_isSound_341 : decode cL_isSound 341 = .ok (.iload_n 2, 1) := by decide +kernel
theorem dL_isSound_342 : decode cL_isSound 342 = .ok (.bipush 9, 2) := by decide +kernel
theorem dL_isSound_344 : decode cL_isSound 344 = .ok (.invokevirtual 66, 3) := by decide +kernel
theorem dL_isSound_347 : decode cL_isSound 347 = .ok (.if_icmp .gt 29, 3) := by decide +kernel
theorem dL_isSound_350 : decode cL_isSound 350 = .ok (.aload_n 3, 1) := by decide +kernel
theorem dL_isSound_351 : decode cL_isSound 351 = .ok (.bipush 12, 2) := by decide +kernel
theorem dL_isSound_353 : decode cL_isSound 353 = .ok (.iload_n 2, 1) := by decide +kernel
theorem dL_isSound_354 : decode cL_isSound 354 = .ok (.iadd, 1) := by decide +kernel
theorem dL_isSound_355 : decode cL_isSound 355 = .ok (.iaload, 1) := by decide +kernel
theorem dL_isSound_356 : decode cL_isSound 356 = .ok (.bipush (-5), 2) := by decide +kernel
theorem dL_isSound_358 : decode cL_isSound 358 = .ok (.if_icmp .eq 14, 3) := by decide +kernel
theorem dL_isSound_361 : decode cL_isSound 361 = .ok (.aload_n 3, 1) := by decide +kernel
theorem dL_isSound_362 : decode cL_isSound 362 = .ok (.bipush 12, 2) := by decide +kernel
theorem dL_isSound_364 : decode cL_isSound 364 = .ok (.iload_n 2, 1) := by decide +kernel
theorem dL_isSound_365 : decode cL_isSound 365 = .ok (.iadd, 1) := by decide +kernel
theorem dL_isSound_366 : decode cL_isSound 366 = .ok (.iaload, 1) := by decide +kernel
theorem dL_isSound_367 : decode cL_isSound 367 = .ok (.iload 11, 2) := by decide +kernel
theorem dL_isSound_369 : decode cL_isSound 369 = .ok (.if_icmp .ne 7, 3) := by decide +kernel
theorem dL_isSound_372 : decode cL_isSound 372 = .ok (.iconst 1, 1) := by decide +kernel
theorem dL_isSound_373 : decode cL_isSound 373 = .ok (.goto 4, 3) := by decide +kernel
theorem dL_isSound_376 : decode cL_isSound 376 = .ok (.iconst 0, 1) := by decide +kernel
theorem dL_isSound_377 : decode cL_isSound 377 = .ok (.istore 9, 2) := by decide +kernel
theorem dL_isSound_379 : decode cL_isSound 379 = .ok (.aload_n 3, 1) := by decide +kernel
theorem dL_isSound_380 : decode cL_isSound 380 = .ok (.bipush 12, 2) := by decide +kernel
theorem dL_isSound_382 : decode cL_isSound 382 = .ok (.iload_n 2, 1) := by decide +kernel
theorem dL_isSound_383 : decode cL_isSound 383 = .ok (.iadd, 1) := by decide +kernel
theorem dL_isSound_384 : decode cL_isSound 384 = .ok (.iload 11, 2) := by decide +kernel
theorem dL_isSound_386 : decode cL_isSound 386 = .ok (.iastore, 1) := by decide +kernel
theorem dL_isSound_387 : decode cL_isSound 387 = .ok (.aload_n 3, 1) := by decide +kernel
theorem dL_isSound_388 : decode cL_isSound 388 = .ok (.iload_n 2, 1) := by decide +kernel
theorem dL_isSound_389 : decode cL_isSound 389 = .ok (.iload 4, 2) := by decide +kernel
theorem dL_isSound_391 : decode cL_isSound 391 = .ok (.iastore, 1) := by decide +kernel
theorem dL_isSound_392 : decode cL_isSound 392 = .ok (.aload_n 3, 1) := by decide +kernel
theorem dL_isSound_393 : decode cL_isSound 393 = .ok (.bipush 6, 2) := by decide +kernel
theorem dL_isSound_395 : decode cL_isSound 395 = .ok (.iload_n 2, 1) := by decide +kernel
theorem dL_isSound_396 : decode cL_isSound 396 = .ok (.iadd, 1) := by decide +kernel
theorem dL_isSound_397 : decode cL_isSound 397 = .ok (.iload 5, 2) := by decide +kernel
theorem dL_isSound_399 : decode cL_isSound 399 = .ok (.iastore, 1) := by decide +kernel
theorem dL_isSound_400 : decode cL_isSound 400 = .ok (.iload 9, 2) := by decide +kernel
theorem dL_isSound_402 : decode cL_isSound 402 = .ok (.ireturn, 1) := by decide +kernel
theorem dL_areSound_0 : decode cL_areSound 0 = .ok (.iconst 0, 1) := by decide +kernel
theorem dL_areSound_1 : decode cL_areSound 1 = .ok (.istore_n 3, 1) := by decide +kernel
theorem dL_areSound_2 : decode cL_areSound 2 = .ok (.iconst 0, 1) := by decide +kernel
theorem dL_areSound_3 : decode cL_areSound 3 = .ok (.istore 4, 2) := by decide +kernel
theorem dL_areSound_5 : decode cL_areSound 5 = .ok (.iload 4, 2) := by decide +kernel
theorem dL_areSound_7 : decode cL_areSound 7 = .ok (.aload_n 0, 1) := by decide +kernel
theorem dL_areSound_8 : decode cL_areSound 8 = .ok (.iconst 1, 1) := by decide +kernel
theorem dL_areSound_9 : decode cL_areSound 9 = .ok (.invokevirtual 72, 3) := by decide +kernel
theorem dL_areSound_12 : decode cL_areSound 12 = .ok (.if_icmp .ge 34, 3) := by decide +kernel
theorem dL_areSound_15 : decode cL_areSound 15 = .ok (.aload_n 0, 1) := by decide +kernel
theorem dL_areSound_16 : decode cL_areSound 16 = .ok (.aload_n 1, 1) := by decide +kernel
theorem dL_areSound_17 : decode cL_areSound 17 = .ok (.iload 4, 2) := by decide +kernel
theorem dL_areSound_19 : decode cL_areSound 19 = .ok (.aload_n 2, 1) := by decide +kernel
theorem dL_areSound_20 : decode cL_areSound 20 = .ok (.invokestatic 79, 3) := by decide +kernel
theorem dL_areSound_23 : decode cL_areSound 23 = .ok (.ifCond .ne 5, 3) := by decide +kernel
theorem dL_areSound_26 : decode cL_areSound 26 = .ok (.iconst 0, 1) := by decide +kernel
theorem dL_areSound_27 : decode cL_areSound 27 = .ok (.ireturn, 1) := by decide +kernel
theorem dL_areSound_28 : decode cL_areSound 28 = .ok (.iload_n 3, 1) := by decide +kernel
theorem dL_areSound_29 : decode cL_areSound 29 = .ok (.iconst 1, 1) := by decide +kernel
theorem dL_areSound_30 : decode cL_areSound 30 = .ok (.aload_n 0, 1) := by decide +kernel
theorem dL_areSound_31 : decode cL_areSound 31 = .ok (.iload 4, 2) := by decide +kernel
theorem dL_areSound_33 : decode cL_areSound 33 = .ok (.iconst 4, 1) := by decide +kernel
theorem dL_areSound_34 : decode cL_areSound 34 = .ok (.invokevirtual 66, 3) := by decide +kernel
theorem dL_areSound_37 : decode cL_areSound 37 = .ok (.isub, 1) := by decide +kernel
theorem dL_areSound_38 : decode cL_areSound 38 = .ok (.iadd, 1) := by decide +kernel
theorem dL_areSound_39 : decode cL_areSound 39 = .ok (.istore_n 3, 1) := by decide +kernel
theorem dL_areSound_40 : decode cL_areSound 40 = .ok (.iinc 4 1, 3) := by decide +kernel
theorem dL_areSound_43 : decode cL_areSound 43 = .ok (.goto (-38), 3) := by decide +kernel
theorem dL_areSound_46 : decode cL_areSound 46 = .ok (.iload_n 3, 1) := by decide +kernel
theorem dL_areSound_47 : decode cL_areSound 47 = .ok (.aload_n 0, 1) := by decide +kernel
theorem dL_areSound_48 : decode cL_areSound 48 = .ok (.iconst 2, 1) := by decide +kernel
theorem dL_areSound_49 : decode cL_areSound 49 = .ok (.invokevirtual 72, 3) := by decide +kernel
theorem dL_areSound_52 : decode cL_areSound 52 = .ok (.if_icmp .ne 7, 3) := by decide +kernel
theorem dL_areSound_55 : decode cL_areSound 55 = .ok (.iconst 1, 1) := by decide +kernel
theorem dL_areSound_56 : decode cL_areSound 56 = .ok (.goto 4, 3) := by decide +kernel
theorem dL_areSound_59 : decode cL_areSound 59 = .ok (.iconst 0, 1) := by decide +kernel
theorem dL_areSound_60 : decode cL_areSound 60 = .ok (.ireturn, 1) := by decide +kernel
theorem dL_law_0 : decode cL_law 0 = .ok (.new 24, 3) := by decide +kernel
theorem dL_law_3 : decode cL_law 3 = .ok (.dup, 1) := by decide +kernel
theorem dL_law_4 : decode cL_law 4 = .ok (.invokespecial 83, 3) := by decide +kernel
theorem dL_law_7 : decode cL_law 7 = .ok (.astore_n 1, 1) := by decide +kernel
theorem dL_law_8 : decode cL_law 8 = .ok (.bipush 18, 2) := by decide +kernel
theorem dL_law_10 : decode cL_law 10 = .ok (.newarray .int, 2) := by decide +kernel
theorem dL_law_12 : decode cL_law 12 = .ok (.astore_n 2, 1) := by decide +kernel
theorem dL_law_13 : decode cL_law 13 = .ok (.aload_n 1, 1) := by decide +kernel
theorem dL_law_14 : decode cL_law 14 = .ok (.aload_n 0, 1) := by decide +kernel
theorem dL_law_15 : decode cL_law 15 = .ok (.invokestatic 84, 3) := by decide +kernel
theorem dL_law_18 : decode cL_law 18 = .ok (.ifCond .ne 5, 3) := by decide +kernel
theorem dL_law_21 : decode cL_law 21 = .ok (.iconst 0, 1) := by decide +kernel
theorem dL_law_22 : decode cL_law 22 = .ok (.ireturn, 1) := by decide +kernel
theorem dL_law_23 : decode cL_law 23 = .ok (.iconst 0, 1) := by decide +kernel
theorem dL_law_24 : decode cL_law 24 = .ok (.istore_n 3, 1) := by decide +kernel
theorem dL_law_25 : decode cL_law 25 = .ok (.iload_n 3, 1) := by decide +kernel
theorem dL_law_26 : decode cL_law 26 = .ok (.bipush 6, 2) := by decide +kernel
theorem dL_law_28 : decode cL_law 28 = .ok (.if_icmp .ge 30, 3) := by decide +kernel
theorem dL_law_31 : decode cL_law 31 = .ok (.aload_n 2, 1) := by decide +kernel
theorem dL_law_32 : decode cL_law 32 = .ok (.iload_n 3, 1) := by decide +kernel
theorem dL_law_33 : decode cL_law 33 = .ok (.bipush (-5), 2) := by decide +kernel
theorem dL_law_35 : decode cL_law 35 = .ok (.iastore, 1) := by decide +kernel
theorem dL_law_36 : decode cL_law 36 = .ok (.aload_n 2, 1) := by decide +kernel
theorem dL_law_37 : decode cL_law 37 = .ok (.bipush 6, 2) := by decide +kernel
theorem dL_law_39 : decode cL_law 39 = .ok (.iload_n 3, 1) := by decide +kernel
theorem dL_law_40 : decode cL_law 40 = .ok (.iadd, 1) := by decide +kernel
theorem dL_law_41 : decode cL_law 41 = .ok (.ldc 88, 2) := by decide +kernel
theorem dL_law_43 : decode cL_law 43 = .ok (.iastore, 1) := by decide +kernel
theorem dL_law_44 : decode cL_law 44 = .ok (.aload_n 2, 1) := by decide +kernel
theorem dL_law_45 : decode cL_law 45 = .ok (.bipush 12, 2) := by decide +kernel
theorem dL_law_47 : decode cL_law 47 = .ok (.iload_n 3, 1) := by decide +kernel
theorem dL_law_48 : decode cL_law 48 = .ok (.iadd, 1) := by decide +kernel
theorem dL_law_49 : decode cL_law 49 = .ok (.bipush (-5), 2) := by decide +kernel
theorem dL_law_51 : decode cL_law 51 = .ok (.iastore, 1) := by decide +kernel
theorem dL_law_52 : decode cL_law 52 = .ok (.iinc 3 1, 3) := by decide +kernel
theorem dL_law_55 : decode cL_law 55 = .ok (.goto (-30), 3) := by decide +kernel
theorem dL_law_58 : decode cL_law 58 = .ok (.aload_n 1, 1) := by decide +kernel
theorem dL_law_59 : decode cL_law 59 = .ok (.aload_n 0, 1) := by decide +kernel
theorem dL_law_60 : decode cL_law 60 = .ok (.aload_n 2, 1) := by decide +kernel
theorem dL_law_61 : decode cL_law 61 = .ok (.invokestatic 89, 3) := by decide +kernel
theorem dL_law_64 : decode cL_law 64 = .ok (.ifCond .ne 5, 3) := by decide +kernel
theorem dL_law_67 : decode cL_law 67 = .ok (.iconst 0, 1) := by decide +kernel
theorem dL_law_68 : decode cL_law 68 = .ok (.ireturn, 1) := by decide +kernel
theorem dL_law_69 : decode cL_law 69 = .ok (.aload_n 1, 1) := by decide +kernel
theorem dL_law_70 : decode cL_law 70 = .ok (.iconst 1, 1) := by decide +kernel
theorem dL_law_71 : decode cL_law 71 = .ok (.invokevirtual 72, 3) := by decide +kernel
theorem dL_law_74 : decode cL_law 74 = .ok (.istore_n 3, 1) := by decide +kernel
theorem dL_law_75 : decode cL_law 75 = .ok (.iconst 0, 1) := by decide +kernel
theorem dL_law_76 : decode cL_law 76 = .ok (.istore 4, 2) := by decide +kernel
theorem dL_law_78 : decode cL_law 78 = .ok (.aload_n 1, 1) := by decide +kernel
theorem dL_law_79 : decode cL_law 79 = .ok (.iconst 5, 1) := by decide +kernel
theorem dL_law_80 : decode cL_law 80 = .ok (.invokevirtual 72, 3) := by decide +kernel
theorem dL_law_83 : decode cL_law 83 = .ok (.aload_n 1, 1) := by decide +kernel
theorem dL_law_84 : decode cL_law 84 = .ok (.iconst 4, 1) := by decide +kernel
theorem dL_law_85 : decode cL_law 85 = .ok (.invokevirtual 72, 3) := by decide +kernel
theorem dL_law_88 : decode cL_law 88 = .ok (.if_icmp .ge 315, 3) := by decide +kernel
theorem dL_law_91 : decode cL_law 91 = .ok (.iload 4, 2) := by decide +kernel
theorem dL_law_93 : decode cL_law 93 = .ok (.bipush 24, 2) := by decide +kernel
theorem dL_law_95 : decode cL_law 95 = .ok (.if_icmp .ge 308, 3) := by decide +kernel
theorem dL_law_98 : decode cL_law 98 = .ok (.aload_n 0, 1) := by decide +kernel
theorem dL_law_99 : decode cL_law 99 = .ok (.bipush 24, 2) := by decide +kernel
theorem dL_law_101 : decode cL_law 101 = .ok (.iload 4, 2) := by decide +kernel
theorem dL_law_103 : decode cL_law 103 = .ok (.iadd, 1) := by decide +kernel
theorem dL_law_104 : decode cL_law 104 = .ok (.invokestatic 45, 3) := by decide +kernel
theorem dL_law_107 : decode cL_law 107 = .ok (.iload_n 3, 1) := by decide +kernel
theorem dL_law_108 : decode cL_law 108 = .ok (.invokestatic 10, 3) := by decide +kernel
theorem dL_law_111 : decode cL_law 111 = .ok (.istore 5, 2) := by decide +kernel
theorem dL_law_113 : decode cL_law 113 = .ok (.aload_n 1, 1) := by decide +kernel
theorem dL_law_114 : decode cL_law 114 = .ok (.iload 5, 2) := by decide +kernel
theorem dL_law_116 : decode cL_law 116 = .ok (.invokevirtual 93, 3) := by decide +kernel
theorem dL_law_119 : decode cL_law 119 = .ok (.istore 6, 2) := by decide +kernel
theorem dL_law_121 : decode cL_law 121 = .ok (.aload_n 1, 1) := by decide +kernel
theorem dL_law_122 : decode cL_law 122 = .ok (.iconst 0, 1) := by decide +kernel
theorem dL_law_123 : decode cL_law 123 = .ok (.invokevirtual 96, 3) := by decide +kernel
theorem dL_law_126 : decode cL_law 126 = .ok (.istore 7, 2) := by decide +kernel
theorem dL_law_128 : decode cL_law 128 = .ok (.aload_n 1, 1) := by decide +kernel
theorem dL_law_129 : decode cL_law 129 = .ok (.iconst 1, 1) := by decide +kernel
theorem dL_law_130 : decode cL_law 130 = .ok (.invokevirtual 96, 3) := by decide +kernel
theorem dL_law_133 : decode cL_law 133 = .ok (.istore 8, 2) := by decide +kernel
theorem dL_law_135 : decode cL_law 135 = .ok (.aload_n 1, 1) := by decide +kernel
theorem dL_law_136 : decode cL_law 136 = .ok (.iconst 5, 1) := by decide +kernel
theorem dL_law_137 : decode cL_law 137 = .ok (.invokevirtual 72, 3) := by decide +kernel
theorem dL_law_140 : decode cL_law 140 = .ok (.istore 9, 2) := by decide +kernel
theorem dL_law_142 : decode cL_law 142 = .ok (.aload_n 1, 1) := by decide +kernel
theorem dL_law_143 : decode cL_law 143 = .ok (.iconst 0, 1) := by decide +kernel
theorem dL_law_144 : decode cL_law 144 = .ok (.invokevirtual 99, 3) := by decide +kernel
theorem dL_law_147 : decode cL_law 147 = .ok (.istore 10, 2) := by decide +kernel
theorem dL_law_149 : decode cL_law 149 = .ok (.iload 6, 2) := by decide +kernel
theorem dL_law_151 : decode cL_law 151 = .ok (.bipush (-4), 2) := by decide +kernel
theorem dL_law_153 : decode cL_law 153 = .ok (.if_icmp .ne 7, 3) := by decide +kernel
theorem dL_law_156 : decode cL_law 156 = .ok (.iconst 1, 1) := by decide +kernel
theorem dL_law_157 : decode cL_law 157 = .ok (.goto 4, 3) := by decide +kernel
theorem dL_law_160 : decode cL_law 160 = .ok (.iconst 0, 1) := by decide +kernel
theorem dL_law_161 : decode cL_law 161 = .ok (.aload_n 1, 1) := by decide +kernel
theorem dL_law_162 : decode cL_law 162 = .ok (.iload 5, 2) := by decide +kernel
theorem dL_law_164 : decode cL_law 164 = .ok (.iconst 4, 1) := by decide +kernel
theorem dL_law_165 : decode cL_law 165 = .ok (.invokevirtual 66, 3) := by decide +kernel
theorem dL_law_168 : decode cL_law 168 = .ok (.iconst 1, 1) := by decide +kernel
theorem dL_law_169 : decode cL_law 169 = .ok (.if_icmp .ne 7, 3) := by decide +kernel
theorem dL_law_172 : decode cL_law 172 = .ok (.iconst 1, 1) := by decide +kernel
theorem dL_law_173 : decode cL_law 173 = .ok (.goto 4, 3) := by decide +kernel
theorem dL_law_176 : decode cL_law 176 = .ok (.iconst 0, 1) := by decide +kernel
theorem dL_law_177 : decode cL_law 177 = .ok (.if_icmp .ne 56, 3) := by decide +kernel
theorem dL_law_180 : decode cL_law 180 = .ok (.iload 10, 2) := by decide +kernel
theorem dL_law_182 : decode cL_law 182 = .ok (.bipush (-4), 2) := by decide +kernel
theorem dL_law_184 : decode cL_law 184 = .ok (.if_icmp .ne 7, 3) := by decide +kernel
theorem dL_law_187 : decode cL_law 187 = .ok (.iconst 1, 1) := by decide +kernel
theorem dL_law_188 : decode cL_law 188 = .ok (.goto 4, 3) := by decide +kernel
theorem dL_law_191 : decode cL_law 191 = .ok (.iconst 0, 1) := by decide +kernel
theorem dL_law_192 : decode cL_law 192 = .ok (.aload_n 1, 1) := by decide +kernel
theorem dL_law_193 : decode cL_law 193 = .ok (.iconst 2, 1) := by decide +kernel
theorem dL_law_194 : decode cL_law 194 = .ok (.invokevirtual 72, 3) := by decide +kernel
theorem dL_law_197 : decode cL_law 197 = .ok (.ifCond .ne 7, 3) := by decide +kernel
theorem dL_law_200 : decode cL_law 200 = .ok (.iconst 1, 1) := by decide +kernel
theorem dL_law_201 : decode cL_law 201 = .ok (.goto 4, 3) := by decide +kernel
theorem dL_law_204 : decode cL_law 204 = .ok (.iconst 0, 1) := by decide +kernel
theorem dL_law_205 : decode cL_law 205 = .ok (.if_icmp .ne 28, 3) := by decide +kernel
theorem dL_law_208 : decode cL_law 208 = .ok (.aload_n 1, 1) := by decide +kernel
theorem dL_law_209 : decode cL_law 209 = .ok (.iload 7, 2) := by decide +kernel
theorem dL_law_211 : decode cL_law 211 = .ok (.iload 8, 2) := by decide +kernel
theorem dL_law_213 : decode cL_law 213 = .ok (.invokevirtual 102, 3) := by decide +kernel
theorem dL_law_216 : decode cL_law 216 = .ok (.bipush (-4), 2) := by decide +kernel
theorem dL_law_218 : decode cL_law 218 = .ok (.if_icmp .ne 15, 3) := by decide +kernel
theorem dL_law_221 : decode cL_law 221 = .ok (.aload_n 1, 1) := by decide +kernel
theorem dL_law_222 : decode cL_law 222 = .ok (.iload 7, 2) := by decide +kernel
theorem dL_law_224 : decode cL_law 224 = .ok (.iconst 4, 1) := by decide +kernel
theorem dL_law_225 : decode cL_law 225 = .ok (.invokevirtual 59, 3) := by decide +kernel
theorem dL_law_228 : decode cL_law 228 = .ok (.iload 8, 2) := by decide +kernel
theorem dL_law_230 : decode cL_law 230 = .ok (.if_icmp .eq 5, 3) := by decide +kernel
theorem dL_law_233 : decode cL_law 233 = .ok (.iconst 0, 1) := by decide +kernel
theorem dL_law_234 : decode cL_law 234 = .ok (.ireturn, 1) := by decide +kernel
theorem dL_law_235 : decode cL_law 235 = .ok (.aload_n 1, 1) := by decide +kernel
theorem dL_law_236 : decode cL_law 236 = .ok (.iconst 1, 1) := by decide +kernel
theorem dL_law_237 : decode cL_law 237 = .ok (.invokevirtual 105, 3) := by decide +kernel
theorem dL_law_240 : decode cL_law 240 = .ok (.iconst 1, 1) := by decide +kernel
theorem dL_law_241 : decode cL_law 241 = .ok (.if_icmp .ne 65, 3) := by decide +kernel
theorem dL_law_244 : decode cL_law 244 = .ok (.aload_n 1, 1) := by decide +kernel
theorem dL_law_245 : decode cL_law 245 = .ok (.iconst 5, 1) := by decide +kernel
theorem dL_law_246 : decode cL_law 246 = .ok (.invokevirtual 72, 3) := by decide +kernel
theorem dL_law_249 : decode cL_law 249 = .ok (.iload 9, 2) := by decide +kernel
theorem dL_law_251 : decode cL_law 251 = .ok (.iconst 1, 1) := by decide +kernel
theorem dL_law_252 : decode cL_law 252 = .ok (.iadd, 1) := by decide +kernel
theorem dL_law_253 : decode cL_law 253 = .ok (.if_icmp .ne 53, 3) := by decide +kernel
theorem dL_law_256 : decode cL_law 256 = .ok (.aload_n 1, 1) := by decide +kernel
theorem dL_law_257 : decode cL_law 257 = .ok (.iload 7, 2) := by decide +kernel
theorem dL_law_259 : decode cL_law 259 = .ok (.iconst 4, 1) := by decide +kernel
theorem dL_law_260 : decode cL_law 260 = .ok (.invokevirtual 59, 3) := by decide +kernel
theorem dL_law_263 : decode cL_law 263 = .ok (.iload 8, 2) := by decide +kernel
theorem dL_law_265 : decode cL_law 265 = .ok (.iconst 1, 1) := by decide +kernel
theorem dL_law_266 : decode cL_law 266 = .ok (.iadd, 1) := by decide +kernel
theorem dL_law_267 : decode cL_law 267 = .ok (.if_icmp .ne 39, 3) := by decide +kernel
theorem dL_law_270 : decode cL_law 270 = .ok (.aload_n 1, 1) := by decide +kernel
theorem dL_law_271 : decode cL_law 271 = .ok (.iload 7, 2) := by decide +kernel
theorem dL_law_273 : decode cL_law 273 = .ok (.iload 8, 2) := by decide +kernel
theorem dL_law_275 : decode cL_law 275 = .ok (.invokevirtual 102, 3) := by decide +kernel
theorem dL_law_278 : decode cL_law 278 = .ok (.aload_n 0, 1) := by decide +kernel
theorem dL_law_279 : decode cL_law 279 = .ok (.iconst 1, 1) := by decide +kernel
theorem dL_law_280 : decode cL_law 280 = .ok (.iconst 2, 1) := by decide +kernel
theorem dL_law_281 : decode cL_law 281 = .ok (.iload 7, 2) := by decide +kernel
theorem dL_law_283 : decode cL_law 283 = .ok (.imul, 1) := by decide +kernel
theorem dL_law_284 : decode cL_law 284 = .ok (.iadd, 1) := by decide +kernel
theorem dL_law_285 : decode cL_law 285 = .ok (.invokestatic 45, 3) := by decide +kernel
theorem dL_law_288 : decode cL_law 288 = .ok (.aload_n 0, 1) := by decide +kernel
theorem dL_law_289 : decode cL_law 289 = .ok (.iconst 2, 1) := by decide +kernel
theorem dL_law_290 : decode cL_law 290 = .ok (.iconst 2, 1) := by decide +kernel
theorem dL_law_291 : decode cL_law 291 = .ok (.iload 7, 2) := by decide +kernel
theorem dL_law_293 : decode cL_law 293 = .ok (.imul, 1) := by decide +kernel
theorem dL_law_294 : decode cL_law 294 = .ok (.iadd, 1) := by decide +kernel
theorem dL_law_295 : decode cL_law 295 = .ok (.invokestatic 45, 3) := by decide +kernel
theorem dL_law_298 : decode cL_law 298 = .ok (.iload 8, 2) := by decide +kernel
theorem dL_law_300 : decode cL_law 300 = .ok (.invokestatic 41, 3) := by decide +kernel
theorem dL_law_303 : decode cL_law 303 = .ok (.if_icmp .eq 5, 3) := by decide +kernel
theorem dL_law_306 : decode cL_law 306 = .ok (.iconst 0, 1) := by decide +kernel
theorem dL_law_307 : decode cL_law 307 = .ok (.ireturn, 1) := by decide +kernel
theorem dL_law_308 : decode cL_law 308 = .ok (.aload_n 1, 1) := by decide +kernel
theorem dL_law_309 : decode cL_law 309 = .ok (.iload 5, 2) := by decide +kernel
theorem dL_law_311 : decode cL_law 311 = .ok (.iconst 4, 1) := by decide +kernel
theorem dL_law_312 : decode cL_law 312 = .ok (.invokevirtual 66, 3) := by decide +kernel
theorem dL_law_315 : decode cL_law 315 = .ok (.iconst 1, 1) := by decide +kernel
theorem dL_law_316 : decode cL_law 316 = .ok (.if_icmp .ne 7, 3) := by decide +kernel
theorem dL_law_319 : decode cL_law 319 = .ok (.iconst 1, 1) := by decide +kernel
theorem dL_law_320 : decode cL_law 320 = .ok (.goto 4, 3) := by decide +kernel
theorem dL_law_323 : decode cL_law 323 = .ok (.iconst 0, 1) := by decide +kernel
theorem dL_law_324 : decode cL_law 324 = .ok (.istore 11, 2) := by decide +kernel
theorem dL_law_326 : decode cL_law 326 = .ok (.iload 6, 2) := by decide +kernel
theorem dL_law_328 : decode cL_law 328 = .ok (.bipush (-4), 2) := by decide +kernel
theorem dL_law_330 : decode cL_law 330 = .ok (.if_icmp .eq 44, 3) := by decide +kernel
theorem dL_law_333 : decode cL_law 333 = .ok (.iload 6, 2) := by decide +kernel
theorem dL_law_335 : decode cL_law 335 = .ok (.iconst 1, 1) := by decide +kernel
theorem dL_law_336 : decode cL_law 336 = .ok (.if_icmp .ne 7, 3) := by decide +kernel
theorem dL_law_339 : decode cL_law 339 = .ok (.iconst 1, 1) := by decide +kernel
theorem dL_law_340 : decode cL_law 340 = .ok (.goto 4, 3) := by decide +kernel
theorem dL_law_343 : decode cL_law 343 = .ok (.iconst 0, 1) := by decide +kernel
theorem dL_law_344 : decode cL_law 344 = .ok (.iload 11, 2) := by decide +kernel
theorem dL_law_346 : decode cL_law 346 = .ok (.if_icmp .ne 32, 3) := by decide +kernel
theorem dL_law_349 : decode cL_law 349 = .ok (.iload 6, 2) := by decide +kernel
theorem dL_law_351 : decode cL_law 351 = .ok (.iconst 1, 1) := by decide +kernel
theorem dL_law_352 : decode cL_law 352 = .ok (.if_icmp .lt 22, 3) := by decide +kernel
theorem dL_law_355 : decode cL_law 355 = .ok (.iload 6, 2) := by decide +kernel
theorem dL_law_357 : decode cL_law 357 = .ok (.iconst 1, 1) := by decide +kernel
theorem dL_law_358 : decode cL_law 358 = .ok (.if_icmp .eq 16, 3) := by decide +kernel
theorem dL_law_361 : decode cL_law 361 = .ok (.aload_n 1, 1) := by decide +kernel
theorem dL_law_362 : decode cL_law 362 = .ok (.iload 5, 2) := by decide +kernel
theorem dL_law_364 : decode cL_law 364 = .ok (.invokevirtual 93, 3) := by decide +kernel
theorem dL_law_367 : decode cL_law 367 = .ok (.iload 6, 2) := by decide +kernel
theorem dL_law_369 : decode cL_law 369 = .ok (.iconst 1, 1) := by decide +kernel
theorem dL_law_370 : decode cL_law 370 = .ok (.isub, 1) := by decide +kernel
theorem dL_law_371 : decode cL_law 371 = .ok (.if_icmp .ne 7, 3) := by decide +kernel
theorem dL_law_374 : decode cL_law 374 = .ok (.iconst 1, 1) := by decide +kernel
theorem dL_law_375 : decode cL_law 375 = .ok (.goto 4, 3) := by decide +kernel
theorem dL_law_378 : decode cL_law 378 = .ok (.iconst 0, 1) := by decide +kernel
theorem dL_law_379 : decode cL_law 379 = .ok (.istore 12, 2) := by decide +kernel
theorem dL_law_381 : decode cL_law 381 = .ok (.iload 12, 2) := by decide +kernel
theorem dL_law_383 : decode cL_law 383 = .ok (.ifCond .eq 12, 3) := by decide +kernel
theorem dL_law_386 : decode cL_law 386 = .ok (.aload_n 1, 1) := by decide +kernel
theorem dL_law_387 : decode cL_law 387 = .ok (.aload_n 0, 1) := by decide +kernel
theorem dL_law_388 : decode cL_law 388 = .ok (.aload_n 2, 1) := by decide +kernel
theorem dL_law_389 : decode cL_law 389 = .ok (.invokestatic 89, 3) := by decide +kernel
theorem dL_law_392 : decode cL_law 392 = .ok (.ifCond .ne 5, 3) := by decide +kernel
theorem dL_law_395 : decode cL_law 395 = .ok (.iconst 0, 1) := by decide +kernel
theorem dL_law_396 : decode cL_law 396 = .ok (.ireturn, 1) := by decide +kernel
theorem dL_law_397 : decode cL_law 397 = .ok (.iinc 4 1, 3) := by decide +kernel
theorem dL_law_400 : decode cL_law 400 = .ok (.goto (-322), 3) := by decide +kernel
theorem dL_law_403 : decode cL_law 403 = .ok (.aload_n 1, 1) := by decide +kernel
theorem dL_law_404 : decode cL_law 404 = .ok (.iconst 2, 1) := by decide +kernel
theorem dL_law_405 : decode cL_law 405 = .ok (.invokevirtual 72, 3) := by decide +kernel
theorem dL_law_408 : decode cL_law 408 = .ok (.ifCond .ne 28, 3) := by decide +kernel
theorem dL_law_411 : decode cL_law 411 = .ok (.aload_n 1, 1) := by decide +kernel
theorem dL_law_412 : decode cL_law 412 = .ok (.invokevirtual 108, 3) := by decide +kernel
theorem dL_law_415 : decode cL_law 415 = .ok (.bipush (-4), 2) := by decide +kernel
theorem dL_law_417 : decode cL_law 417 = .ok (.if_icmp .ne 17, 3) := by decide +kernel
theorem dL_law_420 : decode cL_law 420 = .ok (.aload_n 1, 1) := by decide +kernel
theorem dL_law_421 : decode cL_law 421 = .ok (.iconst 1, 1) := by decide +kernel
theorem dL_law_422 : decode cL_law 422 = .ok (.invokevirtual 99, 3) := by decide +kernel
theorem dL_law_425 : decode cL_law 425 = .ok (.bipush (-4), 2) := by decide +kernel
theorem dL_law_427 : decode cL_law 427 = .ok (.if_icmp .ne 7, 3) := by decide +kernel
theorem dL_law_430 : decode cL_law 430 = .ok (.iconst 1, 1) := by decide +kernel
theorem dL_law_431 : decode cL_law 431 = .ok (.goto 4, 3) := by decide +kernel
theorem dL_law_434 : decode cL_law 434 = .ok (.iconst 0, 1) := by decide +kernel
theorem dL_law_435 : decode cL_law 435 = .ok (.ireturn, 1) := by decide +kernel
theorem dL_law_436 : decode cL_law 436 = .ok (.aload_n 1, 1) := by decide +kernel
theorem dL_law_437 : decode cL_law 437 = .ok (.iconst 0, 1) := by decide +kernel
theorem dL_law_438 : decode cL_law 438 = .ok (.invokevirtual 99, 3) := by decide +kernel
theorem dL_law_441 : decode cL_law 441 = .ok (.istore 5, 2) := by decide +kernel
theorem dL_law_443 : decode cL_law 443 = .ok (.aload_n 1, 1) := by decide +kernel
theorem dL_law_444 : decode cL_law 444 = .ok (.iconst 1, 1) := by decide +kernel
theorem dL_law_445 : decode cL_law 445 = .ok (.invokevirtual 99, 3) := by decide +kernel
theorem dL_law_448 : decode cL_law 448 = .ok (.istore 6, 2) := by decide +kernel
theorem dL_law_450 : decode cL_law 450 = .ok (.aload_n 1, 1) := by decide +kernel
theorem dL_law_451 : decode cL_law 451 = .ok (.iconst 4, 1) := by decide +kernel
theorem dL_law_452 : decode cL_law 452 = .ok (.invokevirtual 72, 3) := by decide +kernel
theorem dL_law_455 : decode cL_law 455 = .ok (.aload_n 1, 1) := by decide +kernel
theorem dL_law_456 : decode cL_law 456 = .ok (.iconst 5, 1) := by decide +kernel
theorem dL_law_457 : decode cL_law 457 = .ok (.invokevirtual 72, 3) := by decide +kernel
theorem dL_law_460 : decode cL_law 460 = .ok (.isub, 1) := by decide +kernel
theorem dL_law_461 : decode cL_law 461 = .ok (.istore 7, 2) := by decide +kernel
theorem dL_law_463 : decode cL_law 463 = .ok (.iload 5, 2) := by decide +kernel
theorem dL_law_465 : decode cL_law 465 = .ok (.bipush (-5), 2) := by decide +kernel
theorem dL_law_467 : decode cL_law 467 = .ok (.if_icmp .eq 24, 3) := by decide +kernel
theorem dL_law_470 : decode cL_law 470 = .ok (.iload 5, 2) := by decide +kernel
theorem dL_law_472 : decode cL_law 472 = .ok (.aload_n 1, 1) := by decide +kernel
theorem dL_law_473 : decode cL_law 473 = .ok (.iconst 3, 1) := by decide +kernel
theorem dL_law_474 : decode cL_law 474 = .ok (.invokevirtual 72, 3) := by decide +kernel
theorem dL_law_477 : decode cL_law 477 = .ok (.if_icmp .eq 14, 3) := by decide +kernel
theorem dL_law_480 : decode cL_law 480 = .ok (.aload_n 1, 1) := by decide +kernel
theorem dL_law_481 : decode cL_law 481 = .ok (.iload 5, 2) := by decide +kernel
theorem dL_law_483 : decode cL_law 483 = .ok (.invokevirtual 69, 3) := by decide +kernel
theorem dL_law_486 : decode cL_law 486 = .ok (.ifCond .ge 5, 3) := by decide +kernel
theorem dL_law_489 : decode cL_law 489 = .ok (.iconst 0, 1) := by decide +kernel
theorem dL_law_490 : decode cL_law 490 = .ok (.ireturn, 1) := by decide +kernel
theorem dL_law_491 : decode cL_law 491 = .ok (.aload_n 1, 1) := by decide +kernel
theorem dL_law_492 : decode cL_law 492 = .ok (.invokevirtual 108, 3) := by decide +kernel
theorem dL_law_495 : decode cL_law 495 = .ok (.istore 8, 2) := by decide +kernel
theorem dL_law_497 : decode cL_law 497 = .ok (.iload 7, 2) := by decide +kernel
theorem dL_law_499 : decode cL_law 499 = .ok (.ifCond .ne 18, 3) := by decide +kernel
theorem dL_law_502 : decode cL_law 502 = .ok (.iload 8, 2) := by decide +kernel
theorem dL_law_504 : decode cL_law 504 = .ok (.bipush (-5), 2) := by decide +kernel
theorem dL_law_506 : decode cL_law 506 = .ok (.if_icmp .ne 7, 3) := by decide +kernel
theorem dL_law_509 : decode cL_law 509 = .ok (.iconst 1, 1) := by decide +kernel
theorem dL_law_510 : decode cL_law 510 = .ok (.goto 49, 3) := by decide +kernel
theorem dL_law_513 : decode cL_law 513 = .ok (.iconst 0, 1) := by decide +kernel
theorem dL_law_514 : decode cL_law 514 = .ok (.goto 45, 3) := by decide +kernel
theorem dL_law_517 : decode cL_law 517 = .ok (.iload 5, 2) := by decide +kernel
theorem dL_law_519 : decode cL_law 519 = .ok (.bipush (-5), 2) := by decide +kernel
theorem dL_law_521 : decode cL_law 521 = .ok (.if_icmp .ne 18, 3) := by decide +kernel
theorem dL_law_524 : decode cL_law 524 = .ok (.iload 8, 2) := by decide +kernel
theorem dL_law_526 : decode cL_law 526 = .ok (.iload 7, 2) := by decide +kernel
theorem dL_law_528 : decode cL_law 528 = .ok (.if_icmp .ne 7, 3) := by decide +kernel
theorem dL_law_531 : decode cL_law 531 = .ok (.iconst 1, 1) := by decide +kernel
theorem dL_law_532 : decode cL_law 532 = .ok (.goto 27, 3) := by decide +kernel
theorem dL_law_535 : decode cL_law 535 = .ok (.iconst 0, 1) := by decide +kernel
theorem dL_law_536 : decode cL_law 536 = .ok (.goto 23, 3) := by decide +kernel
theorem dL_law_539 : decode cL_law 539 = .ok (.iload 8, 2) := by decide +kernel
theorem dL_law_541 : decode cL_law 541 = .ok (.iload 6, 2) := by decide +kernel
theorem dL_law_543 : decode cL_law 543 = .ok (.if_icmp .ne 15, 3) := by decide +kernel
theorem dL_law_546 : decode cL_law 546 = .ok (.aload_n 1, 1) := by decide +kernel
theorem dL_law_547 : decode cL_law 547 = .ok (.iconst 2, 1) := by decide +kernel
theorem dL_law_548 : decode cL_law 548 = .ok (.invokevirtual 72, 3) := by decide +kernel
theorem dL_law_551 : decode cL_law 551 = .ok (.ifCond .ne 7, 3) := by decide +kernel
theorem dL_law_554 : decode cL_law 554 = .ok (.iconst 1, 1) := by decide +kernel
theorem dL_law_555 : decode cL_law 555 = .ok (.goto 4, 3) := by decide +kernel
theorem dL_law_558 : decode cL_law 558 = .ok (.iconst 0, 1) := by decide +kernel
theorem dL_law_559 : decode cL_law 559 = .ok (.istore 9, 2) := by decide +kernel
theorem dL_law_561 : decode cL_law 561 = .ok (.iload 9, 2) := by decide +kernel
theorem dL_law_563 : decode cL_law 563 = .ok (.ifCond .eq 16, 3) := by decide +kernel
theorem dL_law_566 : decode cL_law 566 = .ok (.aload_n 1, 1) := by decide +kernel
theorem dL_law_567 : decode cL_law 567 = .ok (.aload_n 0, 1) := by decide +kernel
theorem dL_law_568 : decode cL_law 568 = .ok (.aload_n 2, 1) := by decide +kernel
theorem dL_law_569 : decode cL_law 569 = .ok (.invokestatic 89, 3) := by decide +kernel
theorem dL_law_572 : decode cL_law 572 = .ok (.ifCond .eq 7, 3) := by decide +kernel
theorem dL_law_575 : decode cL_law 575 = .ok (.iconst 1, 1) := by decide +kernel
theorem dL_law_576 : decode cL_law 576 = .ok (.goto 4, 3) := by decide +kernel
theorem dL_law_579 : decode cL_law 579 = .ok (.iconst 0, 1) := by decide +kernel
theorem dL_law_580 : decode cL_law 580 = .ok (.ireturn, 1) := by decide +kernel
