theorem dL_cell_0 : decode cL_cell 0 = .ok (.iload_n 1, 1) := by decide +kernel
theorem dL_cell_1 : decode cL_cell 1 = .ok (.aload_n 0, 1) := by decide +kernel
theorem dL_cell_2 : decode cL_cell 2 = .ok (.arraylength, 1) := by decide +kernel
theorem dL_cell_3 : decode cL_cell 3 = .ok (.if_icmp .ge 9, 3) := by decide +kernel
theorem dL_cell_6 : decode cL_cell 6 = .ok (.aload_n 0, 1) := by decide +kernel
theorem dL_cell_7 : decode cL_cell 7 = .ok (.iload_n 1, 1) := by decide +kernel
theorem dL_cell_8 : decode cL_cell 8 = .ok (.iaload, 1) := by decide +kernel
theorem dL_cell_9 : decode cL_cell 9 = .ok (.goto 4, 3) := by decide +kernel
theorem dL_cell_12 : decode cL_cell 12 = .ok (.iconst 0, 1) := by decide +kernel
theorem dL_cell_13 : decode cL_cell 13 = .ok (.ireturn, 1) := by decide +kernel
theorem dL_part_0 : decode cL_part 0 = .ok (.iload_n 0, 1) := by decide +kernel
theorem dL_part_1 : decode cL_part 1 = .ok (.ldc 7, 2) := by decide +kernel
theorem dL_part_3 : decode cL_part 3 = .ok (.iand, 1) := by decide +kernel
theorem dL_part_4 : decode cL_part 4 = .ok (.iload_n 1, 1) := by decide +kernel
theorem dL_part_5 : decode cL_part 5 = .ok (.irem, 1) := by decide +kernel
theorem dL_part_6 : decode cL_part 6 = .ok (.ireturn, 1) := by decide +kernel
theorem dL_append_0 : decode cL_append 0 = .ok (.iconst 0, 1) := by decide +kernel
theorem dL_append_1 : decode cL_append 1 = .ok (.istore_n 2, 1) := by decide +kernel
theorem dL_append_2 : decode cL_append 2 = .ok (.iconst 0, 1) := by decide +kernel
theorem dL_append_3 : decode cL_append 3 = .ok (.istore_n 3, 1) := by decide +kernel
theorem dL_append_4 : decode cL_append 4 = .ok (.iload_n 3, 1) := by decide +kernel
theorem dL_append_5 : decode cL_append 5 = .ok (.aload_n 1, 1) := by decide +kernel
theorem dL_append_6 : decode cL_append 6 = .ok (.invokevirtual 8, 3) := by decide +kernel
theorem dL_append_9 : decode cL_append 9 = .ok (.if_icmp .ge 101, 3) := by decide +kernel
theorem dL_append_12 : decode cL_append 12 = .ok (.iconst 5, 1) := by decide +kernel
theorem dL_append_13 : decode cL_append 13 = .ok (.newarray .int, 2) := by decide +kernel
theorem dL_append_15 : decode cL_append 15 = .ok (.astore 4, 2) := by decide +kernel
theorem dL_append_17 : decode cL_append 17 = .ok (.iconst 0, 1) := by decide +kernel
theorem dL_append_18 : decode cL_append 18 = .ok (.istore 5, 2) := by decide +kernel
theorem dL_append_20 : decode cL_append 20 = .ok (.iload 5, 2) := by decide +kernel
theorem dL_append_22 : decode cL_append 22 = .ok (.bipush 20, 2) := by decide +kernel
theorem dL_append_24 : decode cL_append 24 = .ok (.if_icmp .ge 55, 3) := by decide +kernel
theorem dL_append_27 : decode cL_append 27 = .ok (.aload 4, 2) := by decide +kernel
theorem dL_append_29 : decode cL_append 29 = .ok (.iload 5, 2) := by decide +kernel
theorem dL_append_31 : decode cL_append 31 = .ok (.iconst 4, 1) := by decide +kernel
theorem dL_append_32 : decode cL_append 32 = .ok (.idiv, 1) := by decide +kernel
theorem dL_append_33 : decode cL_append 33 = .ok (.aload 4, 2) := by decide +kernel
theorem dL_append_35 : decode cL_append 35 = .ok (.iload 5, 2) := by decide +kernel
theorem dL_append_37 : decode cL_append 37 = .ok (.iconst 4, 1) := by decide +kernel
theorem dL_append_38 : decode cL_append 38 = .ok (.idiv, 1) := by decide +kernel
theorem dL_append_39 : decode cL_append 39 = .ok (.iaload, 1) := by decide +kernel
theorem dL_append_40 : decode cL_append 40 = .ok (.bipush 8, 2) := by decide +kernel
theorem dL_append_42 : decode cL_append 42 = .ok (.ishl, 1) := by decide +kernel
theorem dL_append_43 : decode cL_append 43 = .ok (.iload_n 3, 1) := by decide +kernel
theorem dL_append_44 : decode cL_append 44 = .ok (.iload 5, 2) := by decide +kernel
theorem dL_append_46 : decode cL_append 46 = .ok (.iadd, 1) := by decide +kernel
theorem dL_append_47 : decode cL_append 47 = .ok (.aload_n 1, 1) := by decide +kernel
theorem dL_append_48 : decode cL_append 48 = .ok (.invokevirtual 8, 3) := by decide +kernel
theorem dL_append_51 : decode cL_append 51 = .ok (.if_icmp .ge 18, 3) := by decide +kernel
theorem dL_append_54 : decode cL_append 54 = .ok (.aload_n 1, 1) := by decide +kernel
theorem dL_append_55 : decode cL_append 55 = .ok (.iload_n 3, 1) := by decide +kernel
theorem dL_append_56 : decode cL_append 56 = .ok (.iload 5, 2) := by decide +kernel
theorem dL_append_58 : decode cL_append 58 = .ok (.iadd, 1) := by decide +kernel
theorem dL_append_59 : decode cL_append 59 = .ok (.invokevirtual 14, 3) := by decide +kernel
theorem dL_append_62 : decode cL_append 62 = .ok (.sipush 255, 3) := by decide +kernel
theorem dL_append_65 : decode cL_append 65 = .ok (.iand, 1) := by decide +kernel
theorem dL_append_66 : decode cL_append 66 = .ok (.goto 5, 3) := by decide +kernel
theorem dL_append_69 : decode cL_append 69 = .ok (.bipush 32, 2) := by decide +kernel
theorem dL_append_71 : decode cL_append 71 = .ok (.ior, 1) := by decide +kernel
theorem dL_append_72 : decode cL_append 72 = .ok (.iastore, 1) := by decide +kernel
theorem dL_append_73 : decode cL_append 73 = .ok (.iinc 5 1, 3) := by decide +kernel
theorem dL_append_76 : decode cL_append 76 = .ok (.goto (-56), 3) := by decide +kernel
theorem dL_append_79 : decode cL_append 79 = .ok (.aload_n 0, 1) := by decide +kernel
theorem dL_append_80 : decode cL_append 80 = .ok (.aload 4, 2) := by decide +kernel
theorem dL_append_82 : decode cL_append 82 = .ok (.iconst 0, 1) := by decide +kernel
theorem dL_append_83 : decode cL_append 83 = .ok (.iaload, 1) := by decide +kernel
theorem dL_append_84 : decode cL_append 84 = .ok (.aload 4, 2) := by decide +kernel
theorem dL_append_86 : decode cL_append 86 = .ok (.iconst 1, 1) := by decide +kernel
theorem dL_append_87 : decode cL_append 87 = .ok (.iaload, 1) := by decide +kernel
theorem dL_append_88 : decode cL_append 88 = .ok (.aload 4, 2) := by decide +kernel
theorem dL_append_90 : decode cL_append 90 = .ok (.iconst 2, 1) := by decide +kernel
theorem dL_append_91 : decode cL_append 91 = .ok (.iaload, 1) := by decide +kernel
theorem dL_append_92 : decode cL_append 92 = .ok (.aload 4, 2) := by decide +kernel
theorem dL_append_94 : decode cL_append 94 = .ok (.iconst 3, 1) := by decide +kernel
theorem dL_append_95 : decode cL_append 95 = .ok (.iaload, 1) := by decide +kernel
theorem dL_append_96 : decode cL_append 96 = .ok (.aload 4, 2) := by decide +kernel
theorem dL_append_98 : decode cL_append 98 = .ok (.iconst 4, 1) := by decide +kernel
theorem dL_append_99 : decode cL_append 99 = .ok (.iaload, 1) := by decide +kernel
theorem dL_append_100 : decode cL_append 100 = .ok (.invokevirtual 18, 3) := by decide +kernel
theorem dL_append_103 : decode cL_append 103 = .ok (.istore_n 2, 1) := by decide +kernel
theorem dL_append_104 : decode cL_append 104 = .ok (.iinc 3 20, 3) := by decide +kernel
theorem dL_append_107 : decode cL_append 107 = .ok (.goto (-103), 3) := by decide +kernel
theorem dL_append_110 : decode cL_append 110 = .ok (.iload_n 2, 1) := by decide +kernel
theorem dL_append_111 : decode cL_append 111 = .ok (.ireturn, 1) := by decide +kernel
theorem dL_load_0 : decode cL_load 0 = .ok (.aload_n 0, 1) := by decide +kernel
theorem dL_load_1 : decode cL_load 1 = .ok (.aload_n 1, 1) := by decide +kernel
theorem dL_load_2 : decode cL_load 2 = .ok (.invokestatic 24, 3) := by decide +kernel
theorem dL_load_5 : decode cL_load 5 = .ok (.pop, 1) := by decide +kernel
theorem dL_load_6 : decode cL_load 6 = .ok (.aload_n 0, 1) := by decide +kernel
theorem dL_load_7 : decode cL_load 7 = .ok (.aload_n 1, 1) := by decide +kernel
theorem dL_load_8 : decode cL_load 8 = .ok (.invokevirtual 8, 3) := by decide +kernel
theorem dL_load_11 : decode cL_load 11 = .ok (.invokevirtual 29, 3) := by decide +kernel
theorem dL_load_14 : decode cL_load 14 = .ok (.aload_n 0, 1) := by decide +kernel
theorem dL_load_15 : decode cL_load 15 = .ok (.invokevirtual 33, 3) := by decide +kernel
theorem dL_load_18 : decode cL_load 18 = .ok (.ireturn, 1) := by decide +kernel
theorem dL_load_19 : decode cL_load 19 = .ok (.astore_n 2, 1) := by decide +kernel
theorem dL_load_20 : decode cL_load 20 = .ok (.iconst (-1), 1) := by decide +kernel
theorem dL_load_21 : decode cL_load 21 = .ok (.ireturn, 1) := by decide +kernel
theorem dL_positions_0 : decode cL_positions 0 = .ok (.bipush 6, 2) := by decide +kernel
theorem dL_positions_2 : decode cL_positions 2 = .ok (.aload_n 0, 1) := by decide +kernel
theorem dL_positions_3 : decode cL_positions 3 = .ok (.iconst 0, 1) := by decide +kernel
theorem dL_positions_4 : decode cL_positions 4 = .ok (.invokestatic 38, 3) := by decide +kernel
theorem dL_positions_7 : decode cL_positions 7 = .ok (.bipush 23, 2) := by decide +kernel
theorem dL_positions_9 : decode cL_positions 9 = .ok (.invokestatic 42, 3) := by decide +kernel
theorem dL_positions_12 : decode cL_positions 12 = .ok (.iadd, 1) := by decide +kernel
theorem dL_positions_13 : decode cL_positions 13 = .ok (.ireturn, 1) := by decide +kernel
theorem dL_rate_0 : decode cL_rate 0 = .ok (.bipush 60, 2) := by decide +kernel
theorem dL_rate_2 : decode cL_rate 2 = .ok (.aload_n 0, 1) := by decide +kernel
theorem dL_rate_3 : decode cL_rate 3 = .ok (.iconst 1, 1) := by decide +kernel
theorem dL_rate_4 : decode cL_rate 4 = .ok (.invokestatic 38, 3) := by decide +kernel
theorem dL_rate_7 : decode cL_rate 7 = .ok (.sipush 341, 3) := by decide +kernel
theorem dL_rate_10 : decode cL_rate 10 = .ok (.invokestatic 42, 3) := by decide +kernel
theorem dL_rate_13 : decode cL_rate 13 = .ok (.iadd, 1) := by decide +kernel
theorem dL_rate_14 : decode cL_rate 14 = .ok (.ireturn, 1) := by decide +kernel
theorem dL_phase_0 : decode cL_phase 0 = .ok (.aload_n 0, 1) := by decide +kernel
theorem dL_phase_1 : decode cL_phase 1 = .ok (.iconst 2, 1) := by decide +kernel
theorem dL_phase_2 : decode cL_phase 2 = .ok (.invokestatic 38, 3) := by decide +kernel
theorem dL_phase_5 : decode cL_phase 5 = .ok (.sipush 1000, 3) := by decide +kernel
theorem dL_phase_8 : decode cL_phase 8 = .ok (.aload_n 0, 1) := by decide +kernel
theorem dL_phase_9 : decode cL_phase 9 = .ok (.invokestatic 46, 3) := by decide +kernel
theorem dL_phase_12 : decode cL_phase 12 = .ok (.imul, 1) := by decide +kernel
theorem dL_phase_13 : decode cL_phase 13 = .ok (.invokestatic 42, 3) := by decide +kernel
theorem dL_phase_16 : decode cL_phase 16 = .ok (.ireturn, 1) := by decide +kernel
theorem dL_delay_0 : decode cL_delay 0 = .ok (.iconst 1, 1) := by decide +kernel
theorem dL_delay_1 : decode cL_delay 1 = .ok (.aload_n 0, 1) := by decide +kernel
theorem dL_delay_2 : decode cL_delay 2 = .ok (.iconst 3, 1) := by decide +kernel
theorem dL_delay_3 : decode cL_delay 3 = .ok (.invokestatic 38, 3) := by decide +kernel
theorem dL_delay_6 : decode cL_delay 6 = .ok (.bipush 20, 2) := by decide +kernel
theorem dL_delay_8 : decode cL_delay 8 = .ok (.invokestatic 42, 3) := by decide +kernel
theorem dL_delay_11 : decode cL_delay 11 = .ok (.iadd, 1) := by decide +kernel
theorem dL_delay_12 : decode cL_delay 12 = .ok (.ireturn, 1) := by decide +kernel
theorem dL_correct_0 : decode cL_correct 0 = .ok (.aload_n 0, 1) := by decide +kernel
theorem dL_correct_1 : decode cL_correct 1 = .ok (.iconst 3, 1) := by decide +kernel
theorem dL_correct_2 : decode cL_correct 2 = .ok (.invokestatic 38, 3) := by decide +kernel
theorem dL_correct_5 : decode cL_correct 5 = .ok (.iconst 5, 1) := by decide +kernel
theorem dL_correct_6 : decode cL_correct 6 = .ok (.ishr, 1) := by decide +kernel
theorem dL_correct_7 : decode cL_correct 7 = .ok (.sipush 501, 3) := by decide +kernel
theorem dL_correct_10 : decode cL_correct 10 = .ok (.invokestatic 42, 3) := by decide +kernel
theorem dL_correct_13 : decode cL_correct 13 = .ok (.ireturn, 1) := by decide +kernel
theorem dL_lines_0 : decode cL_lines 0 = .ok (.iconst 1, 1) := by decide +kernel
theorem dL_lines_1 : decode cL_lines 1 = .ok (.aload_n 0, 1) := by decide +kernel
theorem dL_lines_2 : decode cL_lines 2 = .ok (.iconst 4, 1) := by decide +kernel
theorem dL_lines_3 : decode cL_lines 3 = .ok (.invokestatic 38, 3) := by decide +kernel
theorem dL_lines_6 : decode cL_lines 6 = .ok (.iconst 3, 1) := by decide +kernel
theorem dL_lines_7 : decode cL_lines 7 = .ok (.invokestatic 42, 3) := by decide +kernel
theorem dL_lines_10 : decode cL_lines 10 = .ok (.iadd, 1) := by decide +kernel
theorem dL_lines_11 : decode cL_lines 11 = .ok (.ireturn, 1) := by decide +kernel
theorem dL_line_0 : decode cL_line 0 = .ok (.new 50, 3) := by decide +kernel
theorem dL_line_3 : decode cL_line 3 = .ok (.dup, 1) := by decide +kernel
theorem dL_line_4 : decode cL_line 4 = .ok (.invokespecial 52, 3) := by decide +kernel
theorem dL_line_7 : decode cL_line 7 = .ok (.astore_n 2, 1) := by decide +kernel
theorem dL_line_8 : decode cL_line 8 = .ok (.aload_n 0, 1) := by decide +kernel
theorem dL_line_9 : decode cL_line 9 = .ok (.iconst 5, 1) := by decide +kernel
theorem dL_line_10 : decode cL_line 10 = .ok (.iload_n 1, 1) := by decide +kernel
theorem dL_line_11 : decode cL_line 11 = .ok (.iadd, 1) := by decide +kernel
theorem dL_line_12 : decode cL_line 12 = .ok (.invokestatic 38, 3) := by decide +kernel
theorem dL_line_15 : decode cL_line 15 = .ok (.ldc 7, 2) := by decide +kernel
theorem dL_line_17 : decode cL_line 17 = .ok (.iand, 1) := by decide +kernel
theorem dL_line_18 : decode cL_line 18 = .ok (.istore_n 3, 1) := by decide +kernel
theorem dL_line_19 : decode cL_line 19 = .ok (.iload_n 3, 1) := by decide +kernel
theorem dL_line_20 : decode cL_line 20 = .ok (.bipush 7, 2) := by decide +kernel
theorem dL_line_22 : decode cL_line 22 = .ok (.irem, 1) := by decide +kernel
theorem dL_line_23 : decode cL_line 23 = .ok (.istore 4, 2) := by decide +kernel
theorem dL_line_25 : decode cL_line 25 = .ok (.iconst 0, 1) := by decide +kernel
theorem dL_line_26 : decode cL_line 26 = .ok (.istore 5, 2) := by decide +kernel
theorem dL_line_28 : decode cL_line 28 = .ok (.iload 5, 2) := by decide +kernel
theorem dL_line_30 : decode cL_line 30 = .ok (.iload 4, 2) := by decide +kernel
theorem dL_line_32 : decode cL_line 32 = .ok (.if_icmp .ge 78, 3) := by decide +kernel
theorem dL_line_35 : decode cL_line 35 = .ok (.iload_n 3, 1) := by decide +kernel
theorem dL_line_36 : decode cL_line 36 = .ok (.iconst 3, 1) := by decide +kernel
theorem dL_line_37 : decode cL_line 37 = .ok (.idiv, 1) := by decide +kernel
theorem dL_line_38 : decode cL_line 38 = .ok (.bipush 7, 2) := by decide +kernel
theorem dL_line_40 : decode cL_line 40 = .ok (.iload 5, 2) := by decide +kernel
theorem dL_line_42 : decode cL_line 42 = .ok (.imul, 1) := by decide +kernel
theorem dL_line_43 : decode cL_line 43 = .ok (.iadd, 1) := by decide +kernel
theorem dL_line_44 : decode cL_line 44 = .ok (.istore_n 3, 1) := by decide +kernel
theorem dL_line_45 : decode cL_line 45 = .ok (.iload_n 3, 1) := by decide +kernel
theorem dL_line_46 : decode cL_line 46 = .ok (.iconst 3, 1) := by decide +kernel
theorem dL_line_47 : decode cL_line 47 = .ok (.irem, 1) := by decide +kernel
theorem dL_line_48 : decode cL_line 48 = .ok (.ifCond .ne 7, 3) := by decide +kernel
theorem dL_line_51 : decode cL_line 51 = .ok (.iconst 1, 1) := by decide +kernel
theorem dL_line_52 : decode cL_line 52 = .ok (.goto 4, 3) := by decide +kernel
theorem dL_line_55 : decode cL_line 55 = .ok (.iconst 0, 1) := by decide +kernel
theorem dL_line_56 : decode cL_line 56 = .ok (.istore 6, 2) := by decide +kernel
theorem dL_line_58 : decode cL_line 58 = .ok (.iload 6, 2) := by decide +kernel
theorem dL_line_60 : decode cL_line 60 = .ok (.ifCond .eq 8, 3) := by decide +kernel
theorem dL_line_63 : decode cL_line 63 = .ok (.bipush 10, 2) := by decide +kernel
theorem dL_line_65 : decode cL_line 65 = .ok (.goto 5, 3) := by decide +kernel
theorem dL_line_68 : decode cL_line 68 = .ok (.bipush 26, 2) := by decide +kernel
theorem dL_line_70 : decode cL_line 70 = .ok (.aload_n 0, 1) := by decide +kernel
theorem dL_line_71 : decode cL_line 71 = .ok (.invokestatic 46, 3) := by decide +kernel
theorem dL_line_74 : decode cL_line 74 = .ok (.iconst 2, 1) := by decide +kernel
theorem dL_line_75 : decode cL_line 75 = .ok (.isub, 1) := by decide +kernel
theorem dL_line_76 : decode cL_line 76 = .ok (.invokestatic 53, 3) := by decide +kernel
theorem dL_line_79 : decode cL_line 79 = .ok (.istore 7, 2) := by decide +kernel
theorem dL_line_81 : decode cL_line 81 = .ok (.aload_n 2, 1) := by decide +kernel
theorem dL_line_82 : decode cL_line 82 = .ok (.iload 6, 2) := by decide +kernel
theorem dL_line_84 : decode cL_line 84 = .ok (.ifCond .eq 8, 3) := by decide +kernel
theorem dL_line_87 : decode cL_line 87 = .ok (.bipush 48, 2) := by decide +kernel
theorem dL_line_89 : decode cL_line 89 = .ok (.goto 5, 3) := by decide +kernel
theorem dL_line_92 : decode cL_line 92 = .ok (.bipush 97, 2) := by decide +kernel
theorem dL_line_94 : decode cL_line 94 = .ok (.iload_n 3, 1) := by decide +kernel
theorem dL_line_95 : decode cL_line 95 = .ok (.iload 7, 2) := by decide +kernel
theorem dL_line_97 : decode cL_line 97 = .ok (.irem, 1) := by decide +kernel
theorem dL_line_98 : decode cL_line 98 = .ok (.iadd, 1) := by decide +kernel
theorem dL_line_99 : decode cL_line 99 = .ok (.i2c, 1) := by decide +kernel
theorem dL_line_100 : decode cL_line 100 = .ok (.invokevirtual 58, 3) := by decide +kernel
theorem dL_line_103 : decode cL_line 103 = .ok (.pop, 1) := by decide +kernel
theorem dL_line_104 : decode cL_line 104 = .ok (.iinc 5 1, 3) := by decide +kernel
theorem dL_line_107 : decode cL_line 107 = .ok (.goto (-79), 3) := by decide +kernel
theorem dL_line_110 : decode cL_line 110 = .ok (.aload_n 2, 1) := by decide +kernel
theorem dL_line_111 : decode cL_line 111 = .ok (.invokevirtual 61, 3) := by decide +kernel
theorem dL_line_114 : decode cL_line 114 = .ok (.areturn, 1) := by decide +kernel
theorem dL_text_0 : decode cL_text 0 = .ok (.sipush 1000, 3) := by decide +kernel
theorem dL_text_3 : decode cL_text 3 = .ok (.aload_n 0, 1) := by decide +kernel
theorem dL_text_4 : decode cL_text 4 = .ok (.invokestatic 46, 3) := by decide +kernel
theorem dL_text_7 : decode cL_text 7 = .ok (.imul, 1) := by decide +kernel
theorem dL_text_8 : decode cL_text 8 = .ok (.istore_n 2, 1) := by decide +kernel
theorem dL_text_9 : decode cL_text 9 = .ok (.aload_n 0, 1) := by decide +kernel
theorem dL_text_10 : decode cL_text 10 = .ok (.invokestatic 65, 3) := by decide +kernel
theorem dL_text_13 : decode cL_text 13 = .ok (.aload_n 0, 1) := by decide +kernel
theorem dL_text_14 : decode cL_text 14 = .ok (.invokestatic 68, 3) := by decide +kernel
theorem dL_text_17 : decode cL_text 17 = .ok (.aload_n 0, 1) := by decide +kernel
theorem dL_text_18 : decode cL_text 18 = .ok (.invokestatic 71, 3) := by decide +kernel
theorem dL_text_21 : decode cL_text 21 = .ok (.imul, 1) := by decide +kernel
theorem dL_text_22 : decode cL_text 22 = .ok (.isub, 1) := by decide +kernel
theorem dL_text_23 : decode cL_text 23 = .ok (.iload_n 2, 1) := by decide +kernel
theorem dL_text_24 : decode cL_text 24 = .ok (.invokestatic 74, 3) := by decide +kernel
theorem dL_text_27 : decode cL_text 27 = .ok (.istore_n 3, 1) := by decide +kernel
theorem dL_text_28 : decode cL_text 28 = .ok (.new 50, 3) := by decide +kernel
theorem dL_text_31 : decode cL_text 31 = .ok (.dup, 1) := by decide +kernel
theorem dL_text_32 : decode cL_text 32 = .ok (.invokespecial 52, 3) := by decide +kernel
theorem dL_text_35 : decode cL_text 35 = .ok (.astore 4, 2) := by decide +kernel
theorem dL_text_37 : decode cL_text 37 = .ok (.aload 4, 2) := by decide +kernel
theorem dL_text_39 : decode cL_text 39 = .ok (.ldc 77, 2) := by decide +kernel
theorem dL_text_41 : decode cL_text 41 = .ok (.invokevirtual 79, 3) := by decide +kernel
theorem dL_text_44 : decode cL_text 44 = .ok (.aload_n 0, 1) := by decide +kernel
theorem dL_text_45 : decode cL_text 45 = .ok (.invokestatic 46, 3) := by decide +kernel
theorem dL_text_48 : decode cL_text 48 = .ok (.invokevirtual 82, 3) := by decide +kernel
theorem dL_text_51 : decode cL_text 51 = .ok (.ldc 85, 2) := by decide +kernel
theorem dL_text_53 : decode cL_text 53 = .ok (.invokevirtual 79, 3) := by decide +kernel
theorem dL_text_56 : decode cL_text 56 = .ok (.aload_n 0, 1) := by decide +kernel
theorem dL_text_57 : decode cL_text 57 = .ok (.invokestatic 65, 3) := by decide +kernel
theorem dL_text_60 : decode cL_text 60 = .ok (.invokevirtual 82, 3) := by decide +kernel
theorem dL_text_63 : decode cL_text 63 = .ok (.bipush 32, 2) := by decide +kernel
theorem dL_text_65 : decode cL_text 65 = .ok (.invokevirtual 58, 3) := by decide +kernel
theorem dL_text_68 : decode cL_text 68 = .ok (.aload_n 0, 1) := by decide +kernel
theorem dL_text_69 : decode cL_text 69 = .ok (.invokestatic 71, 3) := by decide +kernel
theorem dL_text_72 : decode cL_text 72 = .ok (.invokevirtual 82, 3) := by decide +kernel
theorem dL_text_75 : decode cL_text 75 = .ok (.ldc 85, 2) := by decide +kernel
theorem dL_text_77 : decode cL_text 77 = .ok (.invokevirtual 79, 3) := by decide +kernel
theorem dL_text_80 : decode cL_text 80 = .ok (.iload_n 3, 1) := by decide +kernel
theorem dL_text_81 : decode cL_text 81 = .ok (.invokevirtual 82, 3) := by decide +kernel
theorem dL_text_84 : decode cL_text 84 = .ok (.bipush 32, 2) := by decide +kernel
theorem dL_text_86 : decode cL_text 86 = .ok (.invokevirtual 58, 3) := by decide +kernel
theorem dL_text_89 : decode cL_text 89 = .ok (.iload_n 1, 1) := by decide +kernel
theorem dL_text_90 : decode cL_text 90 = .ok (.invokevirtual 82, 3) := by decide +kernel
theorem dL_text_93 : decode cL_text 93 = .ok (.ldc 87, 2) := by decide +kernel
theorem dL_text_95 : decode cL_text 95 = .ok (.invokevirtual 79, 3) := by decide +kernel
theorem dL_text_98 : decode cL_text 98 = .ok (.aload_n 0, 1) := by decide +kernel
theorem dL_text_99 : decode cL_text 99 = .ok (.invokestatic 68, 3) := by decide +kernel
theorem dL_text_102 : decode cL_text 102 = .ok (.invokevirtual 82, 3) := by decide +kernel
theorem dL_text_105 : decode cL_text 105 = .ok (.ldc 89, 2) := by decide +kernel
theorem dL_text_107 : decode cL_text 107 = .ok (.invokevirtual 79, 3) := by decide +kernel
theorem dL_text_110 : decode cL_text 110 = .ok (.aload_n 0, 1) := by decide +kernel
theorem dL_text_111 : decode cL_text 111 = .ok (.invokestatic 91, 3) := by decide +kernel
theorem dL_text_114 : decode cL_text 114 = .ok (.invokevirtual 82, 3) := by decide +kernel
theorem dL_text_117 : decode cL_text 117 = .ok (.ldc 94, 2) := by decide +kernel
theorem dL_text_119 : decode cL_text 119 = .ok (.invokevirtual 79, 3) := by decide +kernel
theorem dL_text_122 : decode cL_text 122 = .ok (.pop, 1) := by decide +kernel
theorem dL_text_123 : decode cL_text 123 = .ok (.iconst 0, 1) := by decide +kernel
theorem dL_text_124 : decode cL_text 124 = .ok (.istore 5, 2) := by decide +kernel
theorem dL_text_126 : decode cL_text 126 = .ok (.iload 5, 2) := by decide +kernel
theorem dL_text_128 : decode cL_text 128 = .ok (.aload_n 0, 1) := by decide +kernel
theorem dL_text_129 : decode cL_text 129 = .ok (.invokestatic 96, 3) := by decide +kernel
theorem dL_text_132 : decode cL_text 132 = .ok (.if_icmp .ge 96, 3) := by decide +kernel
theorem dL_text_135 : decode cL_text 135 = .ok (.iload 5, 2) := by decide +kernel
theorem dL_text_137 : decode cL_text 137 = .ok (.ifCond .le 11, 3) := by decide +kernel
theorem dL_text_140 : decode cL_text 140 = .ok (.aload 4, 2) := by decide +kernel
theorem dL_text_142 : decode cL_text 142 = .ok (.ldc 99, 2) := by decide +kernel
theorem dL_text_144 : decode cL_text 144 = .ok (.invokevirtual 79, 3) := by decide +kernel
theorem dL_text_147 : decode cL_text 147 = .ok (.pop, 1) := by decide +kernel
theorem dL_text_148 : decode cL_text 148 = .ok (.aload_n 0, 1) := by decide +kernel
theorem dL_text_149 : decode cL_text 149 = .ok (.iload 5, 2) := by decide +kernel
theorem dL_text_151 : decode cL_text 151 = .ok (.invokestatic 101, 3) := by decide +kernel
theorem dL_text_154 : decode cL_text 154 = .ok (.astore 6, 2) := by decide +kernel
theorem dL_text_156 : decode cL_text 156 = .ok (.iconst 0, 1) := by decide +kernel
theorem dL_text_157 : decode cL_text 157 = .ok (.istore 7, 2) := by decide +kernel
theorem dL_text_159 : decode cL_text 159 = .ok (.iload 7, 2) := by decide +kernel
theorem dL_text_161 : decode cL_text 161 = .ok (.aload 6, 2) := by decide +kernel
theorem dL_text_163 : decode cL_text 163 = .ok (.invokevirtual 8, 3) := by decide +kernel
theorem dL_text_166 : decode cL_text 166 = .ok (.if_icmp .ge 27, 3) := by decide +kernel
theorem dL_text_169 : decode cL_text 169 = .ok (.aload 4, 2) := by decide +kernel
theorem dL_text_171 : decode cL_text 171 = .ok (.bipush 32, 2) := by decide +kernel
theorem dL_text_173 : decode cL_text 173 = .ok (.invokevirtual 58, 3) := by decide +kernel
theorem dL_text_176 : decode cL_text 176 = .ok (.aload 6, 2) := by decide +kernel
theorem dL_text_178 : decode cL_text 178 = .ok (.iload 7, 2) := by decide +kernel
theorem dL_text_180 : decode cL_text 180 = .ok (.invokevirtual 14, 3) := by decide +kernel
theorem dL_text_183 : decode cL_text 183 = .ok (.invokevirtual 58, 3) := by decide +kernel
theorem dL_text_186 : decode cL_text 186 = .ok (.pop, 1) := by decide +kernel
theorem dL_text_187 : decode cL_text 187 = .ok (.iinc 7 1, 3) := by decide +kernel
theorem dL_text_190 : decode cL_text 190 = .ok (.goto (-31), 3) := by decide +kernel
theorem dL_text_193 : decode cL_text 193 = .ok (.iload 5, 2) := by decide +kernel
theorem dL_text_195 : decode cL_text 195 = .ok (.ifCond .ne 27, 3) := by decide +kernel
theorem dL_text_198 : decode cL_text 198 = .ok (.aload_n 0, 1) := by decide +kernel
theorem dL_text_199 : decode cL_text 199 = .ok (.invokestatic 96, 3) := by decide +kernel
theorem dL_text_202 : decode cL_text 202 = .ok (.iconst 1, 1) := by decide +kernel
theorem dL_text_203 : decode cL_text 203 = .ok (.if_icmp .ne 19, 3) := by decide +kernel
theorem dL_text_206 : decode cL_text 206 = .ok (.aload 6, 2) := by decide +kernel
theorem dL_text_208 : decode cL_text 208 = .ok (.invokevirtual 105, 3) := by decide +kernel
theorem dL_text_211 : decode cL_text 211 = .ok (.ifCond .eq 11, 3) := by decide +kernel
theorem dL_text_214 : decode cL_text 214 = .ok (.aload 4, 2) := by decide +kernel
theorem dL_text_216 : decode cL_text 216 = .ok (.ldc 109, 2) := by decide +kernel
theorem dL_text_218 : decode cL_text 218 = .ok (.invokevirtual 79, 3) := by decide +kernel
theorem dL_text_221 : decode cL_text 221 = .ok (.pop, 1) := by decide +kernel
theorem dL_text_222 : decode cL_text 222 = .ok (.iinc 5 1, 3) := by decide +kernel
theorem dL_text_225 : decode cL_text 225 = .ok (.goto (-99), 3) := by decide +kernel
theorem dL_text_228 : decode cL_text 228 = .ok (.aload 4, 2) := by decide +kernel
theorem dL_text_230 : decode cL_text 230 = .ok (.bipush 59, 2) := by decide +kernel
theorem dL_text_232 : decode cL_text 232 = .ok (.invokevirtual 58, 3) := by decide +kernel
theorem dL_text_235 : decode cL_text 235 = .ok (.invokevirtual 61, 3) := by decide +kernel
theorem dL_text_238 : decode cL_text 238 = .ok (.areturn, 1) := by decide +kernel
theorem dL_lineOf_0 : decode cL_lineOf 0 = .ok (.aload_n 0, 1) := by decide +kernel
theorem dL_lineOf_1 : decode cL_lineOf 1 = .ok (.invokestatic 96, 3) := by decide +kernel
theorem dL_lineOf_4 : decode cL_lineOf 4 = .ok (.iconst 1, 1) := by decide +kernel
theorem dL_lineOf_5 : decode cL_lineOf 5 = .ok (.if_icmp .ne 19, 3) := by decide +kernel
theorem dL_lineOf_8 : decode cL_lineOf 8 = .ok (.aload_n 0, 1) := by decide +kernel
theorem dL_lineOf_9 : decode cL_lineOf 9 = .ok (.iconst 0, 1) := by decide +kernel
theorem dL_lineOf_10 : decode cL_lineOf 10 = .ok (.invokestatic 101, 3) := by decide +kernel
theorem dL_lineOf_13 : decode cL_lineOf 13 = .ok (.invokevirtual 105, 3) := by decide +kernel
theorem dL_lineOf_16 : decode cL_lineOf 16 = .ok (.ifCond .eq 8, 3) := by decide +kernel
theorem dL_lineOf_19 : decode cL_lineOf 19 = .ok (.ldc 111, 2) := by decide +kernel
theorem dL_lineOf_21 : decode cL_lineOf 21 = .ok (.goto 8, 3) := by decide +kernel
theorem dL_lineOf_24 : decode cL_lineOf 24 = .ok (.aload_n 0, 1) := by decide +kernel
theorem dL_lineOf_25 : decode cL_lineOf 25 = .ok (.iload_n 1, 1) := by decide +kernel
theorem dL_lineOf_26 : decode cL_lineOf 26 = .ok (.invokestatic 101, 3) := by decide +kernel
theorem dL_lineOf_29 : decode cL_lineOf 29 = .ok (.areturn, 1) := by decide +kernel
theorem dL_areWheels_0 : decode cL_areWheels 0 = .ok (.sipush 1000, 3) := by decide +kernel
theorem dL_areWheels_3 : decode cL_areWheels 3 = .ok (.aload_n 1, 1) := by decide +kernel
theorem dL_areWheels_4 : decode cL_areWheels 4 = .ok (.invokestatic 46, 3) := by decide +kernel
theorem dL_areWheels_7 : decode cL_areWheels 7 = .ok (.imul, 1) := by decide +kernel
theorem dL_areWheels_8 : decode cL_areWheels 8 = .ok (.istore_n 3, 1) := by decide +kernel
theorem dL_areWheels_9 : decode cL_areWheels 9 = .ok (.aload_n 1, 1) := by decide +kernel
theorem dL_areWheels_10 : decode cL_areWheels 10 = .ok (.invokestatic 65, 3) := by decide +kernel
theorem dL_areWheels_13 : decode cL_areWheels 13 = .ok (.istore 4, 2) := by decide +kernel
theorem dL_areWheels_15 : decode cL_areWheels 15 = .ok (.aload_n 1, 1) := by decide +kernel
theorem dL_areWheels_16 : decode cL_areWheels 16 = .ok (.invokestatic 65, 3) := by decide +kernel
theorem dL_areWheels_19 : decode cL_areWheels 19 = .ok (.aload_n 1, 1) := by decide +kernel
theorem dL_areWheels_20 : decode cL_areWheels 20 = .ok (.invokestatic 68, 3) := by decide +kernel
theorem dL_areWheels_23 : decode cL_areWheels 23 = .ok (.aload_n 1, 1) := by decide +kernel
theorem dL_areWheels_24 : decode cL_areWheels 24 = .ok (.invokestatic 71, 3) := by decide +kernel
theorem dL_areWheels_27 : decode cL_areWheels 27 = .ok (.imul, 1) := by decide +kernel
theorem dL_areWheels_28 : decode cL_areWheels 28 = .ok (.isub, 1) := by decide +kernel
theorem dL_areWheels_29 : decode cL_areWheels 29 = .ok (.iload_n 3, 1) := by decide +kernel
theorem dL_areWheels_30 : decode cL_areWheels 30 = .ok (.invokestatic 74, 3) := by decide +kernel
theorem dL_areWheels_33 : decode cL_areWheels 33 = .ok (.istore 5, 2) := by decide +kernel
theorem dL_areWheels_35 : decode cL_areWheels 35 = .ok (.iconst 0, 1) := by decide +kernel
theorem dL_areWheels_36 : decode cL_areWheels 36 = .ok (.istore 6, 2) := by decide +kernel
theorem dL_areWheels_38 : decode cL_areWheels 38 = .ok (.bipush 8, 2) := by decide +kernel
theorem dL_areWheels_40 : decode cL_areWheels 40 = .ok (.istore 7, 2) := by decide +kernel
theorem dL_areWheels_42 : decode cL_areWheels 42 = .ok (.iload 7, 2) := by decide +kernel
theorem dL_areWheels_44 : decode cL_areWheels 44 = .ok (.aload_n 1, 1) := by decide +kernel
theorem dL_areWheels_45 : decode cL_areWheels 45 = .ok (.arraylength, 1) := by decide +kernel
theorem dL_areWheels_46 : decode cL_areWheels 46 = .ok (.if_icmp .ge 219, 3) := by decide +kernel
theorem dL_areWheels_49 : decode cL_areWheels 49 = .ok (.iload 7, 2) := by decide +kernel
theorem dL_areWheels_51 : decode cL_areWheels 51 = .ok (.bipush 14, 2) := by decide +kernel
theorem dL_areWheels_53 : decode cL_areWheels 53 = .ok (.if_icmp .ge 212, 3) := by decide +kernel
theorem dL_areWheels_56 : decode cL_areWheels 56 = .ok (.iconst 1, 1) := by decide +kernel
theorem dL_areWheels_57 : decode cL_areWheels 57 = .ok (.aload_n 1, 1) := by decide +kernel
theorem dL_areWheels_58 : decode cL_areWheels 58 = .ok (.iload 7, 2) := by decide +kernel
theorem dL_areWheels_60 : decode cL_areWheels 60 = .ok (.iaload, 1) := by decide +kernel
theorem dL_areWheels_61 : decode cL_areWheels 61 = .ok (.bipush 60, 2) := by decide +kernel
theorem dL_areWheels_63 : decode cL_areWheels 63 = .ok (.invokestatic 42, 3) := by decide +kernel
theorem dL_areWheels_66 : decode cL_areWheels 66 = .ok (.iadd, 1) := by decide +kernel
theorem dL_areWheels_67 : decode cL_areWheels 67 = .ok (.istore 8, 2) := by decide +kernel
theorem dL_areWheels_69 : decode cL_areWheels 69 = .ok (.aload_n 0, 1) := by decide +kernel
theorem dL_areWheels_70 : decode cL_areWheels 70 = .ok (.iconst 0, 1) := by decide +kernel
theorem dL_areWheels_71 : decode cL_areWheels 71 = .ok (.invokevirtual 113, 3) := by decide +kernel
theorem dL_areWheels_74 : decode cL_areWheels 74 = .ok (.iload 4, 2) := by decide +kernel
theorem dL_areWheels_76 : decode cL_areWheels 76 = .ok (.if_icmp .ne 43, 3) := by decide +kernel
theorem dL_areWheels_79 : decode cL_areWheels 79 = .ok (.aload_n 0, 1) := by decide +kernel
theorem dL_areWheels_80 : decode cL_areWheels 80 = .ok (.iconst 1, 1) := by decide +kernel
theorem dL_areWheels_81 : decode cL_areWheels 81 = .ok (.invokevirtual 113, 3) := by decide +kernel
theorem dL_areWheels_84 : decode cL_areWheels 84 = .ok (.iload 5, 2) := by decide +kernel
theorem dL_areWheels_86 : decode cL_areWheels 86 = .ok (.if_icmp .ne 33, 3) := by decide +kernel
theorem dL_areWheels_89 : decode cL_areWheels 89 = .ok (.aload_n 0, 1) := by decide +kernel
theorem dL_areWheels_90 : decode cL_areWheels 90 = .ok (.invokevirtual 116, 3) := by decide +kernel
theorem dL_areWheels_93 : decode cL_areWheels 93 = .ok (.iload 6, 2) := by decide +kernel
theorem dL_areWheels_95 : decode cL_areWheels 95 = .ok (.if_icmp .ne 24, 3) := by decide +kernel
theorem dL_areWheels_98 : decode cL_areWheels 98 = .ok (.aload_n 0, 1) := by decide +kernel
theorem dL_areWheels_99 : decode cL_areWheels 99 = .ok (.iconst 0, 1) := by decide +kernel
theorem dL_areWheels_100 : decode cL_areWheels 100 = .ok (.invokevirtual 119, 3) := by decide +kernel
theorem dL_areWheels_103 : decode cL_areWheels 103 = .ok (.aload_n 1, 1) := by decide +kernel
theorem dL_areWheels_104 : decode cL_areWheels 104 = .ok (.invokestatic 71, 3) := by decide +kernel
theorem dL_areWheels_107 : decode cL_areWheels 107 = .ok (.if_icmp .ne 12, 3) := by decide +kernel
theorem dL_areWheels_110 : decode cL_areWheels 110 = .ok (.aload_n 0, 1) := by decide +kernel
theorem dL_areWheels_111 : decode cL_areWheels 111 = .ok (.iconst 1, 1) := by decide +kernel
theorem dL_areWheels_112 : decode cL_areWheels 112 = .ok (.invokevirtual 119, 3) := by decide +kernel
theorem dL_areWheels_115 : decode cL_areWheels 115 = .ok (.iload_n 2, 1) := by decide +kernel
theorem dL_areWheels_116 : decode cL_areWheels 116 = .ok (.if_icmp .eq 5, 3) := by decide +kernel
theorem dL_areWheels_119 : decode cL_areWheels 119 = .ok (.iconst 0, 1) := by decide +kernel
theorem dL_areWheels_120 : decode cL_areWheels 120 = .ok (.ireturn, 1) := by decide +kernel
theorem dL_areWheels_121 : decode cL_areWheels 121 = .ok (.aload_n 0, 1) := by decide +kernel
theorem dL_areWheels_122 : decode cL_areWheels 122 = .ok (.iconst 0, 1) := by decide +kernel
theorem dL_areWheels_123 : decode cL_areWheels 123 = .ok (.invokevirtual 121, 3) := by decide +kernel
theorem dL_areWheels_126 : decode cL_areWheels 126 = .ok (.iload 4, 2) := by decide +kernel
theorem dL_areWheels_128 : decode cL_areWheels 128 = .ok (.sipush 500, 3) := by decide +kernel
theorem dL_areWheels_131 : decode cL_areWheels 131 = .ok (.iadd, 1) := by decide +kernel
theorem dL_areWheels_132 : decode cL_areWheels 132 = .ok (.sipush 1000, 3) := by decide +kernel
theorem dL_areWheels_135 : decode cL_areWheels 135 = .ok (.idiv, 1) := by decide +kernel
theorem dL_areWheels_136 : decode cL_areWheels 136 = .ok (.aload_n 1, 1) := by decide +kernel
theorem dL_areWheels_137 : decode cL_areWheels 137 = .ok (.invokestatic 46, 3) := by decide +kernel
theorem dL_areWheels_140 : decode cL_areWheels 140 = .ok (.irem, 1) := by decide +kernel
theorem dL_areWheels_141 : decode cL_areWheels 141 = .ok (.if_icmp .ne 26, 3) := by decide +kernel
theorem dL_areWheels_144 : decode cL_areWheels 144 = .ok (.aload_n 0, 1) := by decide +kernel
theorem dL_areWheels_145 : decode cL_areWheels 145 = .ok (.iconst 1, 1) := by decide +kernel
theorem dL_areWheels_146 : decode cL_areWheels 146 = .ok (.invokevirtual 121, 3) := by decide +kernel
theorem dL_areWheels_149 : decode cL_areWheels 149 = .ok (.iload 5, 2) := by decide +kernel
theorem dL_areWheels_151 : decode cL_areWheels 151 = .ok (.sipush 500, 3) := by decide +kernel
theorem dL_areWheels_154 : decode cL_areWheels 154 = .ok (.iadd, 1) := by decide +kernel
theorem dL_areWheels_155 : decode cL_areWheels 155 = .ok (.sipush 1000, 3) := by decide +kernel
theorem dL_areWheels_158 : decode cL_areWheels 158 = .ok (.idiv, 1) := by decide +kernel
theorem dL_areWheels_159 : decode cL_areWheels 159 = .ok (.aload_n 1, 1) := by decide +kernel
theorem dL_areWheels_160 : decode cL_areWheels 160 = .ok (.invokestatic 46, 3) := by decide +kernel
theorem dL_areWheels_163 : decode cL_areWheels 163 = .ok (.irem, 1) := by decide +kernel
theorem dL_areWheels_164 : decode cL_areWheels 164 = .ok (.if_icmp .eq 5, 3) := by decide +kernel
theorem dL_areWheels_167 : decode cL_areWheels 167 = .ok (.iconst 0, 1) := by decide +kernel
theorem dL_areWheels_168 : decode cL_areWheels 168 = .ok (.ireturn, 1) := by decide +kernel
theorem dL_areWheels_169 : decode cL_areWheels 169 = .ok (.aload_n 0, 1) := by decide +kernel
theorem dL_areWheels_170 : decode cL_areWheels 170 = .ok (.invokevirtual 124, 3) := by decide +kernel
theorem dL_areWheels_173 : decode cL_areWheels 173 = .ok (.istore 9, 2) := by decide +kernel
theorem dL_areWheels_175 : decode cL_areWheels 175 = .ok (.iload 9, 2) := by decide +kernel
theorem dL_areWheels_177 : decode cL_areWheels 177 = .ok (.iload_n 3, 1) := by decide +kernel
theorem dL_areWheels_178 : decode cL_areWheels 178 = .ok (.ineg, 1) := by decide +kernel
theorem dL_areWheels_179 : decode cL_areWheels 179 = .ok (.iconst 2, 1) := by decide +kernel
theorem dL_areWheels_180 : decode cL_areWheels 180 = .ok (.idiv, 1) := by decide +kernel
theorem dL_areWheels_181 : decode cL_areWheels 181 = .ok (.if_icmp .lt 33, 3) := by decide +kernel
theorem dL_areWheels_184 : decode cL_areWheels 184 = .ok (.iload 9, 2) := by decide +kernel
theorem dL_areWheels_186 : decode cL_areWheels 186 = .ok (.iload_n 3, 1) := by decide +kernel
theorem dL_areWheels_187 : decode cL_areWheels 187 = .ok (.iconst 2, 1) := by decide +kernel
theorem dL_areWheels_188 : decode cL_areWheels 188 = .ok (.idiv, 1) := by decide +kernel
theorem dL_areWheels_189 : decode cL_areWheels 189 = .ok (.if_icmp .ge 25, 3) := by decide +kernel
theorem dL_areWheels_192 : decode cL_areWheels 192 = .ok (.iload 9, 2) := by decide +kernel
theorem dL_areWheels_194 : decode cL_areWheels 194 = .ok (.iload 5, 2) := by decide +kernel
theorem dL_areWheels_196 : decode cL_areWheels 196 = .ok (.aload_n 1, 1) := by decide +kernel
theorem dL_areWheels_197 : decode cL_areWheels 197 = .ok (.invokestatic 68, 3) := by decide +kernel
theorem dL_areWheels_200 : decode cL_areWheels 200 = .ok (.iload_n 2, 1) := by decide +kernel
theorem dL_areWheels_201 : decode cL_areWheels 201 = .ok (.imul, 1) := by decide +kernel
theorem dL_areWheels_202 : decode cL_areWheels 202 = .ok (.iadd, 1) := by decide +kernel
theorem dL_areWheels_203 : decode cL_areWheels 203 = .ok (.iload 4, 2) := by decide +kernel
theorem dL_areWheels_205 : decode cL_areWheels 205 = .ok (.isub, 1) := by decide +kernel
theorem dL_areWheels_206 : decode cL_areWheels 206 = .ok (.isub, 1) := by decide +kernel
theorem dL_areWheels_207 : decode cL_areWheels 207 = .ok (.iload_n 3, 1) := by decide +kernel
theorem dL_areWheels_208 : decode cL_areWheels 208 = .ok (.invokestatic 74, 3) := by decide +kernel
theorem dL_areWheels_211 : decode cL_areWheels 211 = .ok (.ifCond .eq 5, 3) := by decide +kernel
theorem dL_areWheels_214 : decode cL_areWheels 214 = .ok (.iconst 0, 1) := by decide +kernel
theorem dL_areWheels_215 : decode cL_areWheels 215 = .ok (.ireturn, 1) := by decide +kernel
theorem dL_areWheels_216 : decode cL_areWheels 216 = .ok (.aload_n 0, 1) := by decide +kernel
theorem dL_areWheels_217 : decode cL_areWheels 217 = .ok (.iload 8, 2) := by decide +kernel
theorem dL_areWheels_219 : decode cL_areWheels 219 = .ok (.invokevirtual 127, 3) := by decide +kernel
theorem dL_areWheels_222 : decode cL_areWheels 222 = .ok (.ifCond .eq 5, 3) := by decide +kernel
theorem dL_areWheels_225 : decode cL_areWheels 225 = .ok (.iconst 0, 1) := by decide +kernel
theorem dL_areWheels_226 : decode cL_areWheels 226 = .ok (.ireturn, 1) := by decide +kernel
theorem dL_areWheels_227 : decode cL_areWheels 227 = .ok (.iload 4, 2) := by decide +kernel
theorem dL_areWheels_229 : decode cL_areWheels 229 = .ok (.iload 8, 2) := by decide +kernel
theorem dL_areWheels_231 : decode cL_areWheels 231 = .ok (.aload_n 1, 1) := by decide +kernel
theorem dL_areWheels_232 : decode cL_areWheels 232 = .ok (.invokestatic 71, 3) := by decide +kernel
theorem dL_areWheels_235 : decode cL_areWheels 235 = .ok (.imul, 1) := by decide +kernel
theorem dL_areWheels_236 : decode cL_areWheels 236 = .ok (.iadd, 1) := by decide +kernel
theorem dL_areWheels_237 : decode cL_areWheels 237 = .ok (.iload_n 3, 1) := by decide +kernel
theorem dL_areWheels_238 : decode cL_areWheels 238 = .ok (.irem, 1) := by decide +kernel
theorem dL_areWheels_239 : decode cL_areWheels 239 = .ok (.istore 4, 2) := by decide +kernel
theorem dL_areWheels_241 : decode cL_areWheels 241 = .ok (.iload 5, 2) := by decide +kernel
theorem dL_areWheels_243 : decode cL_areWheels 243 = .ok (.iload 8, 2) := by decide +kernel
theorem dL_areWheels_245 : decode cL_areWheels 245 = .ok (.iload_n 2, 1) := by decide +kernel
theorem dL_areWheels_246 : decode cL_areWheels 246 = .ok (.imul, 1) := by decide +kernel
theorem dL_areWheels_247 : decode cL_areWheels 247 = .ok (.iadd, 1) := by decide +kernel
theorem dL_areWheels_248 : decode cL_areWheels 248 = .ok (.iload_n 3, 1) := by decide +kernel
theorem dL_areWheels_249 : decode cL_areWheels 249 = .ok (.irem, 1) := by decide +kernel
theorem dL_areWheels_250 : decode cL_areWheels 250 = .ok (.istore 5, 2) := by decide +kernel
theorem dL_areWheels_252 : decode cL_areWheels 252 = .ok (.iload 6, 2) := by decide +kernel
theorem dL_areWheels_254 : decode cL_areWheels 254 = .ok (.iload 8, 2) := by decide +kernel
theorem dL_areWheels_256 : decode cL_areWheels 256 = .ok (.iadd, 1) := by decide +kernel
theorem dL_areWheels_257 : decode cL_areWheels 257 = .ok (.istore 6, 2) := by decide +kernel
theorem dL_areWheels_259 : decode cL_areWheels 259 = .ok (.iinc 7 1, 3) := by decide +kernel
theorem dL_areWheels_262 : decode cL_areWheels 262 = .ok (.goto (-220), 3) := by decide +kernel
theorem dL_areWheels_265 : decode cL_areWheels 265 = .ok (.aload_n 0, 1) := by decide +kernel
theorem dL_areWheels_266 : decode cL_areWheels 266 = .ok (.invokevirtual 130, 3) := by decide +kernel
theorem dL_areWheels_269 : decode cL_areWheels 269 = .ok (.ifCond .ne 29, 3) := by decide +kernel
theorem dL_areWheels_272 : decode cL_areWheels 272 = .ok (.aload_n 0, 1) := by decide +kernel
theorem dL_areWheels_273 : decode cL_areWheels 273 = .ok (.invokevirtual 133, 3) := by decide +kernel
theorem dL_areWheels_276 : decode cL_areWheels 276 = .ok (.ifCond .ne 22, 3) := by decide +kernel
theorem dL_areWheels_279 : decode cL_areWheels 279 = .ok (.aload_n 0, 1) := by decide +kernel
theorem dL_areWheels_280 : decode cL_areWheels 280 = .ok (.invokevirtual 136, 3) := by decide +kernel
theorem dL_areWheels_283 : decode cL_areWheels 283 = .ok (.ifCond .ne 15, 3) := by decide +kernel
theorem dL_areWheels_286 : decode cL_areWheels 286 = .ok (.aload_n 0, 1) := by decide +kernel
theorem dL_areWheels_287 : decode cL_areWheels 287 = .ok (.invokevirtual 139, 3) := by decide +kernel
theorem dL_areWheels_290 : decode cL_areWheels 290 = .ok (.iconst (-1), 1) := by decide +kernel
theorem dL_areWheels_291 : decode cL_areWheels 291 = .ok (.if_icmp .ne 7, 3) := by decide +kernel
theorem dL_areWheels_294 : decode cL_areWheels 294 = .ok (.iconst 1, 1) := by decide +kernel
theorem dL_areWheels_295 : decode cL_areWheels 295 = .ok (.goto 4, 3) := by decide +kernel
theorem dL_areWheels_298 : decode cL_areWheels 298 = .ok (.iconst 0, 1) := by decide +kernel
theorem dL_areWheels_299 : decode cL_areWheels 299 = .ok (.ireturn, 1) := by decide +kernel
theorem dL_isPath_0 : decode cL_isPath 0 = .ok (.aload_n 1, 1) := by decide +kernel
theorem dL_isPath_1 : decode cL_isPath 1 = .ok (.iload_n 2, 1) := by decide +kernel
theorem dL_isPath_2 : decode cL_isPath 2 = .ok (.invokestatic 142, 3) := by decide +kernel
theorem dL_isPath_5 : decode cL_isPath 5 = .ok (.astore_n 3, 1) := by decide +kernel
theorem dL_isPath_6 : decode cL_isPath 6 = .ok (.aload_n 1, 1) := by decide +kernel
theorem dL_isPath_7 : decode cL_isPath 7 = .ok (.invokestatic 46, 3) := by decide +kernel
theorem dL_isPath_10 : decode cL_isPath 10 = .ok (.istore 4, 2) := by decide +kernel
theorem dL_isPath_12 : decode cL_isPath 12 = .ok (.bipush 70, 2) := by decide +kernel
theorem dL_isPath_14 : decode cL_isPath 14 = .ok (.newarray .int, 2) := by decide +kernel
theorem dL_isPath_16 : decode cL_isPath 16 = .ok (.astore 5, 2) := by decide +kernel
theorem dL_isPath_18 : decode cL_isPath 18 = .ok (.iconst 0, 1) := by decide +kernel
theorem dL_isPath_19 : decode cL_isPath 19 = .ok (.istore 6, 2) := by decide +kernel
theorem dL_isPath_21 : decode cL_isPath 21 = .ok (.iconst 0, 1) := by decide +kernel
theorem dL_isPath_22 : decode cL_isPath 22 = .ok (.istore 7, 2) := by decide +kernel
theorem dL_isPath_24 : decode cL_isPath 24 = .ok (.iconst 0, 1) := by decide +kernel
theorem dL_isPath_25 : decode cL_isPath 25 = .ok (.istore 8, 2) := by decide +kernel
theorem dL_isPath_27 : decode cL_isPath 27 = .ok (.iload 8, 2) := by decide +kernel
theorem dL_isPath_29 : decode cL_isPath 29 = .ok (.aload_n 3, 1) := by decide +kernel
theorem dL_isPath_30 : decode cL_isPath 30 = .ok (.invokevirtual 8, 3) := by decide +kernel
theorem dL_isPath_33 : decode cL_isPath 33 = .ok (.if_icmp .ge 110, 3) := by decide +kernel
theorem dL_isPath_36 : decode cL_isPath 36 = .ok (.aload_n 3, 1) := by decide +kernel
theorem dL_isPath_37 : decode cL_isPath 37 = .ok (.iload 8, 2) := by decide +kernel
theorem dL_isPath_39 : decode cL_isPath 39 = .ok (.invokevirtual 14, 3) := by decide +kernel
theorem dL_isPath_42 : decode cL_isPath 42 = .ok (.istore 9, 2) := by decide +kernel
theorem dL_isPath_44 : decode cL_isPath 44 = .ok (.iload 9, 2) := by decide +kernel
theorem dL_isPath_46 : decode cL_isPath 46 = .ok (.bipush 57, 2) := by decide +kernel
theorem dL_isPath_48 : decode cL_isPath 48 = .ok (.if_icmp .gt 7, 3) := by decide +kernel
theorem dL_isPath_51 : decode cL_isPath 51 = .ok (.iconst 1, 1) := by decide +kernel
theorem dL_isPath_52 : decode cL_isPath 52 = .ok (.goto 4, 3) := by decide +kernel
theorem dL_isPath_55 : decode cL_isPath 55 = .ok (.iconst 0, 1) := by decide +kernel
theorem dL_isPath_56 : decode cL_isPath 56 = .ok (.istore 10, 2) := by decide +kernel
theorem dL_isPath_58 : decode cL_isPath 58 = .ok (.iload 10, 2) := by decide +kernel
theorem dL_isPath_60 : decode cL_isPath 60 = .ok (.iload 7, 2) := by decide +kernel
theorem dL_isPath_62 : decode cL_isPath 62 = .ok (.if_icmp .eq 13, 3) := by decide +kernel
theorem dL_isPath_65 : decode cL_isPath 65 = .ok (.aload 5, 2) := by decide +kernel
theorem dL_isPath_67 : decode cL_isPath 67 = .ok (.iload 6, 2) := by decide +kernel
theorem dL_isPath_69 : decode cL_isPath 69 = .ok (.iinc 6 1, 3) := by decide +kernel
theorem dL_isPath_72 : decode cL_isPath 72 = .ok (.iload 10, 2) := by decide +kernel
theorem dL_isPath_74 : decode cL_isPath 74 = .ok (.iastore, 1) := by decide +kernel
theorem dL_isPath_75 : decode cL_isPath 75 = .ok (.iload 10, 2) := by decide +kernel
theorem dL_isPath_77 : decode cL_isPath 77 = .ok (.istore 7, 2) := by decide +kernel
theorem dL_isPath_79 : decode cL_isPath 79 = .ok (.aload 5, 2) := by decide +kernel
theorem dL_isPath_81 : decode cL_isPath 81 = .ok (.iload 6, 2) := by decide +kernel
theorem dL_isPath_83 : decode cL_isPath 83 = .ok (.iinc 6 1, 3) := by decide +kernel
theorem dL_isPath_86 : decode cL_isPath 86 = .ok (.iconst 2, 1) := by decide +kernel
theorem dL_isPath_87 : decode cL_isPath 87 = .ok (.iload 10, 2) := by decide +kernel
theorem dL_isPath_89 : decode cL_isPath 89 = .ok (.iconst 1, 1) := by decide +kernel
theorem dL_isPath_90 : decode cL_isPath 90 = .ok (.if_icmp .ne 11, 3) := by decide +kernel
theorem dL_isPath_93 : decode cL_isPath 93 = .ok (.iload 9, 2) := by decide +kernel
theorem dL_isPath_95 : decode cL_isPath 95 = .ok (.bipush 48, 2) := by decide +kernel
theorem dL_isPath_97 : decode cL_isPath 97 = .ok (.isub, 1) := by decide +kernel
theorem dL_isPath_98 : decode cL_isPath 98 = .ok (.goto 8, 3) := by decide +kernel
theorem dL_isPath_101 : decode cL_isPath 101 = .ok (.iload 9, 2) := by decide +kernel
theorem dL_isPath_103 : decode cL_isPath 103 = .ok (.bipush 97, 2) := by decide +kernel
theorem dL_isPath_105 : decode cL_isPath 105 = .ok (.isub, 1) := by decide +kernel
theorem dL_isPath_106 : decode cL_isPath 106 = .ok (.iadd, 1) := by decide +kernel
theorem dL_isPath_107 : decode cL_isPath 107 = .ok (.iastore, 1) := by decide +kernel
theorem dL_isPath_108 : decode cL_isPath 108 = .ok (.aload_n 0, 1) := by decide +kernel
theorem dL_isPath_109 : decode cL_isPath 109 = .ok (.aload 5, 2) := by decide +kernel
theorem dL_isPath_111 : decode cL_isPath 111 = .ok (.iload 6, 2) := by decide +kernel
theorem dL_isPath_113 : decode cL_isPath 113 = .ok (.iconst 1, 1) := by decide +kernel
theorem dL_isPath_114 : decode cL_isPath 114 = .ok (.isub, 1) := by decide +kernel
theorem dL_isPath_115 : decode cL_isPath 115 = .ok (.iaload, 1) := by decide +kernel
theorem dL_isPath_116 : decode cL_isPath 116 = .ok (.iload 10, 2) := by decide +kernel
theorem dL_isPath_118 : decode cL_isPath 118 = .ok (.iconst 1, 1) := by decide +kernel
theorem dL_isPath_119 : decode cL_isPath 119 = .ok (.if_icmp .ne 7, 3) := by decide +kernel
theorem dL_isPath_122 : decode cL_isPath 122 = .ok (.iconst 1, 1) := by decide +kernel
theorem dL_isPath_123 : decode cL_isPath 123 = .ok (.goto 4, 3) := by decide +kernel
theorem dL_isPath_126 : decode cL_isPath 126 = .ok (.iconst 0, 1) := by decide +kernel
theorem dL_isPath_127 : decode cL_isPath 127 = .ok (.invokevirtual 145, 3) := by decide +kernel
theorem dL_isPath_130 : decode cL_isPath 130 = .ok (.iload 9, 2) := by decide +kernel
theorem dL_isPath_132 : decode cL_isPath 132 = .ok (.if_icmp .eq 5, 3) := by decide +kernel
theorem dL_isPath_135 : decode cL_isPath 135 = .ok (.iconst 0, 1) := by decide +kernel
theorem dL_isPath_136 : decode cL_isPath 136 = .ok (.ireturn, 1) := by decide +kernel
theorem dL_isPath_137 : decode cL_isPath 137 = .ok (.iinc 8 1, 3) := by decide +kernel
theorem dL_isPath_140 : decode cL_isPath 140 = .ok (.goto (-113), 3) := by decide +kernel
theorem dL_isPath_143 : decode cL_isPath 143 = .ok (.iload 6, 2) := by decide +kernel
theorem dL_isPath_145 : decode cL_isPath 145 = .ok (.istore 8, 2) := by decide +kernel
theorem dL_isPath_147 : decode cL_isPath 147 = .ok (.aload 5, 2) := by decide +kernel
theorem dL_isPath_149 : decode cL_isPath 149 = .ok (.iload 6, 2) := by decide +kernel
theorem dL_isPath_151 : decode cL_isPath 151 = .ok (.iinc 6 1, 3) := by decide +kernel
theorem dL_isPath_154 : decode cL_isPath 154 = .ok (.iload 7, 2) := by decide +kernel
theorem dL_isPath_156 : decode cL_isPath 156 = .ok (.iastore, 1) := by decide +kernel
theorem dL_isPath_157 : decode cL_isPath 157 = .ok (.aload 5, 2) := by decide +kernel
theorem dL_isPath_159 : decode cL_isPath 159 = .ok (.iload 6, 2) := by decide +kernel
theorem dL_isPath_161 : decode cL_isPath 161 = .ok (.iinc 6 1, 3) := by decide +kernel
theorem dL_isPath_164 : decode cL_isPath 164 = .ok (.iconst 2, 1) := by decide +kernel
theorem dL_isPath_165 : decode cL_isPath 165 = .ok (.iload 8, 2) := by decide +kernel
theorem dL_isPath_167 : decode cL_isPath 167 = .ok (.iload 4, 2) := by decide +kernel
theorem dL_isPath_169 : decode cL_isPath 169 = .ok (.iconst 2, 1) := by decide +kernel
theorem dL_isPath_170 : decode cL_isPath 170 = .ok (.isub, 1) := by decide +kernel
theorem dL_isPath_171 : decode cL_isPath 171 = .ok (.irem, 1) := by decide +kernel
theorem dL_isPath_172 : decode cL_isPath 172 = .ok (.iadd, 1) := by decide +kernel
theorem dL_isPath_173 : decode cL_isPath 173 = .ok (.iastore, 1) := by decide +kernel
theorem dL_isPath_174 : decode cL_isPath 174 = .ok (.aload_n 0, 1) := by decide +kernel
theorem dL_isPath_175 : decode cL_isPath 175 = .ok (.iconst 0, 1) := by decide +kernel
theorem dL_isPath_176 : decode cL_isPath 176 = .ok (.iload_n 2, 1) := by decide +kernel
theorem dL_isPath_177 : decode cL_isPath 177 = .ok (.invokevirtual 149, 3) := by decide +kernel
theorem dL_isPath_180 : decode cL_isPath 180 = .ok (.aload_n 3, 1) := by decide +kernel
theorem dL_isPath_181 : decode cL_isPath 181 = .ok (.invokevirtual 8, 3) := by decide +kernel
theorem dL_isPath_184 : decode cL_isPath 184 = .ok (.if_icmp .ne 14, 3) := by decide +kernel
theorem dL_isPath_187 : decode cL_isPath 187 = .ok (.aload_n 0, 1) := by decide +kernel
theorem dL_isPath_188 : decode cL_isPath 188 = .ok (.iconst 0, 1) := by decide +kernel
theorem dL_isPath_189 : decode cL_isPath 189 = .ok (.iload_n 2, 1) := by decide +kernel
theorem dL_isPath_190 : decode cL_isPath 190 = .ok (.invokevirtual 152, 3) := by decide +kernel
theorem dL_isPath_193 : decode cL_isPath 193 = .ok (.iload 6, 2) := by decide +kernel
theorem dL_isPath_195 : decode cL_isPath 195 = .ok (.if_icmp .eq 5, 3) := by decide +kernel
theorem dL_isPath_198 : decode cL_isPath 198 = .ok (.iconst 0, 1) := by decide +kernel
theorem dL_isPath_199 : decode cL_isPath 199 = .ok (.ireturn, 1) := by decide +kernel
theorem dL_isPath_200 : decode cL_isPath 200 = .ok (.iconst 0, 1) := by decide +kernel
theorem dL_isPath_201 : decode cL_isPath 201 = .ok (.istore 9, 2) := by decide +kernel
theorem dL_isPath_203 : decode cL_isPath 203 = .ok (.iload 9, 2) := by decide +kernel
theorem dL_isPath_205 : decode cL_isPath 205 = .ok (.iload 6, 2) := by decide +kernel
theorem dL_isPath_207 : decode cL_isPath 207 = .ok (.if_icmp .ge 27, 3) := by decide +kernel
theorem dL_isPath_210 : decode cL_isPath 210 = .ok (.aload_n 0, 1) := by decide +kernel
theorem dL_isPath_211 : decode cL_isPath 211 = .ok (.iconst 0, 1) := by decide +kernel
theorem dL_isPath_212 : decode cL_isPath 212 = .ok (.iload_n 2, 1) := by decide +kernel
theorem dL_isPath_213 : decode cL_isPath 213 = .ok (.iload 9, 2) := by decide +kernel
theorem dL_isPath_215 : decode cL_isPath 215 = .ok (.invokevirtual 155, 3) := by decide +kernel
theorem dL_isPath_218 : decode cL_isPath 218 = .ok (.aload 5, 2) := by decide +kernel
theorem dL_isPath_220 : decode cL_isPath 220 = .ok (.iload 9, 2) := by decide +kernel
theorem dL_isPath_222 : decode cL_isPath 222 = .ok (.iaload, 1) := by decide +kernel
theorem dL_isPath_223 : decode cL_isPath 223 = .ok (.if_icmp .eq 5, 3) := by decide +kernel
theorem dL_isPath_226 : decode cL_isPath 226 = .ok (.iconst 0, 1) := by decide +kernel
theorem dL_isPath_227 : decode cL_isPath 227 = .ok (.ireturn, 1) := by decide +kernel
theorem dL_isPath_228 : decode cL_isPath 228 = .ok (.iinc 9 1, 3) := by decide +kernel
theorem dL_isPath_231 : decode cL_isPath 231 = .ok (.goto (-28), 3) := by decide +kernel
theorem dL_isPath_234 : decode cL_isPath 234 = .ok (.aload_n 0, 1) := by decide +kernel
theorem dL_isPath_235 : decode cL_isPath 235 = .ok (.iconst 0, 1) := by decide +kernel
theorem dL_isPath_236 : decode cL_isPath 236 = .ok (.invokevirtual 113, 3) := by decide +kernel
theorem dL_isPath_239 : decode cL_isPath 239 = .ok (.istore 9, 2) := by decide +kernel
theorem dL_isPath_241 : decode cL_isPath 241 = .ok (.iconst 0, 1) := by decide +kernel
theorem dL_isPath_242 : decode cL_isPath 242 = .ok (.istore 10, 2) := by decide +kernel
theorem dL_isPath_244 : decode cL_isPath 244 = .ok (.iconst 0, 1) := by decide +kernel
theorem dL_isPath_245 : decode cL_isPath 245 = .ok (.istore 11, 2) := by decide +kernel
theorem dL_isPath_247 : decode cL_isPath 247 = .ok (.iload 11, 2) := by decide +kernel
theorem dL_isPath_249 : decode cL_isPath 249 = .ok (.iload 6, 2) := by decide +kernel
theorem dL_isPath_251 : decode cL_isPath 251 = .ok (.if_icmp .ge 56, 3) := by decide +kernel
theorem dL_isPath_254 : decode cL_isPath 254 = .ok (.iinc 10 1, 3) := by decide +kernel
theorem dL_isPath_257 : decode cL_isPath 257 = .ok (.iload 9, 2) := by decide +kernel
theorem dL_isPath_259 : decode cL_isPath 259 = .ok (.aload_n 1, 1) := by decide +kernel
theorem dL_isPath_260 : decode cL_isPath 260 = .ok (.invokestatic 71, 3) := by decide +kernel
theorem dL_isPath_263 : decode cL_isPath 263 = .ok (.iadd, 1) := by decide +kernel
theorem dL_isPath_264 : decode cL_isPath 264 = .ok (.sipush 1000, 3) := by decide +kernel
theorem dL_isPath_267 : decode cL_isPath 267 = .ok (.iload 4, 2) := by decide +kernel
theorem dL_isPath_269 : decode cL_isPath 269 = .ok (.imul, 1) := by decide +kernel
theorem dL_isPath_270 : decode cL_isPath 270 = .ok (.irem, 1) := by decide +kernel
theorem dL_isPath_271 : decode cL_isPath 271 = .ok (.istore 9, 2) := by decide +kernel
theorem dL_isPath_273 : decode cL_isPath 273 = .ok (.iload 9, 2) := by decide +kernel
theorem dL_isPath_275 : decode cL_isPath 275 = .ok (.sipush 1000, 3) := by decide +kernel
theorem dL_isPath_278 : decode cL_isPath 278 = .ok (.aload 5, 2) := by decide +kernel
theorem dL_isPath_280 : decode cL_isPath 280 = .ok (.iload 11, 2) := by decide +kernel
theorem dL_isPath_282 : decode cL_isPath 282 = .ok (.iaload, 1) := by decide +kernel
theorem dL_isPath_283 : decode cL_isPath 283 = .ok (.imul, 1) := by decide +kernel
theorem dL_isPath_284 : decode cL_isPath 284 = .ok (.isub, 1) := by decide +kernel
theorem dL_isPath_285 : decode cL_isPath 285 = .ok (.sipush 1000, 3) := by decide +kernel
theorem dL_isPath_288 : decode cL_isPath 288 = .ok (.iload 4, 2) := by decide +kernel
theorem dL_isPath_290 : decode cL_isPath 290 = .ok (.imul, 1) := by decide +kernel
theorem dL_isPath_291 : decode cL_isPath 291 = .ok (.invokestatic 74, 3) := by decide +kernel
theorem dL_isPath_294 : decode cL_isPath 294 = .ok (.aload_n 1, 1) := by decide +kernel
theorem dL_isPath_295 : decode cL_isPath 295 = .ok (.invokestatic 71, 3) := by decide +kernel
theorem dL_isPath_298 : decode cL_isPath 298 = .ok (.if_icmp .ge (-51), 3) := by decide +kernel
theorem dL_isPath_301 : decode cL_isPath 301 = .ok (.iinc 11 1, 3) := by decide +kernel
theorem dL_isPath_304 : decode cL_isPath 304 = .ok (.goto (-57), 3) := by decide +kernel
theorem dL_isPath_307 : decode cL_isPath 307 = .ok (.aload_n 0, 1) := by decide +kernel
theorem dL_isPath_308 : decode cL_isPath 308 = .ok (.iconst 0, 1) := by decide +kernel
theorem dL_isPath_309 : decode cL_isPath 309 = .ok (.iload_n 2, 1) := by decide +kernel
theorem dL_isPath_310 : decode cL_isPath 310 = .ok (.invokevirtual 159, 3) := by decide +kernel
theorem dL_isPath_313 : decode cL_isPath 313 = .ok (.iload 10, 2) := by decide +kernel
theorem dL_isPath_315 : decode cL_isPath 315 = .ok (.if_icmp .ne 7, 3) := by decide +kernel
theorem dL_isPath_318 : decode cL_isPath 318 = .ok (.iconst 1, 1) := by decide +kernel
theorem dL_isPath_319 : decode cL_isPath 319 = .ok (.goto 4, 3) := by decide +kernel
theorem dL_isPath_322 : decode cL_isPath 322 = .ok (.iconst 0, 1) := by decide +kernel
theorem dL_isPath_323 : decode cL_isPath 323 = .ok (.ireturn, 1) := by decide +kernel
theorem dL_noPhase_0 : decode cL_noPhase 0 = .ok (.aload_n 0, 1) := by decide +kernel
theorem dL_noPhase_1 : decode cL_noPhase 1 = .ok (.iload_n 1, 1) := by decide +kernel
theorem dL_noPhase_2 : decode cL_noPhase 2 = .ok (.invokevirtual 113, 3) := by decide +kernel
theorem dL_noPhase_5 : decode cL_noPhase 5 = .ok (.pop, 1) := by decide +kernel
theorem dL_noPhase_6 : decode cL_noPhase 6 = .ok (.iconst 0, 1) := by decide +kernel
theorem dL_noPhase_7 : decode cL_noPhase 7 = .ok (.ireturn, 1) := by decide +kernel
theorem dL_noPhase_8 : decode cL_noPhase 8 = .ok (.astore_n 2, 1) := by decide +kernel
theorem dL_noPhase_9 : decode cL_noPhase 9 = .ok (.iconst 1, 1) := by decide +kernel
theorem dL_noPhase_10 : decode cL_noPhase 10 = .ok (.ireturn, 1) := by decide +kernel
theorem dL_noRate_0 : decode cL_noRate 0 = .ok (.aload_n 0, 1) := by decide +kernel
theorem dL_noRate_1 : decode cL_noRate 1 = .ok (.iload_n 1, 1) := by decide +kernel
theorem dL_noRate_2 : decode cL_noRate 2 = .ok (.invokevirtual 119, 3) := by decide +kernel
theorem dL_noRate_5 : decode cL_noRate 5 = .ok (.pop, 1) := by decide +kernel
theorem dL_noRate_6 : decode cL_noRate 6 = .ok (.iconst 0, 1) := by decide +kernel
theorem dL_noRate_7 : decode cL_noRate 7 = .ok (.ireturn, 1) := by decide +kernel
theorem dL_noRate_8 : decode cL_noRate 8 = .ok (.astore_n 2, 1) := by decide +kernel
theorem dL_noRate_9 : decode cL_noRate 9 = .ok (.iconst 1, 1) := by decide +kernel
theorem dL_noRate_10 : decode cL_noRate 10 = .ok (.ireturn, 1) := by decide +kernel
theorem dL_noCharacter_0 : decode cL_noCharacter 0 = .ok (.aload_n 0, 1) := by decide +kernel
theorem dL_noCharacter_1 : decode cL_noCharacter 1 = .ok (.iload_n 1, 1) := by decide +kernel
theorem dL_noCharacter_2 : decode cL_noCharacter 2 = .ok (.iconst 0, 1) := by decide +kernel
theorem dL_noCharacter_3 : decode cL_noCharacter 3 = .ok (.invokevirtual 145, 3) := by decide +kernel
theorem dL_noCharacter_6 : decode cL_noCharacter 6 = .ok (.pop, 1) := by decide +kernel
theorem dL_noCharacter_7 : decode cL_noCharacter 7 = .ok (.iconst 0, 1) := by decide +kernel
theorem dL_noCharacter_8 : decode cL_noCharacter 8 = .ok (.ireturn, 1) := by decide +kernel
theorem dL_noCharacter_9 : decode cL_noCharacter 9 = .ok (.astore_n 2, 1) := by decide +kernel
theorem dL_noCharacter_10 : decode cL_noCharacter 10 = .ok (.iconst 1, 1) := by decide +kernel
theorem dL_noCharacter_11 : decode cL_noCharacter 11 = .ok (.ireturn, 1) := by decide +kernel
theorem dL_noLine_0 : decode cL_noLine 0 = .ok (.aload_n 0, 1) := by decide +kernel
theorem dL_noLine_1 : decode cL_noLine 1 = .ok (.iconst 0, 1) := by decide +kernel
theorem dL_noLine_2 : decode cL_noLine 2 = .ok (.iload_n 1, 1) := by decide +kernel
theorem dL_noLine_3 : decode cL_noLine 3 = .ok (.invokevirtual 149, 3) := by decide +kernel
theorem dL_noLine_6 : decode cL_noLine 6 = .ok (.pop, 1) := by decide +kernel
theorem dL_noLine_7 : decode cL_noLine 7 = .ok (.iconst 0, 1) := by decide +kernel
theorem dL_noLine_8 : decode cL_noLine 8 = .ok (.ireturn, 1) := by decide +kernel
theorem dL_noLine_9 : decode cL_noLine 9 = .ok (.astore_n 2, 1) := by decide +kernel
theorem dL_noLine_10 : decode cL_noLine 10 = .ok (.iconst 1, 1) := by decide +kernel
theorem dL_noLine_11 : decode cL_noLine 11 = .ok (.ireturn, 1) := by decide +kernel
theorem dL_noPulse_0 : decode cL_noPulse 0 = .ok (.aload_n 0, 1) := by decide +kernel
theorem dL_noPulse_1 : decode cL_noPulse 1 = .ok (.iconst 0, 1) := by decide +kernel
theorem dL_noPulse_2 : decode cL_noPulse 2 = .ok (.iconst 0, 1) := by decide +kernel
theorem dL_noPulse_3 : decode cL_noPulse 3 = .ok (.iload_n 1, 1) := by decide +kernel
theorem dL_noPulse_4 : decode cL_noPulse 4 = .ok (.invokevirtual 155, 3) := by decide +kernel
theorem dL_noPulse_7 : decode cL_noPulse 7 = .ok (.pop, 1) := by decide +kernel
theorem dL_noPulse_8 : decode cL_noPulse 8 = .ok (.iconst 0, 1) := by decide +kernel
theorem dL_noPulse_9 : decode cL_noPulse 9 = .ok (.ireturn, 1) := by decide +kernel
theorem dL_noPulse_10 : decode cL_noPulse 10 = .ok (.astore_n 2, 1) := by decide +kernel
theorem dL_noPulse_11 : decode cL_noPulse 11 = .ok (.iconst 1, 1) := by decide +kernel
theorem dL_noPulse_12 : decode cL_noPulse 12 = .ok (.ireturn, 1) := by decide +kernel
theorem dL_noReceived_0 : decode cL_noReceived 0 = .ok (.aload_n 0, 1) := by decide +kernel
theorem dL_noReceived_1 : decode cL_noReceived 1 = .ok (.iconst 1, 1) := by decide +kernel
theorem dL_noReceived_2 : decode cL_noReceived 2 = .ok (.iload_n 1, 1) := by decide +kernel
theorem dL_noReceived_3 : decode cL_noReceived 3 = .ok (.invokevirtual 164, 3) := by decide +kernel
theorem dL_noReceived_6 : decode cL_noReceived 6 = .ok (.pop, 1) := by decide +kernel
theorem dL_noReceived_7 : decode cL_noReceived 7 = .ok (.iconst 0, 1) := by decide +kernel
theorem dL_noReceived_8 : decode cL_noReceived 8 = .ok (.ireturn, 1) := by decide +kernel
theorem dL_noReceived_9 : decode cL_noReceived 9 = .ok (.astore_n 2, 1) := by decide +kernel
theorem dL_noReceived_10 : decode cL_noReceived 10 = .ok (.iconst 1, 1) := by decide +kernel
theorem dL_noReceived_11 : decode cL_noReceived 11 = .ok (.ireturn, 1) := by decide +kernel
theorem dL_noEvent_0 : decode cL_noEvent 0 = .ok (.aload_n 0, 1) := by decide +kernel
theorem dL_noEvent_1 : decode cL_noEvent 1 = .ok (.iload_n 1, 1) := by decide +kernel
theorem dL_noEvent_2 : decode cL_noEvent 2 = .ok (.iconst 3, 1) := by decide +kernel
theorem dL_noEvent_3 : decode cL_noEvent 3 = .ok (.invokevirtual 168, 3) := by decide +kernel
theorem dL_noEvent_6 : decode cL_noEvent 6 = .ok (.pop, 1) := by decide +kernel
theorem dL_noEvent_7 : decode cL_noEvent 7 = .ok (.iconst 0, 1) := by decide +kernel
theorem dL_noEvent_8 : decode cL_noEvent 8 = .ok (.ireturn, 1) := by decide +kernel
theorem dL_noEvent_9 : decode cL_noEvent 9 = .ok (.astore_n 2, 1) := by decide +kernel
theorem dL_noEvent_10 : decode cL_noEvent 10 = .ok (.iconst 1, 1) := by decide +kernel
theorem dL_noEvent_11 : decode cL_noEvent 11 = .ok (.ireturn, 1) := by decide +kernel
theorem dL_noBuffer_0 : decode cL_noBuffer 0 = .ok (.aload_n 0, 1) := by decide +kernel
theorem dL_noBuffer_1 : decode cL_noBuffer 1 = .ok (.iload_n 1, 1) := by decide +kernel
theorem dL_noBuffer_2 : decode cL_noBuffer 2 = .ok (.invokevirtual 171, 3) := by decide +kernel
theorem dL_noBuffer_5 : decode cL_noBuffer 5 = .ok (.pop, 1) := by decide +kernel
theorem dL_noBuffer_6 : decode cL_noBuffer 6 = .ok (.iconst 0, 1) := by decide +kernel
theorem dL_noBuffer_7 : decode cL_noBuffer 7 = .ok (.ireturn, 1) := by decide +kernel
theorem dL_noBuffer_8 : decode cL_noBuffer 8 = .ok (.astore_n 2, 1) := by decide +kernel
theorem dL_noBuffer_9 : decode cL_noBuffer 9 = .ok (.iconst 1, 1) := by decide +kernel
theorem dL_noBuffer_10 : decode cL_noBuffer 10 = .ok (.ireturn, 1) := by decide +kernel
theorem dL_noFormatted_0 : decode cL_noFormatted 0 = .ok (.aload_n 0, 1) := by decide +kernel
theorem dL_noFormatted_1 : decode cL_noFormatted 1 = .ok (.iload_n 1, 1) := by decide +kernel
theorem dL_noFormatted_2 : decode cL_noFormatted 2 = .ok (.invokevirtual 174, 3) := by decide +kernel
theorem dL_noFormatted_5 : decode cL_noFormatted 5 = .ok (.pop, 1) := by decide +kernel
theorem dL_noFormatted_6 : decode cL_noFormatted 6 = .ok (.iconst 0, 1) := by decide +kernel
theorem dL_noFormatted_7 : decode cL_noFormatted 7 = .ok (.ireturn, 1) := by decide +kernel
theorem dL_noFormatted_8 : decode cL_noFormatted 8 = .ok (.astore_n 2, 1) := by decide +kernel
theorem dL_noFormatted_9 : decode cL_noFormatted 9 = .ok (.iconst 1, 1) := by decide +kernel
theorem dL_noFormatted_10 : decode cL_noFormatted 10 = .ok (.ireturn, 1) := by decide +kernel
theorem dL_areRefused_0 : decode cL_areRefused 0 = .ok (.aload_n 0, 1) := by decide +kernel
theorem dL_areRefused_1 : decode cL_areRefused 1 = .ok (.iconst 2, 1) := by decide +kernel
theorem dL_areRefused_2 : decode cL_areRefused 2 = .ok (.invokestatic 177, 3) := by decide +kernel
theorem dL_areRefused_5 : decode cL_areRefused 5 = .ok (.aload_n 0, 1) := by decide +kernel
theorem dL_areRefused_6 : decode cL_areRefused 6 = .ok (.iconst (-1), 1) := by decide +kernel
theorem dL_areRefused_7 : decode cL_areRefused 7 = .ok (.invokestatic 177, 3) := by decide +kernel
theorem dL_areRefused_10 : decode cL_areRefused 10 = .ok (.iadd, 1) := by decide +kernel
theorem dL_areRefused_11 : decode cL_areRefused 11 = .ok (.aload_n 0, 1) := by decide +kernel
theorem dL_areRefused_12 : decode cL_areRefused 12 = .ok (.iconst 2, 1) := by decide +kernel
theorem dL_areRefused_13 : decode cL_areRefused 13 = .ok (.invokestatic 181, 3) := by decide +kernel
theorem dL_areRefused_16 : decode cL_areRefused 16 = .ok (.iadd, 1) := by decide +kernel
theorem dL_areRefused_17 : decode cL_areRefused 17 = .ok (.istore_n 2, 1) := by decide +kernel
theorem dL_areRefused_18 : decode cL_areRefused 18 = .ok (.aload_n 0, 1) := by decide +kernel
theorem dL_areRefused_19 : decode cL_areRefused 19 = .ok (.iconst 1, 1) := by decide +kernel
theorem dL_areRefused_20 : decode cL_areRefused 20 = .ok (.invokestatic 184, 3) := by decide +kernel
theorem dL_areRefused_23 : decode cL_areRefused 23 = .ok (.aload_n 0, 1) := by decide +kernel
theorem dL_areRefused_24 : decode cL_areRefused 24 = .ok (.aload_n 1, 1) := by decide +kernel
theorem dL_areRefused_25 : decode cL_areRefused 25 = .ok (.invokestatic 46, 3) := by decide +kernel
theorem dL_areRefused_28 : decode cL_areRefused 28 = .ok (.invokestatic 184, 3) := by decide +kernel
theorem dL_areRefused_31 : decode cL_areRefused 31 = .ok (.iadd, 1) := by decide +kernel
theorem dL_areRefused_32 : decode cL_areRefused 32 = .ok (.istore_n 3, 1) := by decide +kernel
theorem dL_areRefused_33 : decode cL_areRefused 33 = .ok (.aload_n 0, 1) := by decide +kernel
theorem dL_areRefused_34 : decode cL_areRefused 34 = .ok (.aload_n 1, 1) := by decide +kernel
theorem dL_areRefused_35 : decode cL_areRefused 35 = .ok (.invokestatic 96, 3) := by decide +kernel
theorem dL_areRefused_38 : decode cL_areRefused 38 = .ok (.invokestatic 187, 3) := by decide +kernel
theorem dL_areRefused_41 : decode cL_areRefused 41 = .ok (.aload_n 0, 1) := by decide +kernel
theorem dL_areRefused_42 : decode cL_areRefused 42 = .ok (.aload_n 0, 1) := by decide +kernel
theorem dL_areRefused_43 : decode cL_areRefused 43 = .ok (.iconst 0, 1) := by decide +kernel
theorem dL_areRefused_44 : decode cL_areRefused 44 = .ok (.iconst 0, 1) := by decide +kernel
theorem dL_areRefused_45 : decode cL_areRefused 45 = .ok (.invokevirtual 152, 3) := by decide +kernel
theorem dL_areRefused_48 : decode cL_areRefused 48 = .ok (.invokestatic 190, 3) := by decide +kernel
theorem dL_areRefused_51 : decode cL_areRefused 51 = .ok (.iadd, 1) := by decide +kernel
theorem dL_areRefused_52 : decode cL_areRefused 52 = .ok (.istore 4, 2) := by decide +kernel
theorem dL_areRefused_54 : decode cL_areRefused 54 = .ok (.iload_n 2, 1) := by decide +kernel
theorem dL_areRefused_55 : decode cL_areRefused 55 = .ok (.iconst 3, 1) := by decide +kernel
theorem dL_areRefused_56 : decode cL_areRefused 56 = .ok (.if_icmp .ne 54, 3) := by decide +kernel
theorem dL_areRefused_59 : decode cL_areRefused 59 = .ok (.iload_n 3, 1) := by decide +kernel
theorem dL_areRefused_60 : decode cL_areRefused 60 = .ok (.iconst 2, 1) := by decide +kernel
theorem dL_areRefused_61 : decode cL_areRefused 61 = .ok (.if_icmp .ne 49, 3) := by decide +kernel
theorem dL_areRefused_64 : decode cL_areRefused 64 = .ok (.iload 4, 2) := by decide +kernel
theorem dL_areRefused_66 : decode cL_areRefused 66 = .ok (.iconst 2, 1) := by decide +kernel
theorem dL_areRefused_67 : decode cL_areRefused 67 = .ok (.if_icmp .ne 43, 3) := by decide +kernel
theorem dL_areRefused_70 : decode cL_areRefused 70 = .ok (.aload_n 0, 1) := by decide +kernel
theorem dL_areRefused_71 : decode cL_areRefused 71 = .ok (.iconst 0, 1) := by decide +kernel
theorem dL_areRefused_72 : decode cL_areRefused 72 = .ok (.invokestatic 193, 3) := by decide +kernel
theorem dL_areRefused_75 : decode cL_areRefused 75 = .ok (.iconst 1, 1) := by decide +kernel
theorem dL_areRefused_76 : decode cL_areRefused 76 = .ok (.if_icmp .ne 34, 3) := by decide +kernel
theorem dL_areRefused_79 : decode cL_areRefused 79 = .ok (.aload_n 0, 1) := by decide +kernel
theorem dL_areRefused_80 : decode cL_areRefused 80 = .ok (.iconst 0, 1) := by decide +kernel
theorem dL_areRefused_81 : decode cL_areRefused 81 = .ok (.invokestatic 196, 3) := by decide +kernel
theorem dL_areRefused_84 : decode cL_areRefused 84 = .ok (.iconst 1, 1) := by decide +kernel
theorem dL_areRefused_85 : decode cL_areRefused 85 = .ok (.if_icmp .ne 25, 3) := by decide +kernel
theorem dL_areRefused_88 : decode cL_areRefused 88 = .ok (.aload_n 0, 1) := by decide +kernel
theorem dL_areRefused_89 : decode cL_areRefused 89 = .ok (.iconst 0, 1) := by decide +kernel
theorem dL_areRefused_90 : decode cL_areRefused 90 = .ok (.invokestatic 199, 3) := by decide +kernel
theorem dL_areRefused_93 : decode cL_areRefused 93 = .ok (.iconst 1, 1) := by decide +kernel
theorem dL_areRefused_94 : decode cL_areRefused 94 = .ok (.if_icmp .ne 16, 3) := by decide +kernel
theorem dL_areRefused_97 : decode cL_areRefused 97 = .ok (.aload_n 0, 1) := by decide +kernel
theorem dL_areRefused_98 : decode cL_areRefused 98 = .ok (.iconst 0, 1) := by decide +kernel
theorem dL_areRefused_99 : decode cL_areRefused 99 = .ok (.invokestatic 202, 3) := by decide +kernel
theorem dL_areRefused_102 : decode cL_areRefused 102 = .ok (.iconst 1, 1) := by decide +kernel
theorem dL_areRefused_103 : decode cL_areRefused 103 = .ok (.if_icmp .ne 7, 3) := by decide +kernel
theorem dL_areRefused_106 : decode cL_areRefused 106 = .ok (.iconst 1, 1) := by decide +kernel
theorem dL_areRefused_107 : decode cL_areRefused 107 = .ok (.goto 4, 3) := by decide +kernel
theorem dL_areRefused_110 : decode cL_areRefused 110 = .ok (.iconst 0, 1) := by decide +kernel
theorem dL_areRefused_111 : decode cL_areRefused 111 = .ok (.ireturn, 1) := by decide +kernel
theorem dL_law_0 : decode cL_law 0 = .ok (.new 19, 3) := by decide +kernel
theorem dL_law_3 : decode cL_law 3 = .ok (.dup, 1) := by decide +kernel
theorem dL_law_4 : decode cL_law 4 = .ok (.invokespecial 205, 3) := by decide +kernel
theorem dL_law_7 : decode cL_law 7 = .ok (.astore_n 1, 1) := by decide +kernel
theorem dL_law_8 : decode cL_law 8 = .ok (.aload_n 1, 1) := by decide +kernel
theorem dL_law_9 : decode cL_law 9 = .ok (.invokevirtual 206, 3) := by decide +kernel
theorem dL_law_12 : decode cL_law 12 = .ok (.bipush 28, 2) := by decide +kernel
theorem dL_law_14 : decode cL_law 14 = .ok (.if_icmp .ne 37, 3) := by decide +kernel
theorem dL_law_17 : decode cL_law 17 = .ok (.aload_n 1, 1) := by decide +kernel
theorem dL_law_18 : decode cL_law 18 = .ok (.invokevirtual 116, 3) := by decide +kernel
theorem dL_law_21 : decode cL_law 21 = .ok (.ifCond .ne 30, 3) := by decide +kernel
theorem dL_law_24 : decode cL_law 24 = .ok (.aload_n 1, 1) := by decide +kernel
theorem dL_law_25 : decode cL_law 25 = .ok (.invokevirtual 208, 3) := by decide +kernel
theorem dL_law_28 : decode cL_law 28 = .ok (.iconst (-1), 1) := by decide +kernel
theorem dL_law_29 : decode cL_law 29 = .ok (.if_icmp .ne 22, 3) := by decide +kernel
theorem dL_law_32 : decode cL_law 32 = .ok (.aload_n 1, 1) := by decide +kernel
theorem dL_law_33 : decode cL_law 33 = .ok (.iconst 0, 1) := by decide +kernel
theorem dL_law_34 : decode cL_law 34 = .ok (.invokevirtual 211, 3) := by decide +kernel
theorem dL_law_37 : decode cL_law 37 = .ok (.iconst (-1), 1) := by decide +kernel
theorem dL_law_38 : decode cL_law 38 = .ok (.if_icmp .ne 13, 3) := by decide +kernel
theorem dL_law_41 : decode cL_law 41 = .ok (.aload_n 1, 1) := by decide +kernel
theorem dL_law_42 : decode cL_law 42 = .ok (.iconst 1, 1) := by decide +kernel
theorem dL_law_43 : decode cL_law 43 = .ok (.invokevirtual 214, 3) := by decide +kernel
theorem dL_law_46 : decode cL_law 46 = .ok (.dconst 0, 1) := by decide +kernel
theorem dL_law_47 : decode cL_law 47 = .ok (.dcmp .l, 1) := by decide +kernel
theorem dL_law_48 : decode cL_law 48 = .ok (.ifCond .eq 5, 3) := by decide +kernel
theorem dL_law_51 : decode cL_law 51 = .ok (.iconst 0, 1) := by decide +kernel
theorem dL_law_52 : decode cL_law 52 = .ok (.ireturn, 1) := by decide +kernel
theorem dL_law_53 : decode cL_law 53 = .ok (.bipush 10, 2) := by decide +kernel
theorem dL_law_55 : decode cL_law 55 = .ok (.aload_n 0, 1) := by decide +kernel
theorem dL_law_56 : decode cL_law 56 = .ok (.bipush 7, 2) := by decide +kernel
theorem dL_law_58 : decode cL_law 58 = .ok (.invokestatic 38, 3) := by decide +kernel
theorem dL_law_61 : decode cL_law 61 = .ok (.sipush 990, 3) := by decide +kernel
theorem dL_law_64 : decode cL_law 64 = .ok (.invokestatic 42, 3) := by decide +kernel
theorem dL_law_67 : decode cL_law 67 = .ok (.iadd, 1) := by decide +kernel
theorem dL_law_68 : decode cL_law 68 = .ok (.istore_n 2, 1) := by decide +kernel
theorem dL_law_69 : decode cL_law 69 = .ok (.aload_n 1, 1) := by decide +kernel
theorem dL_law_70 : decode cL_law 70 = .ok (.aload_n 0, 1) := by decide +kernel
theorem dL_law_71 : decode cL_law 71 = .ok (.iload_n 2, 1) := by decide +kernel
theorem dL_law_72 : decode cL_law 72 = .ok (.invokestatic 218, 3) := by decide +kernel
theorem dL_law_75 : decode cL_law 75 = .ok (.invokestatic 221, 3) := by decide +kernel
theorem dL_law_78 : decode cL_law 78 = .ok (.aload_n 0, 1) := by decide +kernel
theorem dL_law_79 : decode cL_law 79 = .ok (.invokestatic 96, 3) := by decide +kernel
theorem dL_law_82 : decode cL_law 82 = .ok (.if_icmp .ne 34, 3) := by decide +kernel
theorem dL_law_85 : decode cL_law 85 = .ok (.aload_n 1, 1) := by decide +kernel
theorem dL_law_86 : decode cL_law 86 = .ok (.invokevirtual 206, 3) := by decide +kernel
theorem dL_law_89 : decode cL_law 89 = .ok (.aload_n 0, 1) := by decide +kernel
theorem dL_law_90 : decode cL_law 90 = .ok (.invokestatic 46, 3) := by decide +kernel
theorem dL_law_93 : decode cL_law 93 = .ok (.if_icmp .ne 23, 3) := by decide +kernel
theorem dL_law_96 : decode cL_law 96 = .ok (.aload_n 1, 1) := by decide +kernel
theorem dL_law_97 : decode cL_law 97 = .ok (.iconst 0, 1) := by decide +kernel
theorem dL_law_98 : decode cL_law 98 = .ok (.invokevirtual 223, 3) := by decide +kernel
theorem dL_law_101 : decode cL_law 101 = .ok (.aload_n 0, 1) := by decide +kernel
theorem dL_law_102 : decode cL_law 102 = .ok (.invokestatic 96, 3) := by decide +kernel
theorem dL_law_105 : decode cL_law 105 = .ok (.if_icmp .ne 11, 3) := by decide +kernel
theorem dL_law_108 : decode cL_law 108 = .ok (.aload_n 1, 1) := by decide +kernel
theorem dL_law_109 : decode cL_law 109 = .ok (.iconst 1, 1) := by decide +kernel
theorem dL_law_110 : decode cL_law 110 = .ok (.invokevirtual 223, 3) := by decide +kernel
theorem dL_law_113 : decode cL_law 113 = .ok (.ifCond .eq 5, 3) := by decide +kernel
theorem dL_law_116 : decode cL_law 116 = .ok (.iconst 0, 1) := by decide +kernel
theorem dL_law_117 : decode cL_law 117 = .ok (.ireturn, 1) := by decide +kernel
theorem dL_law_118 : decode cL_law 118 = .ok (.aload_n 1, 1) := by decide +kernel
theorem dL_law_119 : decode cL_law 119 = .ok (.aload_n 0, 1) := by decide +kernel
theorem dL_law_120 : decode cL_law 120 = .ok (.invokestatic 226, 3) := by decide +kernel
theorem dL_law_123 : decode cL_law 123 = .ok (.ifCond .eq 12, 3) := by decide +kernel
theorem dL_law_126 : decode cL_law 126 = .ok (.aload_n 1, 1) := by decide +kernel
theorem dL_law_127 : decode cL_law 127 = .ok (.aload_n 0, 1) := by decide +kernel
theorem dL_law_128 : decode cL_law 128 = .ok (.iload_n 2, 1) := by decide +kernel
theorem dL_law_129 : decode cL_law 129 = .ok (.invokestatic 230, 3) := by decide +kernel
theorem dL_law_132 : decode cL_law 132 = .ok (.ifCond .ne 5, 3) := by decide +kernel
theorem dL_law_135 : decode cL_law 135 = .ok (.iconst 0, 1) := by decide +kernel
theorem dL_law_136 : decode cL_law 136 = .ok (.ireturn, 1) := by decide +kernel
theorem dL_law_137 : decode cL_law 137 = .ok (.iconst 0, 1) := by decide +kernel
theorem dL_law_138 : decode cL_law 138 = .ok (.istore_n 3, 1) := by decide +kernel
theorem dL_law_139 : decode cL_law 139 = .ok (.iconst 0, 1) := by decide +kernel
theorem dL_law_140 : decode cL_law 140 = .ok (.istore 4, 2) := by decide +kernel
theorem dL_law_142 : decode cL_law 142 = .ok (.iload 4, 2) := by decide +kernel
theorem dL_law_144 : decode cL_law 144 = .ok (.aload_n 0, 1) := by decide +kernel
theorem dL_law_145 : decode cL_law 145 = .ok (.invokestatic 96, 3) := by decide +kernel
theorem dL_law_148 : decode cL_law 148 = .ok (.if_icmp .ge 40, 3) := by decide +kernel
theorem dL_law_151 : decode cL_law 151 = .ok (.aload_n 1, 1) := by decide +kernel
theorem dL_law_152 : decode cL_law 152 = .ok (.aload_n 0, 1) := by decide +kernel
theorem dL_law_153 : decode cL_law 153 = .ok (.iload 4, 2) := by decide +kernel
theorem dL_law_155 : decode cL_law 155 = .ok (.invokestatic 234, 3) := by decide +kernel
theorem dL_law_158 : decode cL_law 158 = .ok (.ifCond .ne 5, 3) := by decide +kernel
theorem dL_law_161 : decode cL_law 161 = .ok (.iconst 0, 1) := by decide +kernel
theorem dL_law_162 : decode cL_law 162 = .ok (.ireturn, 1) := by decide +kernel
theorem dL_law_163 : decode cL_law 163 = .ok (.aload_n 1, 1) := by decide +kernel
theorem dL_law_164 : decode cL_law 164 = .ok (.iconst 0, 1) := by decide +kernel
theorem dL_law_165 : decode cL_law 165 = .ok (.iload 4, 2) := by decide +kernel
theorem dL_law_167 : decode cL_law 167 = .ok (.invokevirtual 159, 3) := by decide +kernel
theorem dL_law_170 : decode cL_law 170 = .ok (.aload_n 1, 1) := by decide +kernel
theorem dL_law_171 : decode cL_law 171 = .ok (.iconst 0, 1) := by decide +kernel
theorem dL_law_172 : decode cL_law 172 = .ok (.iload_n 3, 1) := by decide +kernel
theorem dL_law_173 : decode cL_law 173 = .ok (.invokevirtual 159, 3) := by decide +kernel
theorem dL_law_176 : decode cL_law 176 = .ok (.if_icmp .le 6, 3) := by decide +kernel
theorem dL_law_179 : decode cL_law 179 = .ok (.iload 4, 2) := by decide +kernel
theorem dL_law_181 : decode cL_law 181 = .ok (.istore_n 3, 1) := by decide +kernel
theorem dL_law_182 : decode cL_law 182 = .ok (.iinc 4 1, 3) := by decide +kernel
theorem dL_law_185 : decode cL_law 185 = .ok (.goto (-43), 3) := by decide +kernel
theorem dL_law_188 : decode cL_law 188 = .ok (.aload_n 1, 1) := by decide +kernel
theorem dL_law_189 : decode cL_law 189 = .ok (.iconst 0, 1) := by decide +kernel
theorem dL_law_190 : decode cL_law 190 = .ok (.invokevirtual 211, 3) := by decide +kernel
theorem dL_law_193 : decode cL_law 193 = .ok (.iload_n 3, 1) := by decide +kernel
theorem dL_law_194 : decode cL_law 194 = .ok (.if_icmp .ne 30, 3) := by decide +kernel
theorem dL_law_197 : decode cL_law 197 = .ok (.aload_n 1, 1) := by decide +kernel
theorem dL_law_198 : decode cL_law 198 = .ok (.iconst 0, 1) := by decide +kernel
theorem dL_law_199 : decode cL_law 199 = .ok (.invokevirtual 237, 3) := by decide +kernel
theorem dL_law_202 : decode cL_law 202 = .ok (.ifCond .ne 22, 3) := by decide +kernel
theorem dL_law_205 : decode cL_law 205 = .ok (.aload_n 1, 1) := by decide +kernel
theorem dL_law_206 : decode cL_law 206 = .ok (.iconst 1, 1) := by decide +kernel
theorem dL_law_207 : decode cL_law 207 = .ok (.invokevirtual 240, 3) := by decide +kernel
theorem dL_law_210 : decode cL_law 210 = .ok (.ifCond .ne 14, 3) := by decide +kernel
theorem dL_law_213 : decode cL_law 213 = .ok (.aload_n 1, 1) := by decide +kernel
theorem dL_law_214 : decode cL_law 214 = .ok (.invokevirtual 243, 3) := by decide +kernel
theorem dL_law_217 : decode cL_law 217 = .ok (.ifCond .ne 7, 3) := by decide +kernel
theorem dL_law_220 : decode cL_law 220 = .ok (.iconst 1, 1) := by decide +kernel
theorem dL_law_221 : decode cL_law 221 = .ok (.goto 4, 3) := by decide +kernel
theorem dL_law_224 : decode cL_law 224 = .ok (.iconst 0, 1) := by decide +kernel
theorem dL_law_225 : decode cL_law 225 = .ok (.ireturn, 1) := by decide +kernel
