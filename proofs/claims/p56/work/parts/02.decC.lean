theorem dX0_init_0 : decode cX0_init 0 = .ok (.aload_n 0, 1) := by decide +kernel
theorem dX0_init_1 : decode cX0_init 1 = .ok (.invokespecial 3, 3) := by decide +kernel
theorem dX0_init_4 : decode cX0_init 4 = .ok (.aload_n 0, 1) := by decide +kernel
theorem dX0_init_5 : decode cX0_init 5 = .ok (.bipush 12, 2) := by decide +kernel
theorem dX0_init_7 : decode cX0_init 7 = .ok (.anewarray 9, 3) := by decide +kernel
theorem dX0_init_10 : decode cX0_init 10 = .ok (.putfield 11, 3) := by decide +kernel
theorem dX0_init_13 : decode cX0_init 13 = .ok (.iconst 0, 1) := by decide +kernel
theorem dX0_init_14 : decode cX0_init 14 = .ok (.istore_n 1, 1) := by decide +kernel
theorem dX0_init_15 : decode cX0_init 15 = .ok (.iload_n 1, 1) := by decide +kernel
theorem dX0_init_16 : decode cX0_init 16 = .ok (.aload_n 0, 1) := by decide +kernel
theorem dX0_init_17 : decode cX0_init 17 = .ok (.getfield 11, 3) := by decide +kernel
theorem dX0_init_20 : decode cX0_init 20 = .ok (.arraylength, 1) := by decide +kernel
theorem dX0_init_21 : decode cX0_init 21 = .ok (.if_icmp .ge 22, 3) := by decide +kernel
theorem dX0_init_24 : decode cX0_init 24 = .ok (.aload_n 0, 1) := by decide +kernel
theorem dX0_init_25 : decode cX0_init 25 = .ok (.getfield 11, 3) := by decide +kernel
theorem dX0_init_28 : decode cX0_init 28 = .ok (.iload_n 1, 1) := by decide +kernel
theorem dX0_init_29 : decode cX0_init 29 = .ok (.new 9, 3) := by decide +kernel
theorem dX0_init_32 : decode cX0_init 32 = .ok (.dup, 1) := by decide +kernel
theorem dX0_init_33 : decode cX0_init 33 = .ok (.invokespecial 17, 3) := by decide +kernel
theorem dX0_init_36 : decode cX0_init 36 = .ok (.aastore, 1) := by decide +kernel
theorem dX0_init_37 : decode cX0_init 37 = .ok (.iinc 1 1, 3) := by decide +kernel
theorem dX0_init_40 : decode cX0_init 40 = .ok (.goto (-25), 3) := by decide +kernel
theorem dX0_init_43 : decode cX0_init 43 = .ok (.return_, 1) := by decide +kernel
theorem dX0_reset_0 : decode cX0_reset 0 = .ok (.aload_n 0, 1) := by decide +kernel
theorem dX0_reset_1 : decode cX0_reset 1 = .ok (.iconst 0, 1) := by decide +kernel
theorem dX0_reset_2 : decode cX0_reset 2 = .ok (.putfield 18, 3) := by decide +kernel
theorem dX0_reset_5 : decode cX0_reset 5 = .ok (.aload_n 0, 1) := by decide +kernel
theorem dX0_reset_6 : decode cX0_reset 6 = .ok (.bipush 100, 2) := by decide +kernel
theorem dX0_reset_8 : decode cX0_reset 8 = .ok (.putfield 22, 3) := by decide +kernel
theorem dX0_reset_11 : decode cX0_reset 11 = .ok (.aload_n 0, 1) := by decide +kernel
theorem dX0_reset_12 : decode cX0_reset 12 = .ok (.iconst 0, 1) := by decide +kernel
theorem dX0_reset_13 : decode cX0_reset 13 = .ok (.putfield 25, 3) := by decide +kernel
theorem dX0_reset_16 : decode cX0_reset 16 = .ok (.return_, 1) := by decide +kernel
theorem dX0_line_0 : decode cX0_line 0 = .ok (.iload_n 1, 1) := by decide +kernel
theorem dX0_line_1 : decode cX0_line 1 = .ok (.ifCond .lt 29, 3) := by decide +kernel
theorem dX0_line_4 : decode cX0_line 4 = .ok (.iload_n 1, 1) := by decide +kernel
theorem dX0_line_5 : decode cX0_line 5 = .ok (.aload_n 0, 1) := by decide +kernel
theorem dX0_line_6 : decode cX0_line 6 = .ok (.getfield 25, 3) := by decide +kernel
theorem dX0_line_9 : decode cX0_line 9 = .ok (.if_icmp .ge 21, 3) := by decide +kernel
theorem dX0_line_12 : decode cX0_line 12 = .ok (.iload_n 1, 1) := by decide +kernel
theorem dX0_line_13 : decode cX0_line 13 = .ok (.aload_n 0, 1) := by decide +kernel
theorem dX0_line_14 : decode cX0_line 14 = .ok (.getfield 11, 3) := by decide +kernel
theorem dX0_line_17 : decode cX0_line 17 = .ok (.arraylength, 1) := by decide +kernel
theorem dX0_line_18 : decode cX0_line 18 = .ok (.if_icmp .ge 12, 3) := by decide +kernel
theorem dX0_line_21 : decode cX0_line 21 = .ok (.aload_n 0, 1) := by decide +kernel
theorem dX0_line_22 : decode cX0_line 22 = .ok (.getfield 11, 3) := by decide +kernel
theorem dX0_line_25 : decode cX0_line 25 = .ok (.iload_n 1, 1) := by decide +kernel
theorem dX0_line_26 : decode cX0_line 26 = .ok (.aaload, 1) := by decide +kernel
theorem dX0_line_27 : decode cX0_line 27 = .ok (.goto 4, 3) := by decide +kernel
theorem dX0_line_30 : decode cX0_line 30 = .ok (.aconst_null, 1) := by decide +kernel
theorem dX0_line_31 : decode cX0_line 31 = .ok (.areturn, 1) := by decide +kernel
theorem dX0_addLine_0 : decode cX0_addLine 0 = .ok (.aload_n 0, 1) := by decide +kernel
theorem dX0_addLine_1 : decode cX0_addLine 1 = .ok (.getfield 25, 3) := by decide +kernel
theorem dX0_addLine_4 : decode cX0_addLine 4 = .ok (.aload_n 0, 1) := by decide +kernel
theorem dX0_addLine_5 : decode cX0_addLine 5 = .ok (.getfield 11, 3) := by decide +kernel
theorem dX0_addLine_8 : decode cX0_addLine 8 = .ok (.arraylength, 1) := by decide +kernel
theorem dX0_addLine_9 : decode cX0_addLine 9 = .ok (.if_icmp .lt 5, 3) := by decide +kernel
theorem dX0_addLine_12 : decode cX0_addLine 12 = .ok (.iconst 0, 1) := by decide +kernel
theorem dX0_addLine_13 : decode cX0_addLine 13 = .ok (.ireturn, 1) := by decide +kernel
theorem dX0_addLine_14 : decode cX0_addLine 14 = .ok (.aload_n 0, 1) := by decide +kernel
theorem dX0_addLine_15 : decode cX0_addLine 15 = .ok (.dup, 1) := by decide +kernel
theorem dX0_addLine_16 : decode cX0_addLine 16 = .ok (.getfield 25, 3) := by decide +kernel
theorem dX0_addLine_19 : decode cX0_addLine 19 = .ok (.iconst 1, 1) := by decide +kernel
theorem dX0_addLine_20 : decode cX0_addLine 20 = .ok (.iadd, 1) := by decide +kernel
theorem dX0_addLine_21 : decode cX0_addLine 21 = .ok (.putfield 25, 3) := by decide +kernel
theorem dX0_addLine_24 : decode cX0_addLine 24 = .ok (.aload_n 0, 1) := by decide +kernel
theorem dX0_addLine_25 : decode cX0_addLine 25 = .ok (.aload_n 0, 1) := by decide +kernel
theorem dX0_addLine_26 : decode cX0_addLine 26 = .ok (.getfield 25, 3) := by decide +kernel
theorem dX0_addLine_29 : decode cX0_addLine 29 = .ok (.iconst 1, 1) := by decide +kernel
theorem dX0_addLine_30 : decode cX0_addLine 30 = .ok (.isub, 1) := by decide +kernel
theorem dX0_addLine_31 : decode cX0_addLine 31 = .ok (.invokevirtual 28, 3) := by decide +kernel
theorem dX0_addLine_34 : decode cX0_addLine 34 = .ok (.astore_n 1, 1) := by decide +kernel
theorem dX0_addLine_35 : decode cX0_addLine 35 = .ok (.aload_n 1, 1) := by decide +kernel
theorem dX0_addLine_36 : decode cX0_addLine 36 = .ok (.ifnull 10, 3) := by decide +kernel
theorem dX0_addLine_39 : decode cX0_addLine 39 = .ok (.aload_n 1, 1) := by decide +kernel
theorem dX0_addLine_40 : decode cX0_addLine 40 = .ok (.getfield 32, 3) := by decide +kernel
theorem dX0_addLine_43 : decode cX0_addLine 43 = .ok (.invokevirtual 36, 3) := by decide +kernel
theorem dX0_addLine_46 : decode cX0_addLine 46 = .ok (.iconst 1, 1) := by decide +kernel
theorem dX0_addLine_47 : decode cX0_addLine 47 = .ok (.ireturn, 1) := by decide +kernel
theorem dX0_encodeLines_0 : decode cX0_encodeLines 0 = .ok (.iconst 0, 1) := by decide +kernel
theorem dX0_encodeLines_1 : decode cX0_encodeLines 1 = .ok (.istore_n 2, 1) := by decide +kernel
theorem dX0_encodeLines_2 : decode cX0_encodeLines 2 = .ok (.iload_n 2, 1) := by decide +kernel
theorem dX0_encodeLines_3 : decode cX0_encodeLines 3 = .ok (.aload_n 0, 1) := by decide +kernel
theorem dX0_encodeLines_4 : decode cX0_encodeLines 4 = .ok (.getfield 25, 3) := by decide +kernel
theorem dX0_encodeLines_7 : decode cX0_encodeLines 7 = .ok (.if_icmp .ge 24, 3) := by decide +kernel
theorem dX0_encodeLines_10 : decode cX0_encodeLines 10 = .ok (.aload_n 0, 1) := by decide +kernel
theorem dX0_encodeLines_11 : decode cX0_encodeLines 11 = .ok (.iload_n 2, 1) := by decide +kernel
theorem dX0_encodeLines_12 : decode cX0_encodeLines 12 = .ok (.invokevirtual 28, 3) := by decide +kernel
theorem dX0_encodeLines_15 : decode cX0_encodeLines 15 = .ok (.astore_n 3, 1) := by decide +kernel
theorem dX0_encodeLines_16 : decode cX0_encodeLines 16 = .ok (.aload_n 3, 1) := by decide +kernel
theorem dX0_encodeLines_17 : decode cX0_encodeLines 17 = .ok (.ifnull 8, 3) := by decide +kernel
theorem dX0_encodeLines_20 : decode cX0_encodeLines 20 = .ok (.aload_n 3, 1) := by decide +kernel
theorem dX0_encodeLines_21 : decode cX0_encodeLines 21 = .ok (.iload_n 1, 1) := by decide +kernel
theorem dX0_encodeLines_22 : decode cX0_encodeLines 22 = .ok (.invokevirtual 41, 3) := by decide +kernel
theorem dX0_encodeLines_25 : decode cX0_encodeLines 25 = .ok (.iinc 2 1, 3) := by decide +kernel
theorem dX0_encodeLines_28 : decode cX0_encodeLines 28 = .ok (.goto (-26), 3) := by decide +kernel
theorem dX0_encodeLines_31 : decode cX0_encodeLines 31 = .ok (.return_, 1) := by decide +kernel
theorem dX1_init_0 : decode cX1_init 0 = .ok (.aload_n 0, 1) := by decide +kernel
theorem dX1_init_1 : decode cX1_init 1 = .ok (.invokespecial 1, 3) := by decide +kernel
theorem dX1_init_4 : decode cX1_init 4 = .ok (.aload_n 0, 1) := by decide +kernel
theorem dX1_init_5 : decode cX1_init 5 = .ok (.bipush 10, 2) := by decide +kernel
theorem dX1_init_7 : decode cX1_init 7 = .ok (.anewarray 9, 3) := by decide +kernel
theorem dX1_init_10 : decode cX1_init 10 = .ok (.putfield 11, 3) := by decide +kernel
theorem dX1_init_13 : decode cX1_init 13 = .ok (.iconst 0, 1) := by decide +kernel
theorem dX1_init_14 : decode cX1_init 14 = .ok (.istore_n 2, 1) := by decide +kernel
theorem dX1_init_15 : decode cX1_init 15 = .ok (.iload_n 2, 1) := by decide +kernel
theorem dX1_init_16 : decode cX1_init 16 = .ok (.aload_n 0, 1) := by decide +kernel
theorem dX1_init_17 : decode cX1_init 17 = .ok (.getfield 11, 3) := by decide +kernel
theorem dX1_init_20 : decode cX1_init 20 = .ok (.arraylength, 1) := by decide +kernel
theorem dX1_init_21 : decode cX1_init 21 = .ok (.if_icmp .ge 23, 3) := by decide +kernel
theorem dX1_init_24 : decode cX1_init 24 = .ok (.aload_n 0, 1) := by decide +kernel
theorem dX1_init_25 : decode cX1_init 25 = .ok (.getfield 11, 3) := by decide +kernel
theorem dX1_init_28 : decode cX1_init 28 = .ok (.iload_n 2, 1) := by decide +kernel
theorem dX1_init_29 : decode cX1_init 29 = .ok (.new 9, 3) := by decide +kernel
theorem dX1_init_32 : decode cX1_init 32 = .ok (.dup, 1) := by decide +kernel
theorem dX1_init_33 : decode cX1_init 33 = .ok (.aload_n 1, 1) := by decide +kernel
theorem dX1_init_34 : decode cX1_init 34 = .ok (.invokespecial 15, 3) := by decide +kernel
theorem dX1_init_37 : decode cX1_init 37 = .ok (.aastore, 1) := by decide +kernel
theorem dX1_init_38 : decode cX1_init 38 = .ok (.iinc 2 1, 3) := by decide +kernel
theorem dX1_init_41 : decode cX1_init 41 = .ok (.goto (-26), 3) := by decide +kernel
theorem dX1_init_44 : decode cX1_init 44 = .ok (.return_, 1) := by decide +kernel
theorem dX1_clear_0 : decode cX1_clear 0 = .ok (.aload_n 0, 1) := by decide +kernel
theorem dX1_clear_1 : decode cX1_clear 1 = .ok (.iconst 0, 1) := by decide +kernel
theorem dX1_clear_2 : decode cX1_clear 2 = .ok (.putfield 18, 3) := by decide +kernel
theorem dX1_clear_5 : decode cX1_clear 5 = .ok (.return_, 1) := by decide +kernel
theorem dX1_keep_0 : decode cX1_keep 0 = .ok (.aload_n 0, 1) := by decide +kernel
theorem dX1_keep_1 : decode cX1_keep 1 = .ok (.getfield 18, 3) := by decide +kernel
theorem dX1_keep_4 : decode cX1_keep 4 = .ok (.bipush 10, 2) := by decide +kernel
theorem dX1_keep_6 : decode cX1_keep 6 = .ok (.if_icmp .ne 26, 3) := by decide +kernel
theorem dX1_keep_9 : decode cX1_keep 9 = .ok (.aload_n 0, 1) := by decide +kernel
theorem dX1_keep_10 : decode cX1_keep 10 = .ok (.aload_n 0, 1) := by decide +kernel
theorem dX1_keep_11 : decode cX1_keep 11 = .ok (.getfield 22, 3) := by decide +kernel
theorem dX1_keep_14 : decode cX1_keep 14 = .ok (.iconst 1, 1) := by decide +kernel
theorem dX1_keep_15 : decode cX1_keep 15 = .ok (.iadd, 1) := by decide +kernel
theorem dX1_keep_16 : decode cX1_keep 16 = .ok (.bipush 10, 2) := by decide +kernel
theorem dX1_keep_18 : decode cX1_keep 18 = .ok (.irem, 1) := by decide +kernel
theorem dX1_keep_19 : decode cX1_keep 19 = .ok (.putfield 22, 3) := by decide +kernel
theorem dX1_keep_22 : decode cX1_keep 22 = .ok (.aload_n 0, 1) := by decide +kernel
theorem dX1_keep_23 : decode cX1_keep 23 = .ok (.dup, 1) := by decide +kernel
theorem dX1_keep_24 : decode cX1_keep 24 = .ok (.getfield 18, 3) := by decide +kernel
theorem dX1_keep_27 : decode cX1_keep 27 = .ok (.iconst 1, 1) := by decide +kernel
theorem dX1_keep_28 : decode cX1_keep 28 = .ok (.isub, 1) := by decide +kernel
theorem dX1_keep_29 : decode cX1_keep 29 = .ok (.putfield 18, 3) := by decide +kernel
theorem dX1_keep_32 : decode cX1_keep 32 = .ok (.aload_n 0, 1) := by decide +kernel
theorem dX1_keep_33 : decode cX1_keep 33 = .ok (.aload_n 0, 1) := by decide +kernel
theorem dX1_keep_34 : decode cX1_keep 34 = .ok (.getfield 18, 3) := by decide +kernel
theorem dX1_keep_37 : decode cX1_keep 37 = .ok (.invokevirtual 25, 3) := by decide +kernel
theorem dX1_keep_40 : decode cX1_keep 40 = .ok (.astore_n 2, 1) := by decide +kernel
theorem dX1_keep_41 : decode cX1_keep 41 = .ok (.aload_n 2, 1) := by decide +kernel
theorem dX1_keep_42 : decode cX1_keep 42 = .ok (.ifnull 18, 3) := by decide +kernel
theorem dX1_keep_45 : decode cX1_keep 45 = .ok (.aload_n 2, 1) := by decide +kernel
theorem dX1_keep_46 : decode cX1_keep 46 = .ok (.aload_n 1, 1) := by decide +kernel
theorem dX1_keep_47 : decode cX1_keep 47 = .ok (.invokevirtual 29, 3) := by decide +kernel
theorem dX1_keep_50 : decode cX1_keep 50 = .ok (.aload_n 0, 1) := by decide +kernel
theorem dX1_keep_51 : decode cX1_keep 51 = .ok (.dup, 1) := by decide +kernel
theorem dX1_keep_52 : decode cX1_keep 52 = .ok (.getfield 18, 3) := by decide +kernel
theorem dX1_keep_55 : decode cX1_keep 55 = .ok (.iconst 1, 1) := by decide +kernel
theorem dX1_keep_56 : decode cX1_keep 56 = .ok (.iadd, 1) := by decide +kernel
theorem dX1_keep_57 : decode cX1_keep 57 = .ok (.putfield 18, 3) := by decide +kernel
theorem dX1_keep_60 : decode cX1_keep 60 = .ok (.return_, 1) := by decide +kernel
theorem dX1_slot_0 : decode cX1_slot 0 = .ok (.aload_n 0, 1) := by decide +kernel
theorem dX1_slot_1 : decode cX1_slot 1 = .ok (.getfield 22, 3) := by decide +kernel
theorem dX1_slot_4 : decode cX1_slot 4 = .ok (.iload_n 1, 1) := by decide +kernel
theorem dX1_slot_5 : decode cX1_slot 5 = .ok (.iadd, 1) := by decide +kernel
theorem dX1_slot_6 : decode cX1_slot 6 = .ok (.bipush 10, 2) := by decide +kernel
theorem dX1_slot_8 : decode cX1_slot 8 = .ok (.irem, 1) := by decide +kernel
theorem dX1_slot_9 : decode cX1_slot 9 = .ok (.istore_n 2, 1) := by decide +kernel
theorem dX1_slot_10 : decode cX1_slot 10 = .ok (.iload_n 2, 1) := by decide +kernel
theorem dX1_slot_11 : decode cX1_slot 11 = .ok (.ifCond .lt 21, 3) := by decide +kernel
theorem dX1_slot_14 : decode cX1_slot 14 = .ok (.iload_n 2, 1) := by decide +kernel
theorem dX1_slot_15 : decode cX1_slot 15 = .ok (.aload_n 0, 1) := by decide +kernel
theorem dX1_slot_16 : decode cX1_slot 16 = .ok (.getfield 11, 3) := by decide +kernel
theorem dX1_slot_19 : decode cX1_slot 19 = .ok (.arraylength, 1) := by decide +kernel
theorem dX1_slot_20 : decode cX1_slot 20 = .ok (.if_icmp .ge 12, 3) := by decide +kernel
theorem dX1_slot_23 : decode cX1_slot 23 = .ok (.aload_n 0, 1) := by decide +kernel
theorem dX1_slot_24 : decode cX1_slot 24 = .ok (.getfield 11, 3) := by decide +kernel
theorem dX1_slot_27 : decode cX1_slot 27 = .ok (.iload_n 2, 1) := by decide +kernel
theorem dX1_slot_28 : decode cX1_slot 28 = .ok (.aaload, 1) := by decide +kernel
theorem dX1_slot_29 : decode cX1_slot 29 = .ok (.goto 4, 3) := by decide +kernel
theorem dX1_slot_32 : decode cX1_slot 32 = .ok (.aconst_null, 1) := by decide +kernel
theorem dX1_slot_33 : decode cX1_slot 33 = .ok (.areturn, 1) := by decide +kernel
theorem dX2_init_0 : decode cX2_init 0 = .ok (.aload_n 0, 1) := by decide +kernel
theorem dX2_init_1 : decode cX2_init 1 = .ok (.invokespecial 3, 3) := by decide +kernel
theorem dX2_init_4 : decode cX2_init 4 = .ok (.aload_n 0, 1) := by decide +kernel
theorem dX2_init_5 : decode cX2_init 5 = .ok (.new 9, 3) := by decide +kernel
theorem dX2_init_8 : decode cX2_init 8 = .ok (.dup, 1) := by decide +kernel
theorem dX2_init_9 : decode cX2_init 9 = .ok (.bipush 30, 2) := by decide +kernel
theorem dX2_init_11 : decode cX2_init 11 = .ok (.invokespecial 11, 3) := by decide +kernel
theorem dX2_init_14 : decode cX2_init 14 = .ok (.putfield 14, 3) := by decide +kernel
theorem dX2_init_17 : decode cX2_init 17 = .ok (.aload_n 0, 1) := by decide +kernel
theorem dX2_init_18 : decode cX2_init 18 = .ok (.new 9, 3) := by decide +kernel
theorem dX2_init_21 : decode cX2_init 21 = .ok (.dup, 1) := by decide +kernel
theorem dX2_init_22 : decode cX2_init 22 = .ok (.bipush 62, 2) := by decide +kernel
theorem dX2_init_24 : decode cX2_init 24 = .ok (.invokespecial 11, 3) := by decide +kernel
theorem dX2_init_27 : decode cX2_init 27 = .ok (.putfield 20, 3) := by decide +kernel
theorem dX2_init_30 : decode cX2_init 30 = .ok (.return_, 1) := by decide +kernel
theorem dX2_encode_0 : decode cX2_encode 0 = .ok (.aload_n 0, 1) := by decide +kernel
theorem dX2_encode_1 : decode cX2_encode 1 = .ok (.getfield 20, 3) := by decide +kernel
theorem dX2_encode_4 : decode cX2_encode 4 = .ok (.invokevirtual 23, 3) := by decide +kernel
theorem dX2_encode_7 : decode cX2_encode 7 = .ok (.iconst 0, 1) := by decide +kernel
theorem dX2_encode_8 : decode cX2_encode 8 = .ok (.istore_n 2, 1) := by decide +kernel
theorem dX2_encode_9 : decode cX2_encode 9 = .ok (.iconst 0, 1) := by decide +kernel
theorem dX2_encode_10 : decode cX2_encode 10 = .ok (.istore_n 3, 1) := by decide +kernel
theorem dX2_encode_11 : decode cX2_encode 11 = .ok (.iload_n 3, 1) := by decide +kernel
theorem dX2_encode_12 : decode cX2_encode 12 = .ok (.aload_n 0, 1) := by decide +kernel
theorem dX2_encode_13 : decode cX2_encode 13 = .ok (.getfield 14, 3) := by decide +kernel
theorem dX2_encode_16 : decode cX2_encode 16 = .ok (.invokevirtual 26, 3) := by decide +kernel
theorem dX2_encode_19 : decode cX2_encode 19 = .ok (.if_icmp .ge 65, 3) := by decide +kernel
theorem dX2_encode_22 : decode cX2_encode 22 = .ok (.aload_n 0, 1) := by decide +kernel
theorem dX2_encode_23 : decode cX2_encode 23 = .ok (.getfield 14, 3) := by decide +kernel
theorem dX2_encode_26 : decode cX2_encode 26 = .ok (.iload_n 3, 1) := by decide +kernel
theorem dX2_encode_27 : decode cX2_encode 27 = .ok (.invokevirtual 30, 3) := by decide +kernel
theorem dX2_encode_30 : decode cX2_encode 30 = .ok (.istore 4, 2) := by decide +kernel
theorem dX2_encode_32 : decode cX2_encode 32 = .ok (.iload 4, 2) := by decide +kernel
theorem dX2_encode_34 : decode cX2_encode 34 = .ok (.bipush 57, 2) := by decide +kernel
theorem dX2_encode_36 : decode cX2_encode 36 = .ok (.if_icmp .gt 7, 3) := by decide +kernel
theorem dX2_encode_39 : decode cX2_encode 39 = .ok (.iconst 1, 1) := by decide +kernel
theorem dX2_encode_40 : decode cX2_encode 40 = .ok (.goto 4, 3) := by decide +kernel
theorem dX2_encode_43 : decode cX2_encode 43 = .ok (.iconst 0, 1) := by decide +kernel
theorem dX2_encode_44 : decode cX2_encode 44 = .ok (.istore 5, 2) := by decide +kernel
theorem dX2_encode_46 : decode cX2_encode 46 = .ok (.iload_n 2, 1) := by decide +kernel
theorem dX2_encode_47 : decode cX2_encode 47 = .ok (.iload 5, 2) := by decide +kernel
theorem dX2_encode_49 : decode cX2_encode 49 = .ok (.if_icmp .eq 15, 3) := by decide +kernel
theorem dX2_encode_52 : decode cX2_encode 52 = .ok (.aload_n 0, 1) := by decide +kernel
theorem dX2_encode_53 : decode cX2_encode 53 = .ok (.getfield 20, 3) := by decide +kernel
theorem dX2_encode_56 : decode cX2_encode 56 = .ok (.iload 5, 2) := by decide +kernel
theorem dX2_encode_58 : decode cX2_encode 58 = .ok (.invokevirtual 34, 3) := by decide +kernel
theorem dX2_encode_61 : decode cX2_encode 61 = .ok (.iload 5, 2) := by decide +kernel
theorem dX2_encode_63 : decode cX2_encode 63 = .ok (.istore_n 2, 1) := by decide +kernel
theorem dX2_encode_64 : decode cX2_encode 64 = .ok (.aload_n 0, 1) := by decide +kernel
theorem dX2_encode_65 : decode cX2_encode 65 = .ok (.getfield 20, 3) := by decide +kernel
theorem dX2_encode_68 : decode cX2_encode 68 = .ok (.iconst 2, 1) := by decide +kernel
theorem dX2_encode_69 : decode cX2_encode 69 = .ok (.iload 4, 2) := by decide +kernel
theorem dX2_encode_71 : decode cX2_encode 71 = .ok (.invokestatic 37, 3) := by decide +kernel
theorem dX2_encode_74 : decode cX2_encode 74 = .ok (.iadd, 1) := by decide +kernel
theorem dX2_encode_75 : decode cX2_encode 75 = .ok (.invokevirtual 34, 3) := by decide +kernel
theorem dX2_encode_78 : decode cX2_encode 78 = .ok (.iinc 3 1, 3) := by decide +kernel
theorem dX2_encode_81 : decode cX2_encode 81 = .ok (.goto (-70), 3) := by decide +kernel
theorem dX2_encode_84 : decode cX2_encode 84 = .ok (.aload_n 0, 1) := by decide +kernel
theorem dX2_encode_85 : decode cX2_encode 85 = .ok (.getfield 20, 3) := by decide +kernel
theorem dX2_encode_88 : decode cX2_encode 88 = .ok (.invokevirtual 26, 3) := by decide +kernel
theorem dX2_encode_91 : decode cX2_encode 91 = .ok (.istore_n 3, 1) := by decide +kernel
theorem dX2_encode_92 : decode cX2_encode 92 = .ok (.aload_n 0, 1) := by decide +kernel
theorem dX2_encode_93 : decode cX2_encode 93 = .ok (.getfield 20, 3) := by decide +kernel
theorem dX2_encode_96 : decode cX2_encode 96 = .ok (.iload_n 2, 1) := by decide +kernel
theorem dX2_encode_97 : decode cX2_encode 97 = .ok (.invokevirtual 34, 3) := by decide +kernel
theorem dX2_encode_100 : decode cX2_encode 100 = .ok (.aload_n 0, 1) := by decide +kernel
theorem dX2_encode_101 : decode cX2_encode 101 = .ok (.getfield 20, 3) := by decide +kernel
theorem dX2_encode_104 : decode cX2_encode 104 = .ok (.iload_n 3, 1) := by decide +kernel
theorem dX2_encode_105 : decode cX2_encode 105 = .ok (.iload_n 1, 1) := by decide +kernel
theorem dX2_encode_106 : decode cX2_encode 106 = .ok (.invokestatic 40, 3) := by decide +kernel
theorem dX2_encode_109 : decode cX2_encode 109 = .ok (.invokevirtual 34, 3) := by decide +kernel
theorem dX2_encode_112 : decode cX2_encode 112 = .ok (.return_, 1) := by decide +kernel
theorem dX2_wheelIndex_0 : decode cX2_wheelIndex 0 = .ok (.iload_n 0, 1) := by decide +kernel
theorem dX2_wheelIndex_1 : decode cX2_wheelIndex 1 = .ok (.bipush 57, 2) := by decide +kernel
theorem dX2_wheelIndex_3 : decode cX2_wheelIndex 3 = .ok (.if_icmp .gt 10, 3) := by decide +kernel
theorem dX2_wheelIndex_6 : decode cX2_wheelIndex 6 = .ok (.iload_n 0, 1) := by decide +kernel
theorem dX2_wheelIndex_7 : decode cX2_wheelIndex 7 = .ok (.bipush 48, 2) := by decide +kernel
theorem dX2_wheelIndex_9 : decode cX2_wheelIndex 9 = .ok (.isub, 1) := by decide +kernel
theorem dX2_wheelIndex_10 : decode cX2_wheelIndex 10 = .ok (.goto 7, 3) := by decide +kernel
theorem dX2_wheelIndex_13 : decode cX2_wheelIndex 13 = .ok (.iload_n 0, 1) := by decide +kernel
theorem dX2_wheelIndex_14 : decode cX2_wheelIndex 14 = .ok (.bipush 97, 2) := by decide +kernel
theorem dX2_wheelIndex_16 : decode cX2_wheelIndex 16 = .ok (.isub, 1) := by decide +kernel
theorem dX2_wheelIndex_17 : decode cX2_wheelIndex 17 = .ok (.ireturn, 1) := by decide +kernel
theorem dX3_init_0 : decode cX3_init 0 = .ok (.aload_n 0, 1) := by decide +kernel
theorem dX3_init_1 : decode cX3_init 1 = .ok (.invokespecial 3, 3) := by decide +kernel
theorem dX3_init_4 : decode cX3_init 4 = .ok (.aload_n 0, 1) := by decide +kernel
theorem dX3_init_5 : decode cX3_init 5 = .ok (.iconst (-1), 1) := by decide +kernel
theorem dX3_init_6 : decode cX3_init 6 = .ok (.putfield 9, 3) := by decide +kernel
theorem dX3_init_9 : decode cX3_init 9 = .ok (.aload_n 0, 1) := by decide +kernel
theorem dX3_init_10 : decode cX3_init 10 = .ok (.new 15, 3) := by decide +kernel
theorem dX3_init_13 : decode cX3_init 13 = .ok (.dup, 1) := by decide +kernel
theorem dX3_init_14 : decode cX3_init 14 = .ok (.invokespecial 17, 3) := by decide +kernel
theorem dX3_init_17 : decode cX3_init 17 = .ok (.putfield 18, 3) := by decide +kernel
theorem dX3_init_20 : decode cX3_init 20 = .ok (.aload_n 0, 1) := by decide +kernel
theorem dX3_init_21 : decode cX3_init 21 = .ok (.new 15, 3) := by decide +kernel
theorem dX3_init_24 : decode cX3_init 24 = .ok (.dup, 1) := by decide +kernel
theorem dX3_init_25 : decode cX3_init 25 = .ok (.invokespecial 17, 3) := by decide +kernel
theorem dX3_init_28 : decode cX3_init 28 = .ok (.putfield 22, 3) := by decide +kernel
theorem dX3_init_31 : decode cX3_init 31 = .ok (.aload_n 0, 1) := by decide +kernel
theorem dX3_init_32 : decode cX3_init 32 = .ok (.new 25, 3) := by decide +kernel
theorem dX3_init_35 : decode cX3_init 35 = .ok (.dup, 1) := by decide +kernel
theorem dX3_init_36 : decode cX3_init 36 = .ok (.invokespecial 27, 3) := by decide +kernel
theorem dX3_init_39 : decode cX3_init 39 = .ok (.putfield 28, 3) := by decide +kernel
theorem dX3_init_42 : decode cX3_init 42 = .ok (.aload_n 0, 1) := by decide +kernel
theorem dX3_init_43 : decode cX3_init 43 = .ok (.new 32, 3) := by decide +kernel
theorem dX3_init_46 : decode cX3_init 46 = .ok (.dup, 1) := by decide +kernel
theorem dX3_init_47 : decode cX3_init 47 = .ok (.sipush 640, 3) := by decide +kernel
theorem dX3_init_50 : decode cX3_init 50 = .ok (.invokespecial 34, 3) := by decide +kernel
theorem dX3_init_53 : decode cX3_init 53 = .ok (.putfield 37, 3) := by decide +kernel
theorem dX3_init_56 : decode cX3_init 56 = .ok (.aload_n 0, 1) := by decide +kernel
theorem dX3_init_57 : decode cX3_init 57 = .ok (.new 32, 3) := by decide +kernel
theorem dX3_init_60 : decode cX3_init 60 = .ok (.dup, 1) := by decide +kernel
theorem dX3_init_61 : decode cX3_init 61 = .ok (.bipush 40, 2) := by decide +kernel
theorem dX3_init_63 : decode cX3_init 63 = .ok (.invokespecial 34, 3) := by decide +kernel
theorem dX3_init_66 : decode cX3_init 66 = .ok (.putfield 41, 3) := by decide +kernel
theorem dX3_init_69 : decode cX3_init 69 = .ok (.aload_n 0, 1) := by decide +kernel
theorem dX3_init_70 : decode cX3_init 70 = .ok (.new 44, 3) := by decide +kernel
theorem dX3_init_73 : decode cX3_init 73 = .ok (.dup, 1) := by decide +kernel
theorem dX3_init_74 : decode cX3_init 74 = .ok (.bipush 20, 2) := by decide +kernel
theorem dX3_init_76 : decode cX3_init 76 = .ok (.invokespecial 46, 3) := by decide +kernel
theorem dX3_init_79 : decode cX3_init 79 = .ok (.putfield 47, 3) := by decide +kernel
theorem dX3_init_82 : decode cX3_init 82 = .ok (.aload_n 0, 1) := by decide +kernel
theorem dX3_init_83 : decode cX3_init 83 = .ok (.aload_n 1, 1) := by decide +kernel
theorem dX3_init_84 : decode cX3_init 84 = .ok (.invokevirtual 51, 3) := by decide +kernel
theorem dX3_init_87 : decode cX3_init 87 = .ok (.return_, 1) := by decide +kernel
theorem dX3_begin_0 : decode cX3_begin 0 = .ok (.aload_n 0, 1) := by decide +kernel
theorem dX3_begin_1 : decode cX3_begin 1 = .ok (.aload_n 1, 1) := by decide +kernel
theorem dX3_begin_2 : decode cX3_begin 2 = .ok (.putfield 55, 3) := by decide +kernel
theorem dX3_begin_5 : decode cX3_begin 5 = .ok (.aload_n 0, 1) := by decide +kernel
theorem dX3_begin_6 : decode cX3_begin 6 = .ok (.iconst 0, 1) := by decide +kernel
theorem dX3_begin_7 : decode cX3_begin 7 = .ok (.putfield 59, 3) := by decide +kernel
theorem dX3_begin_10 : decode cX3_begin 10 = .ok (.aload_n 0, 1) := by decide +kernel
theorem dX3_begin_11 : decode cX3_begin 11 = .ok (.aload_n 0, 1) := by decide +kernel
theorem dX3_begin_12 : decode cX3_begin 12 = .ok (.getfield 55, 3) := by decide +kernel
theorem dX3_begin_15 : decode cX3_begin 15 = .ok (.getfield 62, 3) := by decide +kernel
theorem dX3_begin_18 : decode cX3_begin 18 = .ok (.putfield 67, 3) := by decide +kernel
theorem dX3_begin_21 : decode cX3_begin 21 = .ok (.aload_n 0, 1) := by decide +kernel
theorem dX3_begin_22 : decode cX3_begin 22 = .ok (.iconst 0, 1) := by decide +kernel
theorem dX3_begin_23 : decode cX3_begin 23 = .ok (.putfield 68, 3) := by decide +kernel
theorem dX3_begin_26 : decode cX3_begin 26 = .ok (.aload_n 0, 1) := by decide +kernel
theorem dX3_begin_27 : decode cX3_begin 27 = .ok (.iconst 0, 1) := by decide +kernel
theorem dX3_begin_28 : decode cX3_begin 28 = .ok (.putfield 71, 3) := by decide +kernel
theorem dX3_begin_31 : decode cX3_begin 31 = .ok (.aload_n 0, 1) := by decide +kernel
theorem dX3_begin_32 : decode cX3_begin 32 = .ok (.getfield 18, 3) := by decide +kernel
theorem dX3_begin_35 : decode cX3_begin 35 = .ok (.aload_n 0, 1) := by decide +kernel
theorem dX3_begin_36 : decode cX3_begin 36 = .ok (.getfield 55, 3) := by decide +kernel
theorem dX3_begin_39 : decode cX3_begin 39 = .ok (.getfield 74, 3) := by decide +kernel
theorem dX3_begin_42 : decode cX3_begin 42 = .ok (.invokevirtual 77, 3) := by decide +kernel
theorem dX3_begin_45 : decode cX3_begin 45 = .ok (.aload_n 0, 1) := by decide +kernel
theorem dX3_begin_46 : decode cX3_begin 46 = .ok (.getfield 22, 3) := by decide +kernel
theorem dX3_begin_49 : decode cX3_begin 49 = .ok (.aload_n 0, 1) := by decide +kernel
theorem dX3_begin_50 : decode cX3_begin 50 = .ok (.getfield 55, 3) := by decide +kernel
theorem dX3_begin_53 : decode cX3_begin 53 = .ok (.getfield 80, 3) := by decide +kernel
theorem dX3_begin_56 : decode cX3_begin 56 = .ok (.invokevirtual 77, 3) := by decide +kernel
theorem dX3_begin_59 : decode cX3_begin 59 = .ok (.aload_n 0, 1) := by decide +kernel
theorem dX3_begin_60 : decode cX3_begin 60 = .ok (.getfield 41, 3) := by decide +kernel
theorem dX3_begin_63 : decode cX3_begin 63 = .ok (.invokevirtual 82, 3) := by decide +kernel
theorem dX3_begin_66 : decode cX3_begin 66 = .ok (.aload_n 0, 1) := by decide +kernel
theorem dX3_begin_67 : decode cX3_begin 67 = .ok (.getfield 47, 3) := by decide +kernel
theorem dX3_begin_70 : decode cX3_begin 70 = .ok (.aload_n 0, 1) := by decide +kernel
theorem dX3_begin_71 : decode cX3_begin 71 = .ok (.getfield 55, 3) := by decide +kernel
theorem dX3_begin_74 : decode cX3_begin 74 = .ok (.getfield 85, 3) := by decide +kernel
theorem dX3_begin_77 : decode cX3_begin 77 = .ok (.invokevirtual 86, 3) := by decide +kernel
theorem dX3_begin_80 : decode cX3_begin 80 = .ok (.aload_n 0, 1) := by decide +kernel
theorem dX3_begin_81 : decode cX3_begin 81 = .ok (.iconst 0, 1) := by decide +kernel
theorem dX3_begin_82 : decode cX3_begin 82 = .ok (.putfield 90, 3) := by decide +kernel
theorem dX3_begin_85 : decode cX3_begin 85 = .ok (.aload_n 0, 1) := by decide +kernel
theorem dX3_begin_86 : decode cX3_begin 86 = .ok (.invokevirtual 93, 3) := by decide +kernel
theorem dX3_begin_89 : decode cX3_begin 89 = .ok (.return_, 1) := by decide +kernel
theorem dX3_copyFrom_0 : decode cX3_copyFrom 0 = .ok (.aload_n 0, 1) := by decide +kernel
theorem dX3_copyFrom_1 : decode cX3_copyFrom 1 = .ok (.aload_n 1, 1) := by decide +kernel
theorem dX3_copyFrom_2 : decode cX3_copyFrom 2 = .ok (.getfield 55, 3) := by decide +kernel
theorem dX3_copyFrom_5 : decode cX3_copyFrom 5 = .ok (.putfield 55, 3) := by decide +kernel
theorem dX3_copyFrom_8 : decode cX3_copyFrom 8 = .ok (.aload_n 0, 1) := by decide +kernel
theorem dX3_copyFrom_9 : decode cX3_copyFrom 9 = .ok (.aload_n 1, 1) := by decide +kernel
theorem dX3_copyFrom_10 : decode cX3_copyFrom 10 = .ok (.getfield 59, 3) := by decide +kernel
theorem dX3_copyFrom_13 : decode cX3_copyFrom 13 = .ok (.putfield 59, 3) := by decide +kernel
theorem dX3_copyFrom_16 : decode cX3_copyFrom 16 = .ok (.aload_n 0, 1) := by decide +kernel
theorem dX3_copyFrom_17 : decode cX3_copyFrom 17 = .ok (.aload_n 1, 1) := by decide +kernel
theorem dX3_copyFrom_18 : decode cX3_copyFrom 18 = .ok (.getfield 67, 3) := by decide +kernel
theorem dX3_copyFrom_21 : decode cX3_copyFrom 21 = .ok (.putfield 67, 3) := by decide +kernel
theorem dX3_copyFrom_24 : decode cX3_copyFrom 24 = .ok (.aload_n 0, 1) := by decide +kernel
theorem dX3_copyFrom_25 : decode cX3_copyFrom 25 = .ok (.aload_n 1, 1) := by decide +kernel
theorem dX3_copyFrom_26 : decode cX3_copyFrom 26 = .ok (.getfield 9, 3) := by decide +kernel
theorem dX3_copyFrom_29 : decode cX3_copyFrom 29 = .ok (.putfield 9, 3) := by decide +kernel
theorem dX3_copyFrom_32 : decode cX3_copyFrom 32 = .ok (.aload_n 0, 1) := by decide +kernel
theorem dX3_copyFrom_33 : decode cX3_copyFrom 33 = .ok (.aload_n 1, 1) := by decide +kernel
theorem dX3_copyFrom_34 : decode cX3_copyFrom 34 = .ok (.getfield 96, 3) := by decide +kernel
theorem dX3_copyFrom_37 : decode cX3_copyFrom 37 = .ok (.putfield 96, 3) := by decide +kernel
theorem dX3_copyFrom_40 : decode cX3_copyFrom 40 = .ok (.aload_n 0, 1) := by decide +kernel
theorem dX3_copyFrom_41 : decode cX3_copyFrom 41 = .ok (.aload_n 1, 1) := by decide +kernel
theorem dX3_copyFrom_42 : decode cX3_copyFrom 42 = .ok (.getfield 100, 3) := by decide +kernel
theorem dX3_copyFrom_45 : decode cX3_copyFrom 45 = .ok (.putfield 100, 3) := by decide +kernel
theorem dX3_copyFrom_48 : decode cX3_copyFrom 48 = .ok (.aload_n 0, 1) := by decide +kernel
theorem dX3_copyFrom_49 : decode cX3_copyFrom 49 = .ok (.aload_n 1, 1) := by decide +kernel
theorem dX3_copyFrom_50 : decode cX3_copyFrom 50 = .ok (.getfield 103, 3) := by decide +kernel
theorem dX3_copyFrom_53 : decode cX3_copyFrom 53 = .ok (.putfield 103, 3) := by decide +kernel
theorem dX3_copyFrom_56 : decode cX3_copyFrom 56 = .ok (.aload_n 0, 1) := by decide +kernel
theorem dX3_copyFrom_57 : decode cX3_copyFrom 57 = .ok (.aload_n 1, 1) := by decide +kernel
theorem dX3_copyFrom_58 : decode cX3_copyFrom 58 = .ok (.getfield 106, 3) := by decide +kernel
theorem dX3_copyFrom_61 : decode cX3_copyFrom 61 = .ok (.putfield 106, 3) := by decide +kernel
theorem dX3_copyFrom_64 : decode cX3_copyFrom 64 = .ok (.aload_n 0, 1) := by decide +kernel
theorem dX3_copyFrom_65 : decode cX3_copyFrom 65 = .ok (.aload_n 1, 1) := by decide +kernel
theorem dX3_copyFrom_66 : decode cX3_copyFrom 66 = .ok (.getfield 90, 3) := by decide +kernel
theorem dX3_copyFrom_69 : decode cX3_copyFrom 69 = .ok (.putfield 90, 3) := by decide +kernel
theorem dX3_copyFrom_72 : decode cX3_copyFrom 72 = .ok (.aload_n 0, 1) := by decide +kernel
theorem dX3_copyFrom_73 : decode cX3_copyFrom 73 = .ok (.aload_n 1, 1) := by decide +kernel
theorem dX3_copyFrom_74 : decode cX3_copyFrom 74 = .ok (.getfield 68, 3) := by decide +kernel
theorem dX3_copyFrom_77 : decode cX3_copyFrom 77 = .ok (.putfield 68, 3) := by decide +kernel
theorem dX3_copyFrom_80 : decode cX3_copyFrom 80 = .ok (.aload_n 0, 1) := by decide +kernel
theorem dX3_copyFrom_81 : decode cX3_copyFrom 81 = .ok (.aload_n 1, 1) := by decide +kernel
theorem dX3_copyFrom_82 : decode cX3_copyFrom 82 = .ok (.getfield 71, 3) := by decide +kernel
theorem dX3_copyFrom_85 : decode cX3_copyFrom 85 = .ok (.putfield 71, 3) := by decide +kernel
theorem dX3_copyFrom_88 : decode cX3_copyFrom 88 = .ok (.aload_n 0, 1) := by decide +kernel
theorem dX3_copyFrom_89 : decode cX3_copyFrom 89 = .ok (.getfield 18, 3) := by decide +kernel
theorem dX3_copyFrom_92 : decode cX3_copyFrom 92 = .ok (.aload_n 1, 1) := by decide +kernel
theorem dX3_copyFrom_93 : decode cX3_copyFrom 93 = .ok (.getfield 18, 3) := by decide +kernel
theorem dX3_copyFrom_96 : decode cX3_copyFrom 96 = .ok (.invokevirtual 109, 3) := by decide +kernel
theorem dX3_copyFrom_99 : decode cX3_copyFrom 99 = .ok (.aload_n 0, 1) := by decide +kernel
theorem dX3_copyFrom_100 : decode cX3_copyFrom 100 = .ok (.getfield 22, 3) := by decide +kernel
theorem dX3_copyFrom_103 : decode cX3_copyFrom 103 = .ok (.aload_n 1, 1) := by decide +kernel
theorem dX3_copyFrom_104 : decode cX3_copyFrom 104 = .ok (.getfield 22, 3) := by decide +kernel
theorem dX3_copyFrom_107 : decode cX3_copyFrom 107 = .ok (.invokevirtual 109, 3) := by decide +kernel
theorem dX3_copyFrom_110 : decode cX3_copyFrom 110 = .ok (.aload_n 0, 1) := by decide +kernel
theorem dX3_copyFrom_111 : decode cX3_copyFrom 111 = .ok (.getfield 28, 3) := by decide +kernel
theorem dX3_copyFrom_114 : decode cX3_copyFrom 114 = .ok (.aload_n 1, 1) := by decide +kernel
theorem dX3_copyFrom_115 : decode cX3_copyFrom 115 = .ok (.getfield 28, 3) := by decide +kernel
theorem dX3_copyFrom_118 : decode cX3_copyFrom 118 = .ok (.invokevirtual 112, 3) := by decide +kernel
theorem dX3_copyFrom_121 : decode cX3_copyFrom 121 = .ok (.aload_n 0, 1) := by decide +kernel
theorem dX3_copyFrom_122 : decode cX3_copyFrom 122 = .ok (.getfield 37, 3) := by decide +kernel
theorem dX3_copyFrom_125 : decode cX3_copyFrom 125 = .ok (.aload_n 1, 1) := by decide +kernel
theorem dX3_copyFrom_126 : decode cX3_copyFrom 126 = .ok (.getfield 37, 3) := by decide +kernel
theorem dX3_copyFrom_129 : decode cX3_copyFrom 129 = .ok (.invokevirtual 115, 3) := by decide +kernel
theorem dX3_copyFrom_132 : decode cX3_copyFrom 132 = .ok (.aload_n 0, 1) := by decide +kernel
theorem dX3_copyFrom_133 : decode cX3_copyFrom 133 = .ok (.getfield 41, 3) := by decide +kernel
theorem dX3_copyFrom_136 : decode cX3_copyFrom 136 = .ok (.aload_n 1, 1) := by decide +kernel
theorem dX3_copyFrom_137 : decode cX3_copyFrom 137 = .ok (.getfield 41, 3) := by decide +kernel
theorem dX3_copyFrom_140 : decode cX3_copyFrom 140 = .ok (.invokevirtual 115, 3) := by decide +kernel
theorem dX3_copyFrom_143 : decode cX3_copyFrom 143 = .ok (.aload_n 0, 1) := by decide +kernel
theorem dX3_copyFrom_144 : decode cX3_copyFrom 144 = .ok (.getfield 47, 3) := by decide +kernel
theorem dX3_copyFrom_147 : decode cX3_copyFrom 147 = .ok (.aload_n 1, 1) := by decide +kernel
theorem dX3_copyFrom_148 : decode cX3_copyFrom 148 = .ok (.getfield 47, 3) := by decide +kernel
theorem dX3_copyFrom_151 : decode cX3_copyFrom 151 = .ok (.invokevirtual 86, 3) := by decide +kernel
theorem dX3_copyFrom_154 : decode cX3_copyFrom 154 = .ok (.return_, 1) := by decide +kernel
theorem dX3_office_0 : decode cX3_office 0 = .ok (.iload_n 1, 1) := by decide +kernel
theorem dX3_office_1 : decode cX3_office 1 = .ok (.iconst 1, 1) := by decide +kernel
theorem dX3_office_2 : decode cX3_office 2 = .ok (.if_icmp .ne 10, 3) := by decide +kernel
theorem dX3_office_5 : decode cX3_office 5 = .ok (.aload_n 0, 1) := by decide +kernel
theorem dX3_office_6 : decode cX3_office 6 = .ok (.getfield 22, 3) := by decide +kernel
theorem dX3_office_9 : decode cX3_office 9 = .ok (.goto 7, 3) := by decide +kernel
theorem dX3_office_12 : decode cX3_office 12 = .ok (.aload_n 0, 1) := by decide +kernel
theorem dX3_office_13 : decode cX3_office 13 = .ok (.getfield 18, 3) := by decide +kernel
theorem dX3_office_16 : decode cX3_office 16 = .ok (.areturn, 1) := by decide +kernel
theorem dX3_silentTicks_0 : decode cX3_silentTicks 0 = .ok (.aload_n 0, 1) := by decide +kernel
theorem dX3_silentTicks_1 : decode cX3_silentTicks 1 = .ok (.getfield 59, 3) := by decide +kernel
theorem dX3_silentTicks_4 : decode cX3_silentTicks 4 = .ok (.aload_n 0, 1) := by decide +kernel
theorem dX3_silentTicks_5 : decode cX3_silentTicks 5 = .ok (.getfield 90, 3) := by decide +kernel
theorem dX3_silentTicks_8 : decode cX3_silentTicks 8 = .ok (.isub, 1) := by decide +kernel
theorem dX3_silentTicks_9 : decode cX3_silentTicks 9 = .ok (.ireturn, 1) := by decide +kernel
theorem dX3_tick_0 : decode cX3_tick 0 = .ok (.aload_n 0, 1) := by decide +kernel
theorem dX3_tick_1 : decode cX3_tick 1 = .ok (.dup, 1) := by decide +kernel
theorem dX3_tick_2 : decode cX3_tick 2 = .ok (.getfield 59, 3) := by decide +kernel
theorem dX3_tick_5 : decode cX3_tick 5 = .ok (.iconst 1, 1) := by decide +kernel
theorem dX3_tick_6 : decode cX3_tick 6 = .ok (.iadd, 1) := by decide +kernel
theorem dX3_tick_7 : decode cX3_tick 7 = .ok (.putfield 59, 3) := by decide +kernel
theorem dX3_tick_10 : decode cX3_tick 10 = .ok (.aload_n 0, 1) := by decide +kernel
theorem dX3_tick_11 : decode cX3_tick 11 = .ok (.getfield 18, 3) := by decide +kernel
theorem dX3_tick_14 : decode cX3_tick 14 = .ok (.aload_n 0, 1) := by decide +kernel
theorem dX3_tick_15 : decode cX3_tick 15 = .ok (.getfield 18, 3) := by decide +kernel
theorem dX3_tick_18 : decode cX3_tick 18 = .ok (.getfield 126, 3) := by decide +kernel
theorem dX3_tick_21 : decode cX3_tick 21 = .ok (.aload_n 0, 1) := by decide +kernel
theorem dX3_tick_22 : decode cX3_tick 22 = .ok (.getfield 55, 3) := by decide +kernel
theorem dX3_tick_25 : decode cX3_tick 25 = .ok (.invokevirtual 129, 3) := by decide +kernel
theorem dX3_tick_28 : decode cX3_tick 28 = .ok (.invokevirtual 133, 3) := by decide +kernel
theorem dX3_tick_31 : decode cX3_tick 31 = .ok (.aload_n 0, 1) := by decide +kernel
theorem dX3_tick_32 : decode cX3_tick 32 = .ok (.getfield 22, 3) := by decide +kernel
theorem dX3_tick_35 : decode cX3_tick 35 = .ok (.aload_n 0, 1) := by decide +kernel
theorem dX3_tick_36 : decode cX3_tick 36 = .ok (.getfield 22, 3) := by decide +kernel
theorem dX3_tick_39 : decode cX3_tick 39 = .ok (.getfield 126, 3) := by decide +kernel
theorem dX3_tick_42 : decode cX3_tick 42 = .ok (.aload_n 0, 1) := by decide +kernel
theorem dX3_tick_43 : decode cX3_tick 43 = .ok (.getfield 55, 3) := by decide +kernel
theorem dX3_tick_46 : decode cX3_tick 46 = .ok (.invokevirtual 129, 3) := by decide +kernel
theorem dX3_tick_49 : decode cX3_tick 49 = .ok (.invokevirtual 133, 3) := by decide +kernel
theorem dX3_tick_52 : decode cX3_tick 52 = .ok (.aload_n 0, 1) := by decide +kernel
theorem dX3_tick_53 : decode cX3_tick 53 = .ok (.getfield 37, 3) := by decide +kernel
theorem dX3_tick_56 : decode cX3_tick 56 = .ok (.invokevirtual 137, 3) := by decide +kernel
theorem dX3_tick_59 : decode cX3_tick 59 = .ok (.istore_n 1, 1) := by decide +kernel
theorem dX3_tick_60 : decode cX3_tick 60 = .ok (.iload_n 1, 1) := by decide +kernel
theorem dX3_tick_61 : decode cX3_tick 61 = .ok (.ifCond .le 60, 3) := by decide +kernel
theorem dX3_tick_64 : decode cX3_tick 64 = .ok (.aload_n 0, 1) := by decide +kernel
theorem dX3_tick_65 : decode cX3_tick 65 = .ok (.invokevirtual 140, 3) := by decide +kernel
theorem dX3_tick_68 : decode cX3_tick 68 = .ok (.ifCond .eq 53, 3) := by decide +kernel
theorem dX3_tick_71 : decode cX3_tick 71 = .ok (.aload_n 0, 1) := by decide +kernel
theorem dX3_tick_72 : decode cX3_tick 72 = .ok (.getfield 37, 3) := by decide +kernel
theorem dX3_tick_75 : decode cX3_tick 75 = .ok (.iconst 0, 1) := by decide +kernel
theorem dX3_tick_76 : decode cX3_tick 76 = .ok (.iconst 1, 1) := by decide +kernel
theorem dX3_tick_77 : decode cX3_tick 77 = .ok (.invokevirtual 144, 3) := by decide +kernel
theorem dX3_tick_80 : decode cX3_tick 80 = .ok (.istore_n 2, 1) := by decide +kernel
theorem dX3_tick_81 : decode cX3_tick 81 = .ok (.aload_n 0, 1) := by decide +kernel
theorem dX3_tick_82 : decode cX3_tick 82 = .ok (.getfield 37, 3) := by decide +kernel
theorem dX3_tick_85 : decode cX3_tick 85 = .ok (.iconst 0, 1) := by decide +kernel
theorem dX3_tick_86 : decode cX3_tick 86 = .ok (.iconst 2, 1) := by decide +kernel
theorem dX3_tick_87 : decode cX3_tick 87 = .ok (.invokevirtual 144, 3) := by decide +kernel
theorem dX3_tick_90 : decode cX3_tick 90 = .ok (.istore_n 3, 1) := by decide +kernel
theorem dX3_tick_91 : decode cX3_tick 91 = .ok (.aload_n 0, 1) := by decide +kernel
theorem dX3_tick_92 : decode cX3_tick 92 = .ok (.getfield 37, 3) := by decide +kernel
theorem dX3_tick_95 : decode cX3_tick 95 = .ok (.invokevirtual 148, 3) := by decide +kernel
theorem dX3_tick_98 : decode cX3_tick 98 = .ok (.iload_n 2, 1) := by decide +kernel
theorem dX3_tick_99 : decode cX3_tick 99 = .ok (.ifCond .ne 11, 3) := by decide +kernel
theorem dX3_tick_102 : decode cX3_tick 102 = .ok (.aload_n 0, 1) := by decide +kernel
theorem dX3_tick_103 : decode cX3_tick 103 = .ok (.iload_n 3, 1) := by decide +kernel
theorem dX3_tick_104 : decode cX3_tick 104 = .ok (.invokevirtual 151, 3) := by decide +kernel
theorem dX3_tick_107 : decode cX3_tick 107 = .ok (.goto 8, 3) := by decide +kernel
theorem dX3_tick_110 : decode cX3_tick 110 = .ok (.aload_n 0, 1) := by decide +kernel
theorem dX3_tick_111 : decode cX3_tick 111 = .ok (.iload_n 2, 1) := by decide +kernel
theorem dX3_tick_112 : decode cX3_tick 112 = .ok (.invokevirtual 154, 3) := by decide +kernel
theorem dX3_tick_115 : decode cX3_tick 115 = .ok (.iinc 1 (-1), 3) := by decide +kernel
theorem dX3_tick_118 : decode cX3_tick 118 = .ok (.goto (-58), 3) := by decide +kernel
theorem dX3_tick_121 : decode cX3_tick 121 = .ok (.aload_n 0, 1) := by decide +kernel
theorem dX3_tick_122 : decode cX3_tick 122 = .ok (.invokevirtual 157, 3) := by decide +kernel
theorem dX3_tick_125 : decode cX3_tick 125 = .ok (.aload_n 0, 1) := by decide +kernel
theorem dX3_tick_126 : decode cX3_tick 126 = .ok (.getfield 96, 3) := by decide +kernel
theorem dX3_tick_129 : decode cX3_tick 129 = .ok (.ifCond .eq 19, 3) := by decide +kernel
theorem dX3_tick_132 : decode cX3_tick 132 = .ok (.aload_n 0, 1) := by decide +kernel
theorem dX3_tick_133 : decode cX3_tick 133 = .ok (.getfield 59, 3) := by decide +kernel
theorem dX3_tick_136 : decode cX3_tick 136 = .ok (.aload_n 0, 1) := by decide +kernel
theorem dX3_tick_137 : decode cX3_tick 137 = .ok (.getfield 100, 3) := by decide +kernel
theorem dX3_tick_140 : decode cX3_tick 140 = .ok (.if_icmp .lt 8, 3) := by decide +kernel
theorem dX3_tick_143 : decode cX3_tick 143 = .ok (.aload_n 0, 1) := by decide +kernel
theorem dX3_tick_144 : decode cX3_tick 144 = .ok (.iconst 0, 1) := by decide +kernel
theorem dX3_tick_145 : decode cX3_tick 145 = .ok (.invokevirtual 160, 3) := by decide +kernel
theorem dX3_tick_148 : decode cX3_tick 148 = .ok (.aload_n 0, 1) := by decide +kernel
theorem dX3_tick_149 : decode cX3_tick 149 = .ok (.getfield 9, 3) := by decide +kernel
theorem dX3_tick_152 : decode cX3_tick 152 = .ok (.iconst (-1), 1) := by decide +kernel
theorem dX3_tick_153 : decode cX3_tick 153 = .ok (.if_icmp .eq 24, 3) := by decide +kernel
theorem dX3_tick_156 : decode cX3_tick 156 = .ok (.aload_n 0, 1) := by decide +kernel
theorem dX3_tick_157 : decode cX3_tick 157 = .ok (.invokevirtual 164, 3) := by decide +kernel
theorem dX3_tick_160 : decode cX3_tick 160 = .ok (.aload_n 0, 1) := by decide +kernel
theorem dX3_tick_161 : decode cX3_tick 161 = .ok (.getfield 55, 3) := by decide +kernel
theorem dX3_tick_164 : decode cX3_tick 164 = .ok (.getfield 167, 3) := by decide +kernel
theorem dX3_tick_167 : decode cX3_tick 167 = .ok (.if_icmp .lt 10, 3) := by decide +kernel
theorem dX3_tick_170 : decode cX3_tick 170 = .ok (.aload_n 0, 1) := by decide +kernel
theorem dX3_tick_171 : decode cX3_tick 171 = .ok (.getfield 28, 3) := by decide +kernel
theorem dX3_tick_174 : decode cX3_tick 174 = .ok (.invokevirtual 118, 3) := by decide +kernel
theorem dX3_tick_177 : decode cX3_tick 177 = .ok (.return_, 1) := by decide +kernel
theorem dX3_isArrivalDue_0 : decode cX3_isArrivalDue 0 = .ok (.aload_n 0, 1) := by decide +kernel
theorem dX3_isArrivalDue_1 : decode cX3_isArrivalDue 1 = .ok (.getfield 37, 3) := by decide +kernel
theorem dX3_isArrivalDue_4 : decode cX3_isArrivalDue 4 = .ok (.invokevirtual 137, 3) := by decide +kernel
theorem dX3_isArrivalDue_7 : decode cX3_isArrivalDue 7 = .ok (.ifCond .le 23, 3) := by decide +kernel
theorem dX3_isArrivalDue_10 : decode cX3_isArrivalDue 10 = .ok (.aload_n 0, 1) := by decide +kernel
theorem dX3_isArrivalDue_11 : decode cX3_isArrivalDue 11 = .ok (.getfield 37, 3) := by decide +kernel
theorem dX3_isArrivalDue_14 : decode cX3_isArrivalDue 14 = .ok (.iconst 0, 1) := by decide +kernel
theorem dX3_isArrivalDue_15 : decode cX3_isArrivalDue 15 = .ok (.iconst 0, 1) := by decide +kernel
theorem dX3_isArrivalDue_16 : decode cX3_isArrivalDue 16 = .ok (.invokevirtual 144, 3) := by decide +kernel
theorem dX3_isArrivalDue_19 : decode cX3_isArrivalDue 19 = .ok (.aload_n 0, 1) := by decide +kernel
theorem dX3_isArrivalDue_20 : decode cX3_isArrivalDue 20 = .ok (.getfield 59, 3) := by decide +kernel
theorem dX3_isArrivalDue_23 : decode cX3_isArrivalDue 23 = .ok (.if_icmp .gt 7, 3) := by decide +kernel
theorem dX3_isArrivalDue_26 : decode cX3_isArrivalDue 26 = .ok (.iconst 1, 1) := by decide +kernel
theorem dX3_isArrivalDue_27 : decode cX3_isArrivalDue 27 = .ok (.goto 4, 3) := by decide +kernel
theorem dX3_isArrivalDue_30 : decode cX3_isArrivalDue 30 = .ok (.iconst 0, 1) := by decide +kernel
theorem dX3_isArrivalDue_31 : decode cX3_isArrivalDue 31 = .ok (.ireturn, 1) := by decide +kernel
theorem dX3_takeSignal_0 : decode cX3_takeSignal 0 = .ok (.iload_n 1, 1) := by decide +kernel
theorem dX3_takeSignal_1 : decode cX3_takeSignal 1 = .ok (.iconst 3, 1) := by decide +kernel
theorem dX3_takeSignal_2 : decode cX3_takeSignal 2 = .ok (.if_icmp .ne 33, 3) := by decide +kernel
theorem dX3_takeSignal_5 : decode cX3_takeSignal 5 = .ok (.aload_n 0, 1) := by decide +kernel
theorem dX3_takeSignal_6 : decode cX3_takeSignal 6 = .ok (.getfield 41, 3) := by decide +kernel
theorem dX3_takeSignal_9 : decode cX3_takeSignal 9 = .ok (.aload_n 0, 1) := by decide +kernel
theorem dX3_takeSignal_10 : decode cX3_takeSignal 10 = .ok (.getfield 59, 3) := by decide +kernel
theorem dX3_takeSignal_13 : decode cX3_takeSignal 13 = .ok (.iconst 5, 1) := by decide +kernel
theorem dX3_takeSignal_14 : decode cX3_takeSignal 14 = .ok (.aload_n 0, 1) := by decide +kernel
theorem dX3_takeSignal_15 : decode cX3_takeSignal 15 = .ok (.aload_n 0, 1) := by decide +kernel
theorem dX3_takeSignal_16 : decode cX3_takeSignal 16 = .ok (.getfield 9, 3) := by decide +kernel
theorem dX3_takeSignal_19 : decode cX3_takeSignal 19 = .ok (.invokevirtual 170, 3) := by decide +kernel
theorem dX3_takeSignal_22 : decode cX3_takeSignal 22 = .ok (.getfield 174, 3) := by decide +kernel
theorem dX3_takeSignal_25 : decode cX3_takeSignal 25 = .ok (.invokevirtual 122, 3) := by decide +kernel
theorem dX3_takeSignal_28 : decode cX3_takeSignal 28 = .ok (.aload_n 0, 1) := by decide +kernel
theorem dX3_takeSignal_29 : decode cX3_takeSignal 29 = .ok (.invokevirtual 93, 3) := by decide +kernel
theorem dX3_takeSignal_32 : decode cX3_takeSignal 32 = .ok (.goto 24, 3) := by decide +kernel
theorem dX3_takeSignal_35 : decode cX3_takeSignal 35 = .ok (.aload_n 0, 1) := by decide +kernel
theorem dX3_takeSignal_36 : decode cX3_takeSignal 36 = .ok (.getfield 96, 3) := by decide +kernel
theorem dX3_takeSignal_39 : decode cX3_takeSignal 39 = .ok (.ifCond .eq 17, 3) := by decide +kernel
theorem dX3_takeSignal_42 : decode cX3_takeSignal 42 = .ok (.aload_n 0, 1) := by decide +kernel
theorem dX3_takeSignal_43 : decode cX3_takeSignal 43 = .ok (.iload_n 1, 1) := by decide +kernel
theorem dX3_takeSignal_44 : decode cX3_takeSignal 44 = .ok (.iconst 1, 1) := by decide +kernel
theorem dX3_takeSignal_45 : decode cX3_takeSignal 45 = .ok (.if_icmp .ne 7, 3) := by decide +kernel
theorem dX3_takeSignal_48 : decode cX3_takeSignal 48 = .ok (.iconst 1, 1) := by decide +kernel
theorem dX3_takeSignal_49 : decode cX3_takeSignal 49 = .ok (.goto 4, 3) := by decide +kernel
theorem dX3_takeSignal_52 : decode cX3_takeSignal 52 = .ok (.iconst 0, 1) := by decide +kernel
theorem dX3_takeSignal_53 : decode cX3_takeSignal 53 = .ok (.invokevirtual 160, 3) := by decide +kernel
theorem dX3_takeSignal_56 : decode cX3_takeSignal 56 = .ok (.return_, 1) := by decide +kernel
theorem dX3_takePulse_0 : decode cX3_takePulse 0 = .ok (.aload_n 0, 1) := by decide +kernel
theorem dX3_takePulse_1 : decode cX3_takePulse 1 = .ok (.iconst 1, 1) := by decide +kernel
theorem dX3_takePulse_2 : decode cX3_takePulse 2 = .ok (.aload_n 0, 1) := by decide +kernel
theorem dX3_takePulse_3 : decode cX3_takePulse 3 = .ok (.getfield 9, 3) := by decide +kernel
theorem dX3_takePulse_6 : decode cX3_takePulse 6 = .ok (.isub, 1) := by decide +kernel
theorem dX3_takePulse_7 : decode cX3_takePulse 7 = .ok (.invokevirtual 170, 3) := by decide +kernel
theorem dX3_takePulse_10 : decode cX3_takePulse 10 = .ok (.astore_n 2, 1) := by decide +kernel
theorem dX3_takePulse_11 : decode cX3_takePulse 11 = .ok (.aload_n 0, 1) := by decide +kernel
theorem dX3_takePulse_12 : decode cX3_takePulse 12 = .ok (.aload_n 0, 1) := by decide +kernel
theorem dX3_takePulse_13 : decode cX3_takePulse 13 = .ok (.getfield 59, 3) := by decide +kernel
theorem dX3_takePulse_16 : decode cX3_takePulse 16 = .ok (.putfield 90, 3) := by decide +kernel
theorem dX3_takePulse_19 : decode cX3_takePulse 19 = .ok (.aload_n 2, 1) := by decide +kernel
theorem dX3_takePulse_20 : decode cX3_takePulse 20 = .ok (.aload_n 0, 1) := by decide +kernel
theorem dX3_takePulse_21 : decode cX3_takePulse 21 = .ok (.getfield 67, 3) := by decide +kernel
theorem dX3_takePulse_24 : decode cX3_takePulse 24 = .ok (.aload_n 0, 1) := by decide +kernel
theorem dX3_takePulse_25 : decode cX3_takePulse 25 = .ok (.getfield 55, 3) := by decide +kernel
theorem dX3_takePulse_28 : decode cX3_takePulse 28 = .ok (.getfield 177, 3) := by decide +kernel
theorem dX3_takePulse_31 : decode cX3_takePulse 31 = .ok (.invokevirtual 180, 3) := by decide +kernel
theorem dX3_takePulse_34 : decode cX3_takePulse 34 = .ok (.istore_n 3, 1) := by decide +kernel
theorem dX3_takePulse_35 : decode cX3_takePulse 35 = .ok (.iload_n 3, 1) := by decide +kernel
theorem dX3_takePulse_36 : decode cX3_takePulse 36 = .ok (.iload_n 1, 1) := by decide +kernel
theorem dX3_takePulse_37 : decode cX3_takePulse 37 = .ok (.if_icmp .eq 13, 3) := by decide +kernel
theorem dX3_takePulse_40 : decode cX3_takePulse 40 = .ok (.aload_n 2, 1) := by decide +kernel
theorem dX3_takePulse_41 : decode cX3_takePulse 41 = .ok (.dup, 1) := by decide +kernel
theorem dX3_takePulse_42 : decode cX3_takePulse 42 = .ok (.getfield 183, 3) := by decide +kernel
theorem dX3_takePulse_45 : decode cX3_takePulse 45 = .ok (.iconst 1, 1) := by decide +kernel
theorem dX3_takePulse_46 : decode cX3_takePulse 46 = .ok (.iadd, 1) := by decide +kernel
theorem dX3_takePulse_47 : decode cX3_takePulse 47 = .ok (.putfield 183, 3) := by decide +kernel
theorem dX3_takePulse_50 : decode cX3_takePulse 50 = .ok (.aload_n 0, 1) := by decide +kernel
theorem dX3_takePulse_51 : decode cX3_takePulse 51 = .ok (.getfield 28, 3) := by decide +kernel
theorem dX3_takePulse_54 : decode cX3_takePulse 54 = .ok (.getfield 186, 3) := by decide +kernel
theorem dX3_takePulse_57 : decode cX3_takePulse 57 = .ok (.ifCond .eq 12, 3) := by decide +kernel
theorem dX3_takePulse_60 : decode cX3_takePulse 60 = .ok (.aload_n 0, 1) := by decide +kernel
theorem dX3_takePulse_61 : decode cX3_takePulse 61 = .ok (.aload_n 2, 1) := by decide +kernel
theorem dX3_takePulse_62 : decode cX3_takePulse 62 = .ok (.iload_n 3, 1) := by decide +kernel
theorem dX3_takePulse_63 : decode cX3_takePulse 63 = .ok (.invokevirtual 189, 3) := by decide +kernel
theorem dX3_takePulse_66 : decode cX3_takePulse 66 = .ok (.goto 11, 3) := by decide +kernel
theorem dX3_takePulse_69 : decode cX3_takePulse 69 = .ok (.aload_n 0, 1) := by decide +kernel
theorem dX3_takePulse_70 : decode cX3_takePulse 70 = .ok (.getfield 28, 3) := by decide +kernel
theorem dX3_takePulse_73 : decode cX3_takePulse 73 = .ok (.iload_n 3, 1) := by decide +kernel
theorem dX3_takePulse_74 : decode cX3_takePulse 74 = .ok (.invokevirtual 193, 3) := by decide +kernel
theorem dX3_takePulse_77 : decode cX3_takePulse 77 = .ok (.return_, 1) := by decide +kernel
theorem dX3_checkLine_0 : decode cX3_checkLine 0 = .ok (.iload_n 2, 1) := by decide +kernel
theorem dX3_checkLine_1 : decode cX3_checkLine 1 = .ok (.aload_n 0, 1) := by decide +kernel
theorem dX3_checkLine_2 : decode cX3_checkLine 2 = .ok (.getfield 28, 3) := by decide +kernel
theorem dX3_checkLine_5 : decode cX3_checkLine 5 = .ok (.getfield 196, 3) := by decide +kernel
theorem dX3_checkLine_8 : decode cX3_checkLine 8 = .ok (.aload_n 0, 1) := by decide +kernel
theorem dX3_checkLine_9 : decode cX3_checkLine 9 = .ok (.getfield 55, 3) := by decide +kernel
theorem dX3_checkLine_12 : decode cX3_checkLine 12 = .ok (.getfield 177, 3) := by decide +kernel
theorem dX3_checkLine_15 : decode cX3_checkLine 15 = .ok (.invokestatic 199, 3) := by decide +kernel
theorem dX3_checkLine_18 : decode cX3_checkLine 18 = .ok (.if_icmp .ne 7, 3) := by decide +kernel
theorem dX3_checkLine_21 : decode cX3_checkLine 21 = .ok (.iconst 1, 1) := by decide +kernel
theorem dX3_checkLine_22 : decode cX3_checkLine 22 = .ok (.goto 4, 3) := by decide +kernel
theorem dX3_checkLine_25 : decode cX3_checkLine 25 = .ok (.iconst 0, 1) := by decide +kernel
theorem dX3_checkLine_26 : decode cX3_checkLine 26 = .ok (.istore_n 3, 1) := by decide +kernel
theorem dX3_checkLine_27 : decode cX3_checkLine 27 = .ok (.iload_n 3, 1) := by decide +kernel
theorem dX3_checkLine_28 : decode cX3_checkLine 28 = .ok (.ifCond .eq 74, 3) := by decide +kernel
theorem dX3_checkLine_31 : decode cX3_checkLine 31 = .ok (.aload_n 0, 1) := by decide +kernel
theorem dX3_checkLine_32 : decode cX3_checkLine 32 = .ok (.getfield 28, 3) := by decide +kernel
theorem dX3_checkLine_35 : decode cX3_checkLine 35 = .ok (.getfield 202, 3) := by decide +kernel
theorem dX3_checkLine_38 : decode cX3_checkLine 38 = .ok (.astore 4, 2) := by decide +kernel
theorem dX3_checkLine_40 : decode cX3_checkLine 40 = .ok (.iconst 0, 1) := by decide +kernel
theorem dX3_checkLine_41 : decode cX3_checkLine 41 = .ok (.istore 5, 2) := by decide +kernel
theorem dX3_checkLine_43 : decode cX3_checkLine 43 = .ok (.iload 5, 2) := by decide +kernel
theorem dX3_checkLine_45 : decode cX3_checkLine 45 = .ok (.aload 4, 2) := by decide +kernel
theorem dX3_checkLine_47 : decode cX3_checkLine 47 = .ok (.invokevirtual 205, 3) := by decide +kernel
theorem dX3_checkLine_50 : decode cX3_checkLine 50 = .ok (.if_icmp .ge 23, 3) := by decide +kernel
theorem dX3_checkLine_53 : decode cX3_checkLine 53 = .ok (.aload_n 1, 1) := by decide +kernel
theorem dX3_checkLine_54 : decode cX3_checkLine 54 = .ok (.getfield 206, 3) := by decide +kernel
theorem dX3_checkLine_57 : decode cX3_checkLine 57 = .ok (.aload 4, 2) := by decide +kernel
theorem dX3_checkLine_59 : decode cX3_checkLine 59 = .ok (.iload 5, 2) := by decide +kernel
theorem dX3_checkLine_61 : decode cX3_checkLine 61 = .ok (.invokevirtual 209, 3) := by decide +kernel
theorem dX3_checkLine_64 : decode cX3_checkLine 64 = .ok (.invokevirtual 212, 3) := by decide +kernel
theorem dX3_checkLine_67 : decode cX3_checkLine 67 = .ok (.iinc 5 1, 3) := by decide +kernel
theorem dX3_checkLine_70 : decode cX3_checkLine 70 = .ok (.goto (-27), 3) := by decide +kernel
theorem dX3_checkLine_73 : decode cX3_checkLine 73 = .ok (.aload_n 1, 1) := by decide +kernel
theorem dX3_checkLine_74 : decode cX3_checkLine 74 = .ok (.getfield 206, 3) := by decide +kernel
theorem dX3_checkLine_77 : decode cX3_checkLine 77 = .ok (.bipush 47, 2) := by decide +kernel
theorem dX3_checkLine_79 : decode cX3_checkLine 79 = .ok (.invokevirtual 212, 3) := by decide +kernel
theorem dX3_checkLine_82 : decode cX3_checkLine 82 = .ok (.aload_n 0, 1) := by decide +kernel
theorem dX3_checkLine_83 : decode cX3_checkLine 83 = .ok (.getfield 41, 3) := by decide +kernel
theorem dX3_checkLine_86 : decode cX3_checkLine 86 = .ok (.aload_n 0, 1) := by decide +kernel
theorem dX3_checkLine_87 : decode cX3_checkLine 87 = .ok (.getfield 59, 3) := by decide +kernel
theorem dX3_checkLine_90 : decode cX3_checkLine 90 = .ok (.iconst 1, 1) := by decide +kernel
theorem dX3_checkLine_91 : decode cX3_checkLine 91 = .ok (.aload 4, 2) := by decide +kernel
theorem dX3_checkLine_93 : decode cX3_checkLine 93 = .ok (.invokevirtual 205, 3) := by decide +kernel
theorem dX3_checkLine_96 : decode cX3_checkLine 96 = .ok (.invokevirtual 122, 3) := by decide +kernel
theorem dX3_checkLine_99 : decode cX3_checkLine 99 = .ok (.goto 22, 3) := by decide +kernel
theorem dX3_checkLine_102 : decode cX3_checkLine 102 = .ok (.aload_n 0, 1) := by decide +kernel
theorem dX3_checkLine_103 : decode cX3_checkLine 103 = .ok (.getfield 41, 3) := by decide +kernel
theorem dX3_checkLine_106 : decode cX3_checkLine 106 = .ok (.aload_n 0, 1) := by decide +kernel
theorem dX3_checkLine_107 : decode cX3_checkLine 107 = .ok (.getfield 59, 3) := by decide +kernel
theorem dX3_checkLine_110 : decode cX3_checkLine 110 = .ok (.iconst 2, 1) := by decide +kernel
theorem dX3_checkLine_111 : decode cX3_checkLine 111 = .ok (.aload_n 0, 1) := by decide +kernel
theorem dX3_checkLine_112 : decode cX3_checkLine 112 = .ok (.getfield 28, 3) := by decide +kernel
theorem dX3_checkLine_115 : decode cX3_checkLine 115 = .ok (.getfield 196, 3) := by decide +kernel
theorem dX3_checkLine_118 : decode cX3_checkLine 118 = .ok (.invokevirtual 122, 3) := by decide +kernel
theorem dX3_checkLine_121 : decode cX3_checkLine 121 = .ok (.aload_n 0, 1) := by decide +kernel
theorem dX3_checkLine_122 : decode cX3_checkLine 122 = .ok (.getfield 37, 3) := by decide +kernel
theorem dX3_checkLine_125 : decode cX3_checkLine 125 = .ok (.aload_n 0, 1) := by decide +kernel
theorem dX3_checkLine_126 : decode cX3_checkLine 126 = .ok (.getfield 59, 3) := by decide +kernel
theorem dX3_checkLine_129 : decode cX3_checkLine 129 = .ok (.aload_n 0, 1) := by decide +kernel
theorem dX3_checkLine_130 : decode cX3_checkLine 130 = .ok (.getfield 55, 3) := by decide +kernel
theorem dX3_checkLine_133 : decode cX3_checkLine 133 = .ok (.getfield 119, 3) := by decide +kernel
theorem dX3_checkLine_136 : decode cX3_checkLine 136 = .ok (.iadd, 1) := by decide +kernel
theorem dX3_checkLine_137 : decode cX3_checkLine 137 = .ok (.iload_n 3, 1) := by decide +kernel
theorem dX3_checkLine_138 : decode cX3_checkLine 138 = .ok (.ifCond .eq 7, 3) := by decide +kernel
theorem dX3_checkLine_141 : decode cX3_checkLine 141 = .ok (.iconst 1, 1) := by decide +kernel
theorem dX3_checkLine_142 : decode cX3_checkLine 142 = .ok (.goto 4, 3) := by decide +kernel
theorem dX3_checkLine_145 : decode cX3_checkLine 145 = .ok (.iconst 2, 1) := by decide +kernel
theorem dX3_checkLine_146 : decode cX3_checkLine 146 = .ok (.iconst (-1), 1) := by decide +kernel
theorem dX3_checkLine_147 : decode cX3_checkLine 147 = .ok (.invokevirtual 122, 3) := by decide +kernel
theorem dX3_checkLine_150 : decode cX3_checkLine 150 = .ok (.aload_n 0, 1) := by decide +kernel
theorem dX3_checkLine_151 : decode cX3_checkLine 151 = .ok (.getfield 28, 3) := by decide +kernel
theorem dX3_checkLine_154 : decode cX3_checkLine 154 = .ok (.invokevirtual 118, 3) := by decide +kernel
theorem dX3_checkLine_157 : decode cX3_checkLine 157 = .ok (.return_, 1) := by decide +kernel
theorem dX3_sendIfPassing_0 : decode cX3_sendIfPassing 0 = .ok (.aload_n 0, 1) := by decide +kernel
theorem dX3_sendIfPassing_1 : decode cX3_sendIfPassing 1 = .ok (.invokevirtual 214, 3) := by decide +kernel
theorem dX3_sendIfPassing_4 : decode cX3_sendIfPassing 4 = .ok (.istore_n 1, 1) := by decide +kernel
theorem dX3_sendIfPassing_5 : decode cX3_sendIfPassing 5 = .ok (.iload_n 1, 1) := by decide +kernel
theorem dX3_sendIfPassing_6 : decode cX3_sendIfPassing 6 = .ok (.iconst (-1), 1) := by decide +kernel
theorem dX3_sendIfPassing_7 : decode cX3_sendIfPassing 7 = .ok (.if_icmp .ne 4, 3) := by decide +kernel
theorem dX3_sendIfPassing_10 : decode cX3_sendIfPassing 10 = .ok (.return_, 1) := by decide +kernel
theorem dX3_sendIfPassing_11 : decode cX3_sendIfPassing 11 = .ok (.aload_n 0, 1) := by decide +kernel
theorem dX3_sendIfPassing_12 : decode cX3_sendIfPassing 12 = .ok (.aload_n 0, 1) := by decide +kernel
theorem dX3_sendIfPassing_13 : decode cX3_sendIfPassing 13 = .ok (.getfield 9, 3) := by decide +kernel
theorem dX3_sendIfPassing_16 : decode cX3_sendIfPassing 16 = .ok (.invokevirtual 170, 3) := by decide +kernel
theorem dX3_sendIfPassing_19 : decode cX3_sendIfPassing 19 = .ok (.astore_n 2, 1) := by decide +kernel
theorem dX3_sendIfPassing_20 : decode cX3_sendIfPassing 20 = .ok (.aload_n 2, 1) := by decide +kernel
theorem dX3_sendIfPassing_21 : decode cX3_sendIfPassing 21 = .ok (.getfield 217, 3) := by decide +kernel
theorem dX3_sendIfPassing_24 : decode cX3_sendIfPassing 24 = .ok (.sipush 1000, 3) := by decide +kernel
theorem dX3_sendIfPassing_27 : decode cX3_sendIfPassing 27 = .ok (.iload_n 1, 1) := by decide +kernel
theorem dX3_sendIfPassing_28 : decode cX3_sendIfPassing 28 = .ok (.imul, 1) := by decide +kernel
theorem dX3_sendIfPassing_29 : decode cX3_sendIfPassing 29 = .ok (.isub, 1) := by decide +kernel
theorem dX3_sendIfPassing_30 : decode cX3_sendIfPassing 30 = .ok (.aload_n 0, 1) := by decide +kernel
theorem dX3_sendIfPassing_31 : decode cX3_sendIfPassing 31 = .ok (.getfield 55, 3) := by decide +kernel
theorem dX3_sendIfPassing_34 : decode cX3_sendIfPassing 34 = .ok (.invokevirtual 129, 3) := by decide +kernel
theorem dX3_sendIfPassing_37 : decode cX3_sendIfPassing 37 = .ok (.invokestatic 220, 3) := by decide +kernel
theorem dX3_sendIfPassing_40 : decode cX3_sendIfPassing 40 = .ok (.aload_n 2, 1) := by decide +kernel
theorem dX3_sendIfPassing_41 : decode cX3_sendIfPassing 41 = .ok (.getfield 126, 3) := by decide +kernel
theorem dX3_sendIfPassing_44 : decode cX3_sendIfPassing 44 = .ok (.if_icmp .lt 4, 3) := by decide +kernel
theorem dX3_sendIfPassing_47 : decode cX3_sendIfPassing 47 = .ok (.return_, 1) := by decide +kernel
theorem dX3_sendIfPassing_48 : decode cX3_sendIfPassing 48 = .ok (.aload_n 0, 1) := by decide +kernel
theorem dX3_sendIfPassing_49 : decode cX3_sendIfPassing 49 = .ok (.iload_n 1, 1) := by decide +kernel
theorem dX3_sendIfPassing_50 : decode cX3_sendIfPassing 50 = .ok (.invokevirtual 223, 3) := by decide +kernel
theorem dX3_sendIfPassing_53 : decode cX3_sendIfPassing 53 = .ok (.aload_n 0, 1) := by decide +kernel
theorem dX3_sendIfPassing_54 : decode cX3_sendIfPassing 54 = .ok (.dup, 1) := by decide +kernel
theorem dX3_sendIfPassing_55 : decode cX3_sendIfPassing 55 = .ok (.getfield 103, 3) := by decide +kernel
theorem dX3_sendIfPassing_58 : decode cX3_sendIfPassing 58 = .ok (.iconst 1, 1) := by decide +kernel
theorem dX3_sendIfPassing_59 : decode cX3_sendIfPassing 59 = .ok (.iadd, 1) := by decide +kernel
theorem dX3_sendIfPassing_60 : decode cX3_sendIfPassing 60 = .ok (.putfield 103, 3) := by decide +kernel
theorem dX3_sendIfPassing_63 : decode cX3_sendIfPassing 63 = .ok (.aload_n 0, 1) := by decide +kernel
theorem dX3_sendIfPassing_64 : decode cX3_sendIfPassing 64 = .ok (.invokevirtual 214, 3) := by decide +kernel
theorem dX3_sendIfPassing_67 : decode cX3_sendIfPassing 67 = .ok (.iconst (-1), 1) := by decide +kernel
theorem dX3_sendIfPassing_68 : decode cX3_sendIfPassing 68 = .ok (.if_icmp .ne 34, 3) := by decide +kernel
theorem dX3_sendIfPassing_71 : decode cX3_sendIfPassing 71 = .ok (.aload_n 0, 1) := by decide +kernel
theorem dX3_sendIfPassing_72 : decode cX3_sendIfPassing 72 = .ok (.iconst 1, 1) := by decide +kernel
theorem dX3_sendIfPassing_73 : decode cX3_sendIfPassing 73 = .ok (.putfield 96, 3) := by decide +kernel
theorem dX3_sendIfPassing_76 : decode cX3_sendIfPassing 76 = .ok (.aload_n 0, 1) := by decide +kernel
theorem dX3_sendIfPassing_77 : decode cX3_sendIfPassing 77 = .ok (.aload_n 0, 1) := by decide +kernel
theorem dX3_sendIfPassing_78 : decode cX3_sendIfPassing 78 = .ok (.getfield 59, 3) := by decide +kernel
theorem dX3_sendIfPassing_81 : decode cX3_sendIfPassing 81 = .ok (.iconst 2, 1) := by decide +kernel
theorem dX3_sendIfPassing_82 : decode cX3_sendIfPassing 82 = .ok (.aload_n 0, 1) := by decide +kernel
theorem dX3_sendIfPassing_83 : decode cX3_sendIfPassing 83 = .ok (.getfield 55, 3) := by decide +kernel
theorem dX3_sendIfPassing_86 : decode cX3_sendIfPassing 86 = .ok (.getfield 119, 3) := by decide +kernel
theorem dX3_sendIfPassing_89 : decode cX3_sendIfPassing 89 = .ok (.imul, 1) := by decide +kernel
theorem dX3_sendIfPassing_90 : decode cX3_sendIfPassing 90 = .ok (.iadd, 1) := by decide +kernel
theorem dX3_sendIfPassing_91 : decode cX3_sendIfPassing 91 = .ok (.aload_n 0, 1) := by decide +kernel
theorem dX3_sendIfPassing_92 : decode cX3_sendIfPassing 92 = .ok (.getfield 55, 3) := by decide +kernel
theorem dX3_sendIfPassing_95 : decode cX3_sendIfPassing 95 = .ok (.getfield 167, 3) := by decide +kernel
theorem dX3_sendIfPassing_98 : decode cX3_sendIfPassing 98 = .ok (.iadd, 1) := by decide +kernel
theorem dX3_sendIfPassing_99 : decode cX3_sendIfPassing 99 = .ok (.putfield 100, 3) := by decide +kernel
theorem dX3_sendIfPassing_102 : decode cX3_sendIfPassing 102 = .ok (.return_, 1) := by decide +kernel
theorem dX3_sendPulse_0 : decode cX3_sendPulse 0 = .ok (.aload_n 0, 1) := by decide +kernel
theorem dX3_sendPulse_1 : decode cX3_sendPulse 1 = .ok (.dup, 1) := by decide +kernel
theorem dX3_sendPulse_2 : decode cX3_sendPulse 2 = .ok (.getfield 68, 3) := by decide +kernel
theorem dX3_sendPulse_5 : decode cX3_sendPulse 5 = .ok (.iconst 1, 1) := by decide +kernel
theorem dX3_sendPulse_6 : decode cX3_sendPulse 6 = .ok (.iadd, 1) := by decide +kernel
theorem dX3_sendPulse_7 : decode cX3_sendPulse 7 = .ok (.putfield 68, 3) := by decide +kernel
theorem dX3_sendPulse_10 : decode cX3_sendPulse 10 = .ok (.aload_n 0, 1) := by decide +kernel
theorem dX3_sendPulse_11 : decode cX3_sendPulse 11 = .ok (.getfield 47, 3) := by decide +kernel
theorem dX3_sendPulse_14 : decode cX3_sendPulse 14 = .ok (.aload_n 0, 1) := by decide +kernel
theorem dX3_sendPulse_15 : decode cX3_sendPulse 15 = .ok (.getfield 68, 3) := by decide +kernel
theorem dX3_sendPulse_18 : decode cX3_sendPulse 18 = .ok (.invokevirtual 226, 3) := by decide +kernel
theorem dX3_sendPulse_21 : decode cX3_sendPulse 21 = .ok (.ifCond .eq 16, 3) := by decide +kernel
theorem dX3_sendPulse_24 : decode cX3_sendPulse 24 = .ok (.aload_n 0, 1) := by decide +kernel
theorem dX3_sendPulse_25 : decode cX3_sendPulse 25 = .ok (.dup, 1) := by decide +kernel
theorem dX3_sendPulse_26 : decode cX3_sendPulse 26 = .ok (.getfield 71, 3) := by decide +kernel
theorem dX3_sendPulse_29 : decode cX3_sendPulse 29 = .ok (.iconst 1, 1) := by decide +kernel
theorem dX3_sendPulse_30 : decode cX3_sendPulse 30 = .ok (.iadd, 1) := by decide +kernel
theorem dX3_sendPulse_31 : decode cX3_sendPulse 31 = .ok (.putfield 71, 3) := by decide +kernel
theorem dX3_sendPulse_34 : decode cX3_sendPulse 34 = .ok (.goto 24, 3) := by decide +kernel
theorem dX3_sendPulse_37 : decode cX3_sendPulse 37 = .ok (.aload_n 0, 1) := by decide +kernel
theorem dX3_sendPulse_38 : decode cX3_sendPulse 38 = .ok (.getfield 37, 3) := by decide +kernel
theorem dX3_sendPulse_41 : decode cX3_sendPulse 41 = .ok (.aload_n 0, 1) := by decide +kernel
theorem dX3_sendPulse_42 : decode cX3_sendPulse 42 = .ok (.getfield 59, 3) := by decide +kernel
theorem dX3_sendPulse_45 : decode cX3_sendPulse 45 = .ok (.aload_n 0, 1) := by decide +kernel
theorem dX3_sendPulse_46 : decode cX3_sendPulse 46 = .ok (.getfield 55, 3) := by decide +kernel
theorem dX3_sendPulse_49 : decode cX3_sendPulse 49 = .ok (.getfield 119, 3) := by decide +kernel
theorem dX3_sendPulse_52 : decode cX3_sendPulse 52 = .ok (.iadd, 1) := by decide +kernel
theorem dX3_sendPulse_53 : decode cX3_sendPulse 53 = .ok (.iconst 0, 1) := by decide +kernel
theorem dX3_sendPulse_54 : decode cX3_sendPulse 54 = .ok (.iload_n 1, 1) := by decide +kernel
theorem dX3_sendPulse_55 : decode cX3_sendPulse 55 = .ok (.invokevirtual 122, 3) := by decide +kernel
theorem dX3_sendPulse_58 : decode cX3_sendPulse 58 = .ok (.return_, 1) := by decide +kernel
theorem dX3_nextPosition_0 : decode cX3_nextPosition 0 = .ok (.aload_n 0, 1) := by decide +kernel
theorem dX3_nextPosition_1 : decode cX3_nextPosition 1 = .ok (.getfield 9, 3) := by decide +kernel
theorem dX3_nextPosition_4 : decode cX3_nextPosition 4 = .ok (.iconst (-1), 1) := by decide +kernel
theorem dX3_nextPosition_5 : decode cX3_nextPosition 5 = .ok (.if_icmp .eq 10, 3) := by decide +kernel
theorem dX3_nextPosition_8 : decode cX3_nextPosition 8 = .ok (.aload_n 0, 1) := by decide +kernel
theorem dX3_nextPosition_9 : decode cX3_nextPosition 9 = .ok (.getfield 96, 3) := by decide +kernel
theorem dX3_nextPosition_12 : decode cX3_nextPosition 12 = .ok (.ifCond .eq 5, 3) := by decide +kernel
theorem dX3_nextPosition_15 : decode cX3_nextPosition 15 = .ok (.iconst (-1), 1) := by decide +kernel
theorem dX3_nextPosition_16 : decode cX3_nextPosition 16 = .ok (.ireturn, 1) := by decide +kernel
theorem dX3_nextPosition_17 : decode cX3_nextPosition 17 = .ok (.aload_n 0, 1) := by decide +kernel
theorem dX3_nextPosition_18 : decode cX3_nextPosition 18 = .ok (.getfield 55, 3) := by decide +kernel
theorem dX3_nextPosition_21 : decode cX3_nextPosition 21 = .ok (.aload_n 0, 1) := by decide +kernel
theorem dX3_nextPosition_22 : decode cX3_nextPosition 22 = .ok (.getfield 9, 3) := by decide +kernel
theorem dX3_nextPosition_25 : decode cX3_nextPosition 25 = .ok (.invokevirtual 230, 3) := by decide +kernel
theorem dX3_nextPosition_28 : decode cX3_nextPosition 28 = .ok (.aload_n 0, 1) := by decide +kernel
theorem dX3_nextPosition_29 : decode cX3_nextPosition 29 = .ok (.aload_n 0, 1) := by decide +kernel
theorem dX3_nextPosition_30 : decode cX3_nextPosition 30 = .ok (.getfield 9, 3) := by decide +kernel
theorem dX3_nextPosition_33 : decode cX3_nextPosition 33 = .ok (.invokevirtual 170, 3) := by decide +kernel
theorem dX3_nextPosition_36 : decode cX3_nextPosition 36 = .ok (.getfield 174, 3) := by decide +kernel
theorem dX3_nextPosition_39 : decode cX3_nextPosition 39 = .ok (.invokevirtual 234, 3) := by decide +kernel
theorem dX3_nextPosition_42 : decode cX3_nextPosition 42 = .ok (.astore_n 1, 1) := by decide +kernel
theorem dX3_nextPosition_43 : decode cX3_nextPosition 43 = .ok (.aload_n 1, 1) := by decide +kernel
theorem dX3_nextPosition_44 : decode cX3_nextPosition 44 = .ok (.ifnonnull 7, 3) := by decide +kernel
theorem dX3_nextPosition_47 : decode cX3_nextPosition 47 = .ok (.iconst (-1), 1) := by decide +kernel
theorem dX3_nextPosition_48 : decode cX3_nextPosition 48 = .ok (.goto 14, 3) := by decide +kernel
theorem dX3_nextPosition_51 : decode cX3_nextPosition 51 = .ok (.aload_n 1, 1) := by decide +kernel
theorem dX3_nextPosition_52 : decode cX3_nextPosition 52 = .ok (.getfield 240, 3) := by decide +kernel
theorem dX3_nextPosition_55 : decode cX3_nextPosition 55 = .ok (.aload_n 0, 1) := by decide +kernel
theorem dX3_nextPosition_56 : decode cX3_nextPosition 56 = .ok (.getfield 103, 3) := by decide +kernel
theorem dX3_nextPosition_59 : decode cX3_nextPosition 59 = .ok (.invokevirtual 209, 3) := by decide +kernel
theorem dX3_nextPosition_62 : decode cX3_nextPosition 62 = .ok (.ireturn, 1) := by decide +kernel
theorem dX3_endLine_0 : decode cX3_endLine 0 = .ok (.aload_n 0, 1) := by decide +kernel
theorem dX3_endLine_1 : decode cX3_endLine 1 = .ok (.aload_n 0, 1) := by decide +kernel
theorem dX3_endLine_2 : decode cX3_endLine 2 = .ok (.getfield 9, 3) := by decide +kernel
theorem dX3_endLine_5 : decode cX3_endLine 5 = .ok (.invokevirtual 170, 3) := by decide +kernel
theorem dX3_endLine_8 : decode cX3_endLine 8 = .ok (.astore_n 2, 1) := by decide +kernel
theorem dX3_endLine_9 : decode cX3_endLine 9 = .ok (.aload_n 0, 1) := by decide +kernel
theorem dX3_endLine_10 : decode cX3_endLine 10 = .ok (.iconst 0, 1) := by decide +kernel
theorem dX3_endLine_11 : decode cX3_endLine 11 = .ok (.putfield 96, 3) := by decide +kernel
theorem dX3_endLine_14 : decode cX3_endLine 14 = .ok (.aload_n 0, 1) := by decide +kernel
theorem dX3_endLine_15 : decode cX3_endLine 15 = .ok (.iconst 0, 1) := by decide +kernel
theorem dX3_endLine_16 : decode cX3_endLine 16 = .ok (.putfield 103, 3) := by decide +kernel
theorem dX3_endLine_19 : decode cX3_endLine 19 = .ok (.iload_n 1, 1) := by decide +kernel
theorem dX3_endLine_20 : decode cX3_endLine 20 = .ok (.ifCond .ne 44, 3) := by decide +kernel
theorem dX3_endLine_23 : decode cX3_endLine 23 = .ok (.aload_n 0, 1) := by decide +kernel
theorem dX3_endLine_24 : decode cX3_endLine 24 = .ok (.getfield 106, 3) := by decide +kernel
theorem dX3_endLine_27 : decode cX3_endLine 27 = .ok (.aload_n 0, 1) := by decide +kernel
theorem dX3_endLine_28 : decode cX3_endLine 28 = .ok (.getfield 55, 3) := by decide +kernel
theorem dX3_endLine_31 : decode cX3_endLine 31 = .ok (.getfield 244, 3) := by decide +kernel
theorem dX3_endLine_34 : decode cX3_endLine 34 = .ok (.if_icmp .ge 30, 3) := by decide +kernel
theorem dX3_endLine_37 : decode cX3_endLine 37 = .ok (.aload_n 0, 1) := by decide +kernel
theorem dX3_endLine_38 : decode cX3_endLine 38 = .ok (.dup, 1) := by decide +kernel
theorem dX3_endLine_39 : decode cX3_endLine 39 = .ok (.getfield 106, 3) := by decide +kernel
theorem dX3_endLine_42 : decode cX3_endLine 42 = .ok (.iconst 1, 1) := by decide +kernel
theorem dX3_endLine_43 : decode cX3_endLine 43 = .ok (.iadd, 1) := by decide +kernel
theorem dX3_endLine_44 : decode cX3_endLine 44 = .ok (.putfield 106, 3) := by decide +kernel
theorem dX3_endLine_47 : decode cX3_endLine 47 = .ok (.aload_n 0, 1) := by decide +kernel
theorem dX3_endLine_48 : decode cX3_endLine 48 = .ok (.getfield 41, 3) := by decide +kernel
theorem dX3_endLine_51 : decode cX3_endLine 51 = .ok (.aload_n 0, 1) := by decide +kernel
theorem dX3_endLine_52 : decode cX3_endLine 52 = .ok (.getfield 59, 3) := by decide +kernel
theorem dX3_endLine_55 : decode cX3_endLine 55 = .ok (.iconst 3, 1) := by decide +kernel
theorem dX3_endLine_56 : decode cX3_endLine 56 = .ok (.aload_n 2, 1) := by decide +kernel
theorem dX3_endLine_57 : decode cX3_endLine 57 = .ok (.getfield 174, 3) := by decide +kernel
theorem dX3_endLine_60 : decode cX3_endLine 60 = .ok (.invokevirtual 122, 3) := by decide +kernel
theorem dX3_endLine_63 : decode cX3_endLine 63 = .ok (.return_, 1) := by decide +kernel
theorem dX3_endLine_64 : decode cX3_endLine 64 = .ok (.iload_n 1, 1) := by decide +kernel
theorem dX3_endLine_65 : decode cX3_endLine 65 = .ok (.ifCond .ne 19, 3) := by decide +kernel
theorem dX3_endLine_68 : decode cX3_endLine 68 = .ok (.aload_n 0, 1) := by decide +kernel
theorem dX3_endLine_69 : decode cX3_endLine 69 = .ok (.getfield 41, 3) := by decide +kernel
theorem dX3_endLine_72 : decode cX3_endLine 72 = .ok (.aload_n 0, 1) := by decide +kernel
theorem dX3_endLine_73 : decode cX3_endLine 73 = .ok (.getfield 59, 3) := by decide +kernel
theorem dX3_endLine_76 : decode cX3_endLine 76 = .ok (.iconst 4, 1) := by decide +kernel
theorem dX3_endLine_77 : decode cX3_endLine 77 = .ok (.aload_n 2, 1) := by decide +kernel
theorem dX3_endLine_78 : decode cX3_endLine 78 = .ok (.getfield 174, 3) := by decide +kernel
theorem dX3_endLine_81 : decode cX3_endLine 81 = .ok (.invokevirtual 122, 3) := by decide +kernel
theorem dX3_endLine_84 : decode cX3_endLine 84 = .ok (.aload_n 2, 1) := by decide +kernel
theorem dX3_endLine_85 : decode cX3_endLine 85 = .ok (.dup, 1) := by decide +kernel
theorem dX3_endLine_86 : decode cX3_endLine 86 = .ok (.getfield 174, 3) := by decide +kernel
theorem dX3_endLine_89 : decode cX3_endLine 89 = .ok (.iconst 1, 1) := by decide +kernel
theorem dX3_endLine_90 : decode cX3_endLine 90 = .ok (.iadd, 1) := by decide +kernel
theorem dX3_endLine_91 : decode cX3_endLine 91 = .ok (.putfield 174, 3) := by decide +kernel
theorem dX3_endLine_94 : decode cX3_endLine 94 = .ok (.aload_n 0, 1) := by decide +kernel
theorem dX3_endLine_95 : decode cX3_endLine 95 = .ok (.iconst 0, 1) := by decide +kernel
theorem dX3_endLine_96 : decode cX3_endLine 96 = .ok (.putfield 106, 3) := by decide +kernel
theorem dX3_endLine_99 : decode cX3_endLine 99 = .ok (.aload_n 2, 1) := by decide +kernel
theorem dX3_endLine_100 : decode cX3_endLine 100 = .ok (.getfield 174, 3) := by decide +kernel
theorem dX3_endLine_103 : decode cX3_endLine 103 = .ok (.aload_n 0, 1) := by decide +kernel
theorem dX3_endLine_104 : decode cX3_endLine 104 = .ok (.getfield 55, 3) := by decide +kernel
theorem dX3_endLine_107 : decode cX3_endLine 107 = .ok (.aload_n 0, 1) := by decide +kernel
theorem dX3_endLine_108 : decode cX3_endLine 108 = .ok (.getfield 9, 3) := by decide +kernel
theorem dX3_endLine_111 : decode cX3_endLine 111 = .ok (.invokevirtual 230, 3) := by decide +kernel
theorem dX3_endLine_114 : decode cX3_endLine 114 = .ok (.getfield 247, 3) := by decide +kernel
theorem dX3_endLine_117 : decode cX3_endLine 117 = .ok (.if_icmp .lt 24, 3) := by decide +kernel
theorem dX3_endLine_120 : decode cX3_endLine 120 = .ok (.aload_n 0, 1) := by decide +kernel
theorem dX3_endLine_121 : decode cX3_endLine 121 = .ok (.getfield 41, 3) := by decide +kernel
theorem dX3_endLine_124 : decode cX3_endLine 124 = .ok (.aload_n 0, 1) := by decide +kernel
theorem dX3_endLine_125 : decode cX3_endLine 125 = .ok (.getfield 59, 3) := by decide +kernel
theorem dX3_endLine_128 : decode cX3_endLine 128 = .ok (.bipush 6, 2) := by decide +kernel
theorem dX3_endLine_130 : decode cX3_endLine 130 = .ok (.aload_n 0, 1) := by decide +kernel
theorem dX3_endLine_131 : decode cX3_endLine 131 = .ok (.getfield 9, 3) := by decide +kernel
theorem dX3_endLine_134 : decode cX3_endLine 134 = .ok (.invokevirtual 122, 3) := by decide +kernel
theorem dX3_endLine_137 : decode cX3_endLine 137 = .ok (.aload_n 0, 1) := by decide +kernel
theorem dX3_endLine_138 : decode cX3_endLine 138 = .ok (.invokevirtual 93, 3) := by decide +kernel
theorem dX3_endLine_141 : decode cX3_endLine 141 = .ok (.return_, 1) := by decide +kernel
theorem dX3_endTransmission_0 : decode cX3_endTransmission 0 = .ok (.aload_n 0, 1) := by decide +kernel
theorem dX3_endTransmission_1 : decode cX3_endTransmission 1 = .ok (.iconst (-1), 1) := by decide +kernel
theorem dX3_endTransmission_2 : decode cX3_endTransmission 2 = .ok (.putfield 9, 3) := by decide +kernel
theorem dX3_endTransmission_5 : decode cX3_endTransmission 5 = .ok (.aload_n 0, 1) := by decide +kernel
theorem dX3_endTransmission_6 : decode cX3_endTransmission 6 = .ok (.iconst 0, 1) := by decide +kernel
theorem dX3_endTransmission_7 : decode cX3_endTransmission 7 = .ok (.putfield 96, 3) := by decide +kernel
theorem dX3_endTransmission_10 : decode cX3_endTransmission 10 = .ok (.aload_n 0, 1) := by decide +kernel
theorem dX3_endTransmission_11 : decode cX3_endTransmission 11 = .ok (.iconst 0, 1) := by decide +kernel
theorem dX3_endTransmission_12 : decode cX3_endTransmission 12 = .ok (.putfield 103, 3) := by decide +kernel
theorem dX3_endTransmission_15 : decode cX3_endTransmission 15 = .ok (.aload_n 0, 1) := by decide +kernel
theorem dX3_endTransmission_16 : decode cX3_endTransmission 16 = .ok (.iconst 0, 1) := by decide +kernel
theorem dX3_endTransmission_17 : decode cX3_endTransmission 17 = .ok (.putfield 106, 3) := by decide +kernel
theorem dX3_endTransmission_20 : decode cX3_endTransmission 20 = .ok (.aload_n 0, 1) := by decide +kernel
theorem dX3_endTransmission_21 : decode cX3_endTransmission 21 = .ok (.getfield 28, 3) := by decide +kernel
theorem dX3_endTransmission_24 : decode cX3_endTransmission 24 = .ok (.invokevirtual 118, 3) := by decide +kernel
theorem dX3_endTransmission_27 : decode cX3_endTransmission 27 = .ok (.aload_n 0, 1) := by decide +kernel
theorem dX3_endTransmission_28 : decode cX3_endTransmission 28 = .ok (.getfield 37, 3) := by decide +kernel
theorem dX3_endTransmission_31 : decode cX3_endTransmission 31 = .ok (.invokevirtual 82, 3) := by decide +kernel
theorem dX3_endTransmission_34 : decode cX3_endTransmission 34 = .ok (.return_, 1) := by decide +kernel
theorem dX4_init_0 : decode cX4_init 0 = .ok (.aload_n 0, 1) := by decide +kernel
theorem dX4_init_1 : decode cX4_init 1 = .ok (.invokespecial 3, 3) := by decide +kernel
theorem dX4_init_4 : decode cX4_init 4 = .ok (.aload_n 0, 1) := by decide +kernel
theorem dX4_init_5 : decode cX4_init 5 = .ok (.new 9, 3) := by decide +kernel
theorem dX4_init_8 : decode cX4_init 8 = .ok (.dup, 1) := by decide +kernel
theorem dX4_init_9 : decode cX4_init 9 = .ok (.sipush 1000, 3) := by decide +kernel
theorem dX4_init_12 : decode cX4_init 12 = .ok (.invokespecial 13, 3) := by decide +kernel
theorem dX4_init_15 : decode cX4_init 15 = .ok (.putfield 16, 3) := by decide +kernel
theorem dX4_init_18 : decode cX4_init 18 = .ok (.return_, 1) := by decide +kernel
theorem dX4_begin_0 : decode cX4_begin 0 = .ok (.aload_n 0, 1) := by decide +kernel
theorem dX4_begin_1 : decode cX4_begin 1 = .ok (.aload_n 1, 1) := by decide +kernel
theorem dX4_begin_2 : decode cX4_begin 2 = .ok (.getfield 20, 3) := by decide +kernel
theorem dX4_begin_5 : decode cX4_begin 5 = .ok (.putfield 26, 3) := by decide +kernel
theorem dX4_begin_8 : decode cX4_begin 8 = .ok (.aload_n 0, 1) := by decide +kernel
theorem dX4_begin_9 : decode cX4_begin 9 = .ok (.aload_n 1, 1) := by decide +kernel
theorem dX4_begin_10 : decode cX4_begin 10 = .ok (.getfield 27, 3) := by decide +kernel
theorem dX4_begin_13 : decode cX4_begin 13 = .ok (.putfield 30, 3) := by decide +kernel
theorem dX4_begin_16 : decode cX4_begin 16 = .ok (.aload_n 0, 1) := by decide +kernel
theorem dX4_begin_17 : decode cX4_begin 17 = .ok (.iconst 0, 1) := by decide +kernel
theorem dX4_begin_18 : decode cX4_begin 18 = .ok (.putfield 31, 3) := by decide +kernel
theorem dX4_begin_21 : decode cX4_begin 21 = .ok (.aload_n 0, 1) := by decide +kernel
theorem dX4_begin_22 : decode cX4_begin 22 = .ok (.iconst 0, 1) := by decide +kernel
theorem dX4_begin_23 : decode cX4_begin 23 = .ok (.putfield 34, 3) := by decide +kernel
theorem dX4_begin_26 : decode cX4_begin 26 = .ok (.aload_n 0, 1) := by decide +kernel
theorem dX4_begin_27 : decode cX4_begin 27 = .ok (.iconst 0, 1) := by decide +kernel
theorem dX4_begin_28 : decode cX4_begin 28 = .ok (.putfield 37, 3) := by decide +kernel
theorem dX4_begin_31 : decode cX4_begin 31 = .ok (.aload_n 0, 1) := by decide +kernel
theorem dX4_begin_32 : decode cX4_begin 32 = .ok (.iconst 0, 1) := by decide +kernel
theorem dX4_begin_33 : decode cX4_begin 33 = .ok (.putfield 40, 3) := by decide +kernel
theorem dX4_begin_36 : decode cX4_begin 36 = .ok (.aload_n 0, 1) := by decide +kernel
theorem dX4_begin_37 : decode cX4_begin 37 = .ok (.lconst 0, 1) := by decide +kernel
theorem dX4_begin_38 : decode cX4_begin 38 = .ok (.putfield 43, 3) := by decide +kernel
theorem dX4_begin_41 : decode cX4_begin 41 = .ok (.aload_n 0, 1) := by decide +kernel
theorem dX4_begin_42 : decode cX4_begin 42 = .ok (.getfield 16, 3) := by decide +kernel
theorem dX4_begin_45 : decode cX4_begin 45 = .ok (.invokevirtual 47, 3) := by decide +kernel
theorem dX4_begin_48 : decode cX4_begin 48 = .ok (.return_, 1) := by decide +kernel
theorem dX4_copyFrom_0 : decode cX4_copyFrom 0 = .ok (.aload_n 0, 1) := by decide +kernel
theorem dX4_copyFrom_1 : decode cX4_copyFrom 1 = .ok (.aload_n 1, 1) := by decide +kernel
theorem dX4_copyFrom_2 : decode cX4_copyFrom 2 = .ok (.getfield 26, 3) := by decide +kernel
theorem dX4_copyFrom_5 : decode cX4_copyFrom 5 = .ok (.putfield 26, 3) := by decide +kernel
theorem dX4_copyFrom_8 : decode cX4_copyFrom 8 = .ok (.aload_n 0, 1) := by decide +kernel
theorem dX4_copyFrom_9 : decode cX4_copyFrom 9 = .ok (.aload_n 1, 1) := by decide +kernel
theorem dX4_copyFrom_10 : decode cX4_copyFrom 10 = .ok (.getfield 30, 3) := by decide +kernel
theorem dX4_copyFrom_13 : decode cX4_copyFrom 13 = .ok (.putfield 30, 3) := by decide +kernel
theorem dX4_copyFrom_16 : decode cX4_copyFrom 16 = .ok (.aload_n 0, 1) := by decide +kernel
theorem dX4_copyFrom_17 : decode cX4_copyFrom 17 = .ok (.aload_n 1, 1) := by decide +kernel
theorem dX4_copyFrom_18 : decode cX4_copyFrom 18 = .ok (.getfield 31, 3) := by decide +kernel
theorem dX4_copyFrom_21 : decode cX4_copyFrom 21 = .ok (.putfield 31, 3) := by decide +kernel
theorem dX4_copyFrom_24 : decode cX4_copyFrom 24 = .ok (.aload_n 0, 1) := by decide +kernel
theorem dX4_copyFrom_25 : decode cX4_copyFrom 25 = .ok (.aload_n 1, 1) := by decide +kernel
theorem dX4_copyFrom_26 : decode cX4_copyFrom 26 = .ok (.getfield 34, 3) := by decide +kernel
theorem dX4_copyFrom_29 : decode cX4_copyFrom 29 = .ok (.putfield 34, 3) := by decide +kernel
theorem dX4_copyFrom_32 : decode cX4_copyFrom 32 = .ok (.aload_n 0, 1) := by decide +kernel
theorem dX4_copyFrom_33 : decode cX4_copyFrom 33 = .ok (.aload_n 1, 1) := by decide +kernel
theorem dX4_copyFrom_34 : decode cX4_copyFrom 34 = .ok (.getfield 37, 3) := by decide +kernel
theorem dX4_copyFrom_37 : decode cX4_copyFrom 37 = .ok (.putfield 37, 3) := by decide +kernel
theorem dX4_copyFrom_40 : decode cX4_copyFrom 40 = .ok (.aload_n 0, 1) := by decide +kernel
theorem dX4_copyFrom_41 : decode cX4_copyFrom 41 = .ok (.aload_n 1, 1) := by decide +kernel
theorem dX4_copyFrom_42 : decode cX4_copyFrom 42 = .ok (.getfield 40, 3) := by decide +kernel
theorem dX4_copyFrom_45 : decode cX4_copyFrom 45 = .ok (.putfield 40, 3) := by decide +kernel
theorem dX4_copyFrom_48 : decode cX4_copyFrom 48 = .ok (.aload_n 0, 1) := by decide +kernel
theorem dX4_copyFrom_49 : decode cX4_copyFrom 49 = .ok (.aload_n 1, 1) := by decide +kernel
theorem dX4_copyFrom_50 : decode cX4_copyFrom 50 = .ok (.getfield 43, 3) := by decide +kernel
theorem dX4_copyFrom_53 : decode cX4_copyFrom 53 = .ok (.putfield 43, 3) := by decide +kernel
theorem dX4_copyFrom_56 : decode cX4_copyFrom 56 = .ok (.aload_n 0, 1) := by decide +kernel
theorem dX4_copyFrom_57 : decode cX4_copyFrom 57 = .ok (.getfield 16, 3) := by decide +kernel
theorem dX4_copyFrom_60 : decode cX4_copyFrom 60 = .ok (.aload_n 1, 1) := by decide +kernel
theorem dX4_copyFrom_61 : decode cX4_copyFrom 61 = .ok (.getfield 16, 3) := by decide +kernel
theorem dX4_copyFrom_64 : decode cX4_copyFrom 64 = .ok (.invokevirtual 50, 3) := by decide +kernel
theorem dX4_copyFrom_67 : decode cX4_copyFrom 67 = .ok (.return_, 1) := by decide +kernel
theorem dX4_turn_0 : decode cX4_turn 0 = .ok (.aload_n 0, 1) := by decide +kernel
theorem dX4_turn_1 : decode cX4_turn 1 = .ok (.aload_n 0, 1) := by decide +kernel
theorem dX4_turn_2 : decode cX4_turn 2 = .ok (.getfield 26, 3) := by decide +kernel
theorem dX4_turn_5 : decode cX4_turn 5 = .ok (.iload_n 1, 1) := by decide +kernel
theorem dX4_turn_6 : decode cX4_turn 6 = .ok (.iadd, 1) := by decide +kernel
theorem dX4_turn_7 : decode cX4_turn 7 = .ok (.iload_n 2, 1) := by decide +kernel
theorem dX4_turn_8 : decode cX4_turn 8 = .ok (.invokestatic 54, 3) := by decide +kernel
theorem dX4_turn_11 : decode cX4_turn 11 = .ok (.putfield 26, 3) := by decide +kernel
theorem dX4_turn_14 : decode cX4_turn 14 = .ok (.return_, 1) := by decide +kernel
theorem dX4_nearestPosition_0 : decode cX4_nearestPosition 0 = .ok (.aload_n 0, 1) := by decide +kernel
theorem dX4_nearestPosition_1 : decode cX4_nearestPosition 1 = .ok (.getfield 26, 3) := by decide +kernel
theorem dX4_nearestPosition_4 : decode cX4_nearestPosition 4 = .ok (.sipush 500, 3) := by decide +kernel
theorem dX4_nearestPosition_7 : decode cX4_nearestPosition 7 = .ok (.iadd, 1) := by decide +kernel
theorem dX4_nearestPosition_8 : decode cX4_nearestPosition 8 = .ok (.sipush 1000, 3) := by decide +kernel
theorem dX4_nearestPosition_11 : decode cX4_nearestPosition 11 = .ok (.idiv, 1) := by decide +kernel
theorem dX4_nearestPosition_12 : decode cX4_nearestPosition 12 = .ok (.ireturn, 1) := by decide +kernel
theorem dX4_print_0 : decode cX4_print 0 = .ok (.aload_n 0, 1) := by decide +kernel
theorem dX4_print_1 : decode cX4_print 1 = .ok (.invokevirtual 58, 3) := by decide +kernel
theorem dX4_print_4 : decode cX4_print 4 = .ok (.istore_n 3, 1) := by decide +kernel
theorem dX4_print_5 : decode cX4_print 5 = .ok (.aload_n 0, 1) := by decide +kernel
theorem dX4_print_6 : decode cX4_print 6 = .ok (.getfield 26, 3) := by decide +kernel
theorem dX4_print_9 : decode cX4_print 9 = .ok (.sipush 1000, 3) := by decide +kernel
theorem dX4_print_12 : decode cX4_print 12 = .ok (.iload_n 3, 1) := by decide +kernel
theorem dX4_print_13 : decode cX4_print 13 = .ok (.imul, 1) := by decide +kernel
theorem dX4_print_14 : decode cX4_print 14 = .ok (.isub, 1) := by decide +kernel
theorem dX4_print_15 : decode cX4_print 15 = .ok (.istore 4, 2) := by decide +kernel
theorem dX4_print_17 : decode cX4_print 17 = .ok (.aload_n 0, 1) := by decide +kernel
theorem dX4_print_18 : decode cX4_print 18 = .ok (.dup, 1) := by decide +kernel
theorem dX4_print_19 : decode cX4_print 19 = .ok (.getfield 34, 3) := by decide +kernel
theorem dX4_print_22 : decode cX4_print 22 = .ok (.iconst 1, 1) := by decide +kernel
theorem dX4_print_23 : decode cX4_print 23 = .ok (.iadd, 1) := by decide +kernel
theorem dX4_print_24 : decode cX4_print 24 = .ok (.putfield 34, 3) := by decide +kernel
theorem dX4_print_27 : decode cX4_print 27 = .ok (.aload_n 0, 1) := by decide +kernel
theorem dX4_print_28 : decode cX4_print 28 = .ok (.dup, 1) := by decide +kernel
theorem dX4_print_29 : decode cX4_print 29 = .ok (.getfield 43, 3) := by decide +kernel
theorem dX4_print_32 : decode cX4_print 32 = .ok (.iload 4, 2) := by decide +kernel
theorem dX4_print_34 : decode cX4_print 34 = .ok (.i2l, 1) := by decide +kernel
theorem dX4_print_35 : decode cX4_print 35 = .ok (.ladd, 1) := by decide +kernel
theorem dX4_print_36 : decode cX4_print 36 = .ok (.putfield 43, 3) := by decide +kernel
theorem dX4_print_39 : decode cX4_print 39 = .ok (.aload_n 0, 1) := by decide +kernel
theorem dX4_print_40 : decode cX4_print 40 = .ok (.aload_n 0, 1) := by decide +kernel
theorem dX4_print_41 : decode cX4_print 41 = .ok (.getfield 40, 3) := by decide +kernel
theorem dX4_print_44 : decode cX4_print 44 = .ok (.iload 4, 2) := by decide +kernel
theorem dX4_print_46 : decode cX4_print 46 = .ok (.invokestatic 62, 3) := by decide +kernel
theorem dX4_print_49 : decode cX4_print 49 = .ok (.invokestatic 68, 3) := by decide +kernel
theorem dX4_print_52 : decode cX4_print 52 = .ok (.putfield 40, 3) := by decide +kernel
theorem dX4_print_55 : decode cX4_print 55 = .ok (.iload_n 1, 1) := by decide +kernel
theorem dX4_print_56 : decode cX4_print 56 = .ok (.ineg, 1) := by decide +kernel
theorem dX4_print_57 : decode cX4_print 57 = .ok (.iload 4, 2) := by decide +kernel
theorem dX4_print_59 : decode cX4_print 59 = .ok (.iload_n 1, 1) := by decide +kernel
theorem dX4_print_60 : decode cX4_print 60 = .ok (.invokestatic 71, 3) := by decide +kernel
theorem dX4_print_63 : decode cX4_print 63 = .ok (.invokestatic 68, 3) := by decide +kernel
theorem dX4_print_66 : decode cX4_print 66 = .ok (.istore 5, 2) := by decide +kernel
theorem dX4_print_68 : decode cX4_print 68 = .ok (.aload_n 0, 1) := by decide +kernel
theorem dX4_print_69 : decode cX4_print 69 = .ok (.iload 5, 2) := by decide +kernel
theorem dX4_print_71 : decode cX4_print 71 = .ok (.ineg, 1) := by decide +kernel
theorem dX4_print_72 : decode cX4_print 72 = .ok (.sipush 1000, 3) := by decide +kernel
theorem dX4_print_75 : decode cX4_print 75 = .ok (.iload_n 2, 1) := by decide +kernel
theorem dX4_print_76 : decode cX4_print 76 = .ok (.imul, 1) := by decide +kernel
theorem dX4_print_77 : decode cX4_print 77 = .ok (.invokevirtual 74, 3) := by decide +kernel
theorem dX4_print_80 : decode cX4_print 80 = .ok (.iload_n 3, 1) := by decide +kernel
theorem dX4_print_81 : decode cX4_print 81 = .ok (.iload_n 2, 1) := by decide +kernel
theorem dX4_print_82 : decode cX4_print 82 = .ok (.invokestatic 54, 3) := by decide +kernel
theorem dX4_print_85 : decode cX4_print 85 = .ok (.ireturn, 1) := by decide +kernel
theorem dX5_init_0 : decode cX5_init 0 = .ok (.aload_n 0, 1) := by decide +kernel
theorem dX5_init_1 : decode cX5_init 1 = .ok (.invokespecial 3, 3) := by decide +kernel
theorem dX5_init_4 : decode cX5_init 4 = .ok (.aload_n 0, 1) := by decide +kernel
theorem dX5_init_5 : decode cX5_init 5 = .ok (.new 9, 3) := by decide +kernel
theorem dX5_init_8 : decode cX5_init 8 = .ok (.dup, 1) := by decide +kernel
theorem dX5_init_9 : decode cX5_init 9 = .ok (.aload_n 1, 1) := by decide +kernel
theorem dX5_init_10 : decode cX5_init 10 = .ok (.invokespecial 11, 3) := by decide +kernel
theorem dX5_init_13 : decode cX5_init 13 = .ok (.putfield 14, 3) := by decide +kernel
theorem dX5_init_16 : decode cX5_init 16 = .ok (.return_, 1) := by decide +kernel
theorem dX5_read_0 : decode cX5_read 0 = .ok (.aload_n 1, 1) := by decide +kernel
theorem dX5_read_1 : decode cX5_read 1 = .ok (.invokevirtual 20, 3) := by decide +kernel
theorem dX5_read_4 : decode cX5_read 4 = .ok (.aload_n 0, 1) := by decide +kernel
theorem dX5_read_5 : decode cX5_read 5 = .ok (.iconst 0, 1) := by decide +kernel
theorem dX5_read_6 : decode cX5_read 6 = .ok (.putfield 25, 3) := by decide +kernel
theorem dX5_read_9 : decode cX5_read 9 = .ok (.aload_n 0, 1) := by decide +kernel
theorem dX5_read_10 : decode cX5_read 10 = .ok (.getfield 14, 3) := by decide +kernel
theorem dX5_read_13 : decode cX5_read 13 = .ok (.invokevirtual 29, 3) := by decide +kernel
theorem dX5_read_16 : decode cX5_read 16 = .ok (.iconst 0, 1) := by decide +kernel
theorem dX5_read_17 : decode cX5_read 17 = .ok (.istore_n 2, 1) := by decide +kernel
theorem dX5_read_18 : decode cX5_read 18 = .ok (.iload_n 2, 1) := by decide +kernel
theorem dX5_read_19 : decode cX5_read 19 = .ok (.sipush 600, 3) := by decide +kernel
theorem dX5_read_22 : decode cX5_read 22 = .ok (.if_icmp .ge 53, 3) := by decide +kernel
theorem dX5_read_25 : decode cX5_read 25 = .ok (.aload_n 0, 1) := by decide +kernel
theorem dX5_read_26 : decode cX5_read 26 = .ok (.getfield 14, 3) := by decide +kernel
theorem dX5_read_29 : decode cX5_read 29 = .ok (.getfield 32, 3) := by decide +kernel
theorem dX5_read_32 : decode cX5_read 32 = .ok (.ifCond .eq 43, 3) := by decide +kernel
theorem dX5_read_35 : decode cX5_read 35 = .ok (.iload_n 2, 1) := by decide +kernel
theorem dX5_read_36 : decode cX5_read 36 = .ok (.ifCond .ne 7, 3) := by decide +kernel
theorem dX5_read_39 : decode cX5_read 39 = .ok (.iconst 1, 1) := by decide +kernel
theorem dX5_read_40 : decode cX5_read 40 = .ok (.goto 4, 3) := by decide +kernel
theorem dX5_read_43 : decode cX5_read 43 = .ok (.iconst 0, 1) := by decide +kernel
theorem dX5_read_44 : decode cX5_read 44 = .ok (.istore_n 3, 1) := by decide +kernel
theorem dX5_read_45 : decode cX5_read 45 = .ok (.aload_n 0, 1) := by decide +kernel
theorem dX5_read_46 : decode cX5_read 46 = .ok (.aload_n 1, 1) := by decide +kernel
theorem dX5_read_47 : decode cX5_read 47 = .ok (.iload_n 3, 1) := by decide +kernel
theorem dX5_read_48 : decode cX5_read 48 = .ok (.invokevirtual 35, 3) := by decide +kernel
theorem dX5_read_51 : decode cX5_read 51 = .ok (.ifCond .ne 11, 3) := by decide +kernel
theorem dX5_read_54 : decode cX5_read 54 = .ok (.aload_n 0, 1) := by decide +kernel
theorem dX5_read_55 : decode cX5_read 55 = .ok (.getfield 14, 3) := by decide +kernel
theorem dX5_read_58 : decode cX5_read 58 = .ok (.getfield 39, 3) := by decide +kernel
theorem dX5_read_61 : decode cX5_read 61 = .ok (.ireturn, 1) := by decide +kernel
theorem dX5_read_62 : decode cX5_read 62 = .ok (.aload_n 0, 1) := by decide +kernel
theorem dX5_read_63 : decode cX5_read 63 = .ok (.getfield 14, 3) := by decide +kernel
theorem dX5_read_66 : decode cX5_read 66 = .ok (.invokevirtual 42, 3) := by decide +kernel
theorem dX5_read_69 : decode cX5_read 69 = .ok (.iinc 2 1, 3) := by decide +kernel
theorem dX5_read_72 : decode cX5_read 72 = .ok (.goto (-54), 3) := by decide +kernel
theorem dX5_read_75 : decode cX5_read 75 = .ok (.aload_n 1, 1) := by decide +kernel
theorem dX5_read_76 : decode cX5_read 76 = .ok (.getfield 45, 3) := by decide +kernel
theorem dX5_read_79 : decode cX5_read 79 = .ok (.aload_n 1, 1) := by decide +kernel
theorem dX5_read_80 : decode cX5_read 80 = .ok (.getfield 49, 3) := by decide +kernel
theorem dX5_read_83 : decode cX5_read 83 = .ok (.invokevirtual 52, 3) := by decide +kernel
theorem dX5_read_86 : decode cX5_read 86 = .ok (.aload_n 1, 1) := by decide +kernel
theorem dX5_read_87 : decode cX5_read 87 = .ok (.getfield 58, 3) := by decide +kernel
theorem dX5_read_90 : decode cX5_read 90 = .ok (.aload_n 1, 1) := by decide +kernel
theorem dX5_read_91 : decode cX5_read 91 = .ok (.getfield 49, 3) := by decide +kernel
theorem dX5_read_94 : decode cX5_read 94 = .ok (.invokevirtual 52, 3) := by decide +kernel
theorem dX5_read_97 : decode cX5_read 97 = .ok (.iconst (-1), 1) := by decide +kernel
theorem dX5_read_98 : decode cX5_read 98 = .ok (.ireturn, 1) := by decide +kernel
theorem dX5_statement_0 : decode cX5_statement 0 = .ok (.aload_n 0, 1) := by decide +kernel
theorem dX5_statement_1 : decode cX5_statement 1 = .ok (.getfield 14, 3) := by decide +kernel
theorem dX5_statement_4 : decode cX5_statement 4 = .ok (.ldc 61, 2) := by decide +kernel
theorem dX5_statement_6 : decode cX5_statement 6 = .ok (.invokevirtual 63, 3) := by decide +kernel
theorem dX5_statement_9 : decode cX5_statement 9 = .ok (.ifCond .eq 9, 3) := by decide +kernel
theorem dX5_statement_12 : decode cX5_statement 12 = .ok (.aload_n 0, 1) := by decide +kernel
theorem dX5_statement_13 : decode cX5_statement 13 = .ok (.aload_n 1, 1) := by decide +kernel
theorem dX5_statement_14 : decode cX5_statement 14 = .ok (.invokevirtual 67, 3) := by decide +kernel
theorem dX5_statement_17 : decode cX5_statement 17 = .ok (.ireturn, 1) := by decide +kernel
theorem dX5_statement_18 : decode cX5_statement 18 = .ok (.aload_n 0, 1) := by decide +kernel
theorem dX5_statement_19 : decode cX5_statement 19 = .ok (.getfield 14, 3) := by decide +kernel
theorem dX5_statement_22 : decode cX5_statement 22 = .ok (.ldc 70, 2) := by decide +kernel
theorem dX5_statement_24 : decode cX5_statement 24 = .ok (.invokevirtual 63, 3) := by decide +kernel
theorem dX5_statement_27 : decode cX5_statement 27 = .ok (.ifCond .eq 24, 3) := by decide +kernel
theorem dX5_statement_30 : decode cX5_statement 30 = .ok (.iload_n 2, 1) := by decide +kernel
theorem dX5_statement_31 : decode cX5_statement 31 = .ok (.ifCond .eq 15, 3) := by decide +kernel
theorem dX5_statement_34 : decode cX5_statement 34 = .ok (.aload_n 0, 1) := by decide +kernel
theorem dX5_statement_35 : decode cX5_statement 35 = .ok (.aload_n 1, 1) := by decide +kernel
theorem dX5_statement_36 : decode cX5_statement 36 = .ok (.invokevirtual 72, 3) := by decide +kernel
theorem dX5_statement_39 : decode cX5_statement 39 = .ok (.ifCond .eq 7, 3) := by decide +kernel
theorem dX5_statement_42 : decode cX5_statement 42 = .ok (.iconst 1, 1) := by decide +kernel
theorem dX5_statement_43 : decode cX5_statement 43 = .ok (.goto 4, 3) := by decide +kernel
theorem dX5_statement_46 : decode cX5_statement 46 = .ok (.iconst 0, 1) := by decide +kernel
theorem dX5_statement_47 : decode cX5_statement 47 = .ok (.istore_n 3, 1) := by decide +kernel
theorem dX5_statement_48 : decode cX5_statement 48 = .ok (.goto 51, 3) := by decide +kernel
theorem dX5_statement_51 : decode cX5_statement 51 = .ok (.aload_n 0, 1) := by decide +kernel
theorem dX5_statement_52 : decode cX5_statement 52 = .ok (.getfield 14, 3) := by decide +kernel
theorem dX5_statement_55 : decode cX5_statement 55 = .ok (.ldc 74, 2) := by decide +kernel
theorem dX5_statement_57 : decode cX5_statement 57 = .ok (.invokevirtual 63, 3) := by decide +kernel
theorem dX5_statement_60 : decode cX5_statement 60 = .ok (.ifCond .eq 12, 3) := by decide +kernel
theorem dX5_statement_63 : decode cX5_statement 63 = .ok (.aload_n 0, 1) := by decide +kernel
theorem dX5_statement_64 : decode cX5_statement 64 = .ok (.aload_n 1, 1) := by decide +kernel
theorem dX5_statement_65 : decode cX5_statement 65 = .ok (.invokevirtual 76, 3) := by decide +kernel
theorem dX5_statement_68 : decode cX5_statement 68 = .ok (.istore_n 3, 1) := by decide +kernel
theorem dX5_statement_69 : decode cX5_statement 69 = .ok (.goto 30, 3) := by decide +kernel
theorem dX5_statement_72 : decode cX5_statement 72 = .ok (.aload_n 0, 1) := by decide +kernel
theorem dX5_statement_73 : decode cX5_statement 73 = .ok (.getfield 14, 3) := by decide +kernel
theorem dX5_statement_76 : decode cX5_statement 76 = .ok (.ldc 78, 2) := by decide +kernel
theorem dX5_statement_78 : decode cX5_statement 78 = .ok (.invokevirtual 63, 3) := by decide +kernel
theorem dX5_statement_81 : decode cX5_statement 81 = .ok (.ifCond .eq 12, 3) := by decide +kernel
theorem dX5_statement_84 : decode cX5_statement 84 = .ok (.aload_n 0, 1) := by decide +kernel
theorem dX5_statement_85 : decode cX5_statement 85 = .ok (.aload_n 1, 1) := by decide +kernel
theorem dX5_statement_86 : decode cX5_statement 86 = .ok (.invokevirtual 80, 3) := by decide +kernel
theorem dX5_statement_89 : decode cX5_statement 89 = .ok (.istore_n 3, 1) := by decide +kernel
theorem dX5_statement_90 : decode cX5_statement 90 = .ok (.goto 9, 3) := by decide +kernel
theorem dX5_statement_93 : decode cX5_statement 93 = .ok (.aload_n 0, 1) := by decide +kernel
theorem dX5_statement_94 : decode cX5_statement 94 = .ok (.aload_n 1, 1) := by decide +kernel
theorem dX5_statement_95 : decode cX5_statement 95 = .ok (.invokevirtual 83, 3) := by decide +kernel
theorem dX5_statement_98 : decode cX5_statement 98 = .ok (.istore_n 3, 1) := by decide +kernel
theorem dX5_statement_99 : decode cX5_statement 99 = .ok (.iload_n 3, 1) := by decide +kernel
theorem dX5_statement_100 : decode cX5_statement 100 = .ok (.ifCond .eq 14, 3) := by decide +kernel
theorem dX5_statement_103 : decode cX5_statement 103 = .ok (.aload_n 0, 1) := by decide +kernel
theorem dX5_statement_104 : decode cX5_statement 104 = .ok (.invokevirtual 86, 3) := by decide +kernel
theorem dX5_statement_107 : decode cX5_statement 107 = .ok (.ifCond .eq 7, 3) := by decide +kernel
theorem dX5_statement_110 : decode cX5_statement 110 = .ok (.iconst 1, 1) := by decide +kernel
theorem dX5_statement_111 : decode cX5_statement 111 = .ok (.goto 4, 3) := by decide +kernel
theorem dX5_statement_114 : decode cX5_statement 114 = .ok (.iconst 0, 1) := by decide +kernel
theorem dX5_statement_115 : decode cX5_statement 115 = .ok (.ireturn, 1) := by decide +kernel
theorem dX5_wheel_0 : decode cX5_wheel 0 = .ok (.aload_n 0, 1) := by decide +kernel
theorem dX5_wheel_1 : decode cX5_wheel 1 = .ok (.bipush 6, 2) := by decide +kernel
theorem dX5_wheel_3 : decode cX5_wheel 3 = .ok (.bipush 28, 2) := by decide +kernel
theorem dX5_wheel_5 : decode cX5_wheel 5 = .ok (.invokevirtual 90, 3) := by decide +kernel
theorem dX5_wheel_8 : decode cX5_wheel 8 = .ok (.ifCond .ne 5, 3) := by decide +kernel
theorem dX5_wheel_11 : decode cX5_wheel 11 = .ok (.iconst 0, 1) := by decide +kernel
theorem dX5_wheel_12 : decode cX5_wheel 12 = .ok (.ireturn, 1) := by decide +kernel
theorem dX5_wheel_13 : decode cX5_wheel 13 = .ok (.aload_n 1, 1) := by decide +kernel
theorem dX5_wheel_14 : decode cX5_wheel 14 = .ok (.aload_n 0, 1) := by decide +kernel
theorem dX5_wheel_15 : decode cX5_wheel 15 = .ok (.getfield 94, 3) := by decide +kernel
theorem dX5_wheel_18 : decode cX5_wheel 18 = .ok (.putfield 49, 3) := by decide +kernel
theorem dX5_wheel_21 : decode cX5_wheel 21 = .ok (.iconst 1, 1) := by decide +kernel
theorem dX5_wheel_22 : decode cX5_wheel 22 = .ok (.ireturn, 1) := by decide +kernel
theorem dX5_setting_0 : decode cX5_setting 0 = .ok (.iconst 0, 1) := by decide +kernel
theorem dX5_setting_1 : decode cX5_setting 1 = .ok (.istore_n 2, 1) := by decide +kernel
theorem dX5_setting_2 : decode cX5_setting 2 = .ok (.aload_n 0, 1) := by decide +kernel
theorem dX5_setting_3 : decode cX5_setting 3 = .ok (.getfield 14, 3) := by decide +kernel
theorem dX5_setting_6 : decode cX5_setting 6 = .ok (.ldc 97, 2) := by decide +kernel
theorem dX5_setting_8 : decode cX5_setting 8 = .ok (.invokevirtual 63, 3) := by decide +kernel
theorem dX5_setting_11 : decode cX5_setting 11 = .ok (.ifCond .eq 22, 3) := by decide +kernel
theorem dX5_setting_14 : decode cX5_setting 14 = .ok (.aload_n 0, 1) := by decide +kernel
theorem dX5_setting_15 : decode cX5_setting 15 = .ok (.iconst 1, 1) := by decide +kernel
theorem dX5_setting_16 : decode cX5_setting 16 = .ok (.bipush 50, 2) := by decide +kernel
theorem dX5_setting_18 : decode cX5_setting 18 = .ok (.invokevirtual 90, 3) := by decide +kernel
theorem dX5_setting_21 : decode cX5_setting 21 = .ok (.istore_n 2, 1) := by decide +kernel
theorem dX5_setting_22 : decode cX5_setting 22 = .ok (.aload_n 1, 1) := by decide +kernel
theorem dX5_setting_23 : decode cX5_setting 23 = .ok (.aload_n 0, 1) := by decide +kernel
theorem dX5_setting_24 : decode cX5_setting 24 = .ok (.getfield 94, 3) := by decide +kernel
theorem dX5_setting_27 : decode cX5_setting 27 = .ok (.putfield 99, 3) := by decide +kernel
theorem dX5_setting_30 : decode cX5_setting 30 = .ok (.goto 95, 3) := by decide +kernel
theorem dX5_setting_33 : decode cX5_setting 33 = .ok (.aload_n 0, 1) := by decide +kernel
theorem dX5_setting_34 : decode cX5_setting 34 = .ok (.getfield 14, 3) := by decide +kernel
theorem dX5_setting_37 : decode cX5_setting 37 = .ok (.ldc 101, 2) := by decide +kernel
theorem dX5_setting_39 : decode cX5_setting 39 = .ok (.invokevirtual 63, 3) := by decide +kernel
theorem dX5_setting_42 : decode cX5_setting 42 = .ok (.ifCond .eq 23, 3) := by decide +kernel
theorem dX5_setting_45 : decode cX5_setting 45 = .ok (.aload_n 0, 1) := by decide +kernel
theorem dX5_setting_46 : decode cX5_setting 46 = .ok (.iconst 0, 1) := by decide +kernel
theorem dX5_setting_47 : decode cX5_setting 47 = .ok (.sipush 500, 3) := by decide +kernel
theorem dX5_setting_50 : decode cX5_setting 50 = .ok (.invokevirtual 90, 3) := by decide +kernel
theorem dX5_setting_53 : decode cX5_setting 53 = .ok (.istore_n 2, 1) := by decide +kernel
theorem dX5_setting_54 : decode cX5_setting 54 = .ok (.aload_n 1, 1) := by decide +kernel
theorem dX5_setting_55 : decode cX5_setting 55 = .ok (.aload_n 0, 1) := by decide +kernel
theorem dX5_setting_56 : decode cX5_setting 56 = .ok (.getfield 94, 3) := by decide +kernel
theorem dX5_setting_59 : decode cX5_setting 59 = .ok (.putfield 103, 3) := by decide +kernel
theorem dX5_setting_62 : decode cX5_setting 62 = .ok (.goto 63, 3) := by decide +kernel
theorem dX5_setting_65 : decode cX5_setting 65 = .ok (.aload_n 0, 1) := by decide +kernel
theorem dX5_setting_66 : decode cX5_setting 66 = .ok (.getfield 14, 3) := by decide +kernel
theorem dX5_setting_69 : decode cX5_setting 69 = .ok (.ldc 106, 2) := by decide +kernel
theorem dX5_setting_71 : decode cX5_setting 71 = .ok (.invokevirtual 63, 3) := by decide +kernel
theorem dX5_setting_74 : decode cX5_setting 74 = .ok (.ifCond .eq 23, 3) := by decide +kernel
theorem dX5_setting_77 : decode cX5_setting 77 = .ok (.aload_n 0, 1) := by decide +kernel
theorem dX5_setting_78 : decode cX5_setting 78 = .ok (.iconst 1, 1) := by decide +kernel
theorem dX5_setting_79 : decode cX5_setting 79 = .ok (.sipush 5000, 3) := by decide +kernel
theorem dX5_setting_82 : decode cX5_setting 82 = .ok (.invokevirtual 90, 3) := by decide +kernel
theorem dX5_setting_85 : decode cX5_setting 85 = .ok (.istore_n 2, 1) := by decide +kernel
theorem dX5_setting_86 : decode cX5_setting 86 = .ok (.aload_n 1, 1) := by decide +kernel
theorem dX5_setting_87 : decode cX5_setting 87 = .ok (.aload_n 0, 1) := by decide +kernel
theorem dX5_setting_88 : decode cX5_setting 88 = .ok (.getfield 94, 3) := by decide +kernel
theorem dX5_setting_91 : decode cX5_setting 91 = .ok (.putfield 108, 3) := by decide +kernel
theorem dX5_setting_94 : decode cX5_setting 94 = .ok (.goto 31, 3) := by decide +kernel
theorem dX5_setting_97 : decode cX5_setting 97 = .ok (.aload_n 0, 1) := by decide +kernel
theorem dX5_setting_98 : decode cX5_setting 98 = .ok (.getfield 14, 3) := by decide +kernel
theorem dX5_setting_101 : decode cX5_setting 101 = .ok (.ldc 110, 2) := by decide +kernel
theorem dX5_setting_103 : decode cX5_setting 103 = .ok (.invokevirtual 63, 3) := by decide +kernel
theorem dX5_setting_106 : decode cX5_setting 106 = .ok (.ifCond .eq 19, 3) := by decide +kernel
theorem dX5_setting_109 : decode cX5_setting 109 = .ok (.aload_n 0, 1) := by decide +kernel
theorem dX5_setting_110 : decode cX5_setting 110 = .ok (.iconst 0, 1) := by decide +kernel
theorem dX5_setting_111 : decode cX5_setting 111 = .ok (.bipush 9, 2) := by decide +kernel
theorem dX5_setting_113 : decode cX5_setting 113 = .ok (.invokevirtual 90, 3) := by decide +kernel
theorem dX5_setting_116 : decode cX5_setting 116 = .ok (.istore_n 2, 1) := by decide +kernel
theorem dX5_setting_117 : decode cX5_setting 117 = .ok (.aload_n 1, 1) := by decide +kernel
theorem dX5_setting_118 : decode cX5_setting 118 = .ok (.aload_n 0, 1) := by decide +kernel
theorem dX5_setting_119 : decode cX5_setting 119 = .ok (.getfield 94, 3) := by decide +kernel
theorem dX5_setting_122 : decode cX5_setting 122 = .ok (.putfield 112, 3) := by decide +kernel
theorem dX5_setting_125 : decode cX5_setting 125 = .ok (.iload_n 2, 1) := by decide +kernel
theorem dX5_setting_126 : decode cX5_setting 126 = .ok (.ireturn, 1) := by decide +kernel
theorem dX5_office_0 : decode cX5_office 0 = .ok (.aload_n 0, 1) := by decide +kernel
theorem dX5_office_1 : decode cX5_office 1 = .ok (.getfield 25, 3) := by decide +kernel
theorem dX5_office_4 : decode cX5_office 4 = .ok (.iconst 2, 1) := by decide +kernel
theorem dX5_office_5 : decode cX5_office 5 = .ok (.if_icmp .ge 17, 3) := by decide +kernel
theorem dX5_office_8 : decode cX5_office 8 = .ok (.aload_n 0, 1) := by decide +kernel
theorem dX5_office_9 : decode cX5_office 9 = .ok (.iconst 0, 1) := by decide +kernel
theorem dX5_office_10 : decode cX5_office 10 = .ok (.aload_n 1, 1) := by decide +kernel
theorem dX5_office_11 : decode cX5_office 11 = .ok (.invokevirtual 114, 3) := by decide +kernel
theorem dX5_office_14 : decode cX5_office 14 = .ok (.iconst 1, 1) := by decide +kernel
theorem dX5_office_15 : decode cX5_office 15 = .ok (.isub, 1) := by decide +kernel
theorem dX5_office_16 : decode cX5_office 16 = .ok (.invokevirtual 90, 3) := by decide +kernel
theorem dX5_office_19 : decode cX5_office 19 = .ok (.ifCond .ne 5, 3) := by decide +kernel
theorem dX5_office_22 : decode cX5_office 22 = .ok (.iconst 0, 1) := by decide +kernel
theorem dX5_office_23 : decode cX5_office 23 = .ok (.ireturn, 1) := by decide +kernel
theorem dX5_office_24 : decode cX5_office 24 = .ok (.aload_n 1, 1) := by decide +kernel
theorem dX5_office_25 : decode cX5_office 25 = .ok (.aload_n 0, 1) := by decide +kernel
theorem dX5_office_26 : decode cX5_office 26 = .ok (.getfield 25, 3) := by decide +kernel
theorem dX5_office_29 : decode cX5_office 29 = .ok (.invokevirtual 118, 3) := by decide +kernel
theorem dX5_office_32 : decode cX5_office 32 = .ok (.astore_n 2, 1) := by decide +kernel
theorem dX5_office_33 : decode cX5_office 33 = .ok (.aload_n 2, 1) := by decide +kernel
theorem dX5_office_34 : decode cX5_office 34 = .ok (.aload_n 0, 1) := by decide +kernel
theorem dX5_office_35 : decode cX5_office 35 = .ok (.getfield 94, 3) := by decide +kernel
theorem dX5_office_38 : decode cX5_office 38 = .ok (.putfield 122, 3) := by decide +kernel
theorem dX5_office_41 : decode cX5_office 41 = .ok (.aload_n 0, 1) := by decide +kernel
theorem dX5_office_42 : decode cX5_office 42 = .ok (.bipush 10, 2) := by decide +kernel
theorem dX5_office_44 : decode cX5_office 44 = .ok (.sipush 999, 3) := by decide +kernel
theorem dX5_office_47 : decode cX5_office 47 = .ok (.invokevirtual 90, 3) := by decide +kernel
theorem dX5_office_50 : decode cX5_office 50 = .ok (.ifCond .ne 5, 3) := by decide +kernel
theorem dX5_office_53 : decode cX5_office 53 = .ok (.iconst 0, 1) := by decide +kernel
theorem dX5_office_54 : decode cX5_office 54 = .ok (.ireturn, 1) := by decide +kernel
theorem dX5_office_55 : decode cX5_office 55 = .ok (.aload_n 2, 1) := by decide +kernel
theorem dX5_office_56 : decode cX5_office 56 = .ok (.aload_n 0, 1) := by decide +kernel
theorem dX5_office_57 : decode cX5_office 57 = .ok (.getfield 94, 3) := by decide +kernel
theorem dX5_office_60 : decode cX5_office 60 = .ok (.putfield 125, 3) := by decide +kernel
theorem dX5_office_63 : decode cX5_office 63 = .ok (.aload_n 0, 1) := by decide +kernel
theorem dX5_office_64 : decode cX5_office 64 = .ok (.dup, 1) := by decide +kernel
theorem dX5_office_65 : decode cX5_office 65 = .ok (.getfield 25, 3) := by decide +kernel
theorem dX5_office_68 : decode cX5_office 68 = .ok (.iconst 1, 1) := by decide +kernel
theorem dX5_office_69 : decode cX5_office 69 = .ok (.iadd, 1) := by decide +kernel
theorem dX5_office_70 : decode cX5_office 70 = .ok (.putfield 25, 3) := by decide +kernel
theorem dX5_office_73 : decode cX5_office 73 = .ok (.iconst 1, 1) := by decide +kernel
theorem dX5_office_74 : decode cX5_office 74 = .ok (.ireturn, 1) := by decide +kernel
theorem dX5_loss_0 : decode cX5_loss 0 = .ok (.aload_n 1, 1) := by decide +kernel
theorem dX5_loss_1 : decode cX5_loss 1 = .ok (.getfield 128, 3) := by decide +kernel
theorem dX5_loss_4 : decode cX5_loss 4 = .ok (.invokevirtual 132, 3) := by decide +kernel
theorem dX5_loss_7 : decode cX5_loss 7 = .ok (.bipush 20, 2) := by decide +kernel
theorem dX5_loss_9 : decode cX5_loss 9 = .ok (.if_icmp .ge 14, 3) := by decide +kernel
theorem dX5_loss_12 : decode cX5_loss 12 = .ok (.aload_n 0, 1) := by decide +kernel
theorem dX5_loss_13 : decode cX5_loss 13 = .ok (.iconst 1, 1) := by decide +kernel
theorem dX5_loss_14 : decode cX5_loss 14 = .ok (.sipush 9999, 3) := by decide +kernel
theorem dX5_loss_17 : decode cX5_loss 17 = .ok (.invokevirtual 90, 3) := by decide +kernel
theorem dX5_loss_20 : decode cX5_loss 20 = .ok (.ifCond .ne 5, 3) := by decide +kernel
theorem dX5_loss_23 : decode cX5_loss 23 = .ok (.iconst 0, 1) := by decide +kernel
theorem dX5_loss_24 : decode cX5_loss 24 = .ok (.ireturn, 1) := by decide +kernel
theorem dX5_loss_25 : decode cX5_loss 25 = .ok (.aload_n 1, 1) := by decide +kernel
theorem dX5_loss_26 : decode cX5_loss 26 = .ok (.getfield 128, 3) := by decide +kernel
theorem dX5_loss_29 : decode cX5_loss 29 = .ok (.aload_n 0, 1) := by decide +kernel
theorem dX5_loss_30 : decode cX5_loss 30 = .ok (.getfield 94, 3) := by decide +kernel
theorem dX5_loss_33 : decode cX5_loss 33 = .ok (.invokevirtual 137, 3) := by decide +kernel
theorem dX5_loss_36 : decode cX5_loss 36 = .ok (.iconst 1, 1) := by decide +kernel
theorem dX5_loss_37 : decode cX5_loss 37 = .ok (.ireturn, 1) := by decide +kernel
theorem dX5_message_0 : decode cX5_message 0 = .ok (.aload_n 0, 1) := by decide +kernel
theorem dX5_message_1 : decode cX5_message 1 = .ok (.iconst 0, 1) := by decide +kernel
theorem dX5_message_2 : decode cX5_message 2 = .ok (.iconst 1, 1) := by decide +kernel
theorem dX5_message_3 : decode cX5_message 3 = .ok (.invokevirtual 90, 3) := by decide +kernel
theorem dX5_message_6 : decode cX5_message 6 = .ok (.ifCond .ne 5, 3) := by decide +kernel
theorem dX5_message_9 : decode cX5_message 9 = .ok (.iconst 0, 1) := by decide +kernel
theorem dX5_message_10 : decode cX5_message 10 = .ok (.ireturn, 1) := by decide +kernel
theorem dX5_message_11 : decode cX5_message 11 = .ok (.aload_n 1, 1) := by decide +kernel
theorem dX5_message_12 : decode cX5_message 12 = .ok (.aload_n 0, 1) := by decide +kernel
theorem dX5_message_13 : decode cX5_message 13 = .ok (.getfield 94, 3) := by decide +kernel
theorem dX5_message_16 : decode cX5_message 16 = .ok (.invokevirtual 118, 3) := by decide +kernel
theorem dX5_message_19 : decode cX5_message 19 = .ok (.astore_n 2, 1) := by decide +kernel
theorem dX5_message_20 : decode cX5_message 20 = .ok (.aload_n 2, 1) := by decide +kernel
theorem dX5_message_21 : decode cX5_message 21 = .ok (.invokevirtual 140, 3) := by decide +kernel
theorem dX5_message_24 : decode cX5_message 24 = .ok (.ifCond .ne 5, 3) := by decide +kernel
theorem dX5_message_27 : decode cX5_message 27 = .ok (.iconst 0, 1) := by decide +kernel
theorem dX5_message_28 : decode cX5_message 28 = .ok (.ireturn, 1) := by decide +kernel
theorem dX5_message_29 : decode cX5_message 29 = .ok (.iconst 0, 1) := by decide +kernel
theorem dX5_message_30 : decode cX5_message 30 = .ok (.istore_n 3, 1) := by decide +kernel
theorem dX5_message_31 : decode cX5_message 31 = .ok (.aload_n 0, 1) := by decide +kernel
theorem dX5_message_32 : decode cX5_message 32 = .ok (.getfield 14, 3) := by decide +kernel
theorem dX5_message_35 : decode cX5_message 35 = .ok (.invokevirtual 42, 3) := by decide +kernel
theorem dX5_message_38 : decode cX5_message 38 = .ok (.iload_n 3, 1) := by decide +kernel
theorem dX5_message_39 : decode cX5_message 39 = .ok (.sipush 600, 3) := by decide +kernel
theorem dX5_message_42 : decode cX5_message 42 = .ok (.if_icmp .ge 41, 3) := by decide +kernel
theorem dX5_message_45 : decode cX5_message 45 = .ok (.aload_n 0, 1) := by decide +kernel
theorem dX5_message_46 : decode cX5_message 46 = .ok (.getfield 14, 3) := by decide +kernel
theorem dX5_message_49 : decode cX5_message 49 = .ok (.getfield 32, 3) := by decide +kernel
theorem dX5_message_52 : decode cX5_message 52 = .ok (.iconst 3, 1) := by decide +kernel
theorem dX5_message_53 : decode cX5_message 53 = .ok (.if_icmp .eq 30, 3) := by decide +kernel
theorem dX5_message_56 : decode cX5_message 56 = .ok (.aload_n 0, 1) := by decide +kernel
theorem dX5_message_57 : decode cX5_message 57 = .ok (.aload_n 2, 1) := by decide +kernel
theorem dX5_message_58 : decode cX5_message 58 = .ok (.aload_n 1, 1) := by decide +kernel
theorem dX5_message_59 : decode cX5_message 59 = .ok (.getfield 49, 3) := by decide +kernel
theorem dX5_message_62 : decode cX5_message 62 = .ok (.invokevirtual 143, 3) := by decide +kernel
theorem dX5_message_65 : decode cX5_message 65 = .ok (.ifCond .ne 5, 3) := by decide +kernel
theorem dX5_message_68 : decode cX5_message 68 = .ok (.iconst 0, 1) := by decide +kernel
theorem dX5_message_69 : decode cX5_message 69 = .ok (.ireturn, 1) := by decide +kernel
theorem dX5_message_70 : decode cX5_message 70 = .ok (.iinc 3 1, 3) := by decide +kernel
theorem dX5_message_73 : decode cX5_message 73 = .ok (.aload_n 0, 1) := by decide +kernel
theorem dX5_message_74 : decode cX5_message 74 = .ok (.getfield 14, 3) := by decide +kernel
theorem dX5_message_77 : decode cX5_message 77 = .ok (.invokevirtual 42, 3) := by decide +kernel
theorem dX5_message_80 : decode cX5_message 80 = .ok (.goto (-42), 3) := by decide +kernel
theorem dX5_message_83 : decode cX5_message 83 = .ok (.iload_n 3, 1) := by decide +kernel
theorem dX5_message_84 : decode cX5_message 84 = .ok (.ifCond .le 7, 3) := by decide +kernel
theorem dX5_message_87 : decode cX5_message 87 = .ok (.iconst 1, 1) := by decide +kernel
theorem dX5_message_88 : decode cX5_message 88 = .ok (.goto 4, 3) := by decide +kernel
theorem dX5_message_91 : decode cX5_message 91 = .ok (.iconst 0, 1) := by decide +kernel
theorem dX5_message_92 : decode cX5_message 92 = .ok (.ireturn, 1) := by decide +kernel
theorem dX5_item_0 : decode cX5_item 0 = .ok (.aload_n 0, 1) := by decide +kernel
theorem dX5_item_1 : decode cX5_item 1 = .ok (.getfield 14, 3) := by decide +kernel
theorem dX5_item_4 : decode cX5_item 4 = .ok (.getfield 32, 3) := by decide +kernel
theorem dX5_item_7 : decode cX5_item 7 = .ok (.iconst 4, 1) := by decide +kernel
theorem dX5_item_8 : decode cX5_item 8 = .ok (.if_icmp .ne 8, 3) := by decide +kernel
theorem dX5_item_11 : decode cX5_item 11 = .ok (.aload_n 1, 1) := by decide +kernel
theorem dX5_item_12 : decode cX5_item 12 = .ok (.invokevirtual 140, 3) := by decide +kernel
theorem dX5_item_15 : decode cX5_item 15 = .ok (.ireturn, 1) := by decide +kernel
theorem dX5_item_16 : decode cX5_item 16 = .ok (.aload_n 1, 1) := by decide +kernel
theorem dX5_item_17 : decode cX5_item 17 = .ok (.aload_n 1, 1) := by decide +kernel
theorem dX5_item_18 : decode cX5_item 18 = .ok (.getfield 147, 3) := by decide +kernel
theorem dX5_item_21 : decode cX5_item 21 = .ok (.iconst 1, 1) := by decide +kernel
theorem dX5_item_22 : decode cX5_item 22 = .ok (.isub, 1) := by decide +kernel
theorem dX5_item_23 : decode cX5_item 23 = .ok (.invokevirtual 150, 3) := by decide +kernel
theorem dX5_item_26 : decode cX5_item 26 = .ok (.astore_n 3, 1) := by decide +kernel
theorem dX5_item_27 : decode cX5_item 27 = .ok (.aload_n 3, 1) := by decide +kernel
theorem dX5_item_28 : decode cX5_item 28 = .ok (.ifnull 25, 3) := by decide +kernel
theorem dX5_item_31 : decode cX5_item 31 = .ok (.aload_n 0, 1) := by decide +kernel
theorem dX5_item_32 : decode cX5_item 32 = .ok (.getfield 14, 3) := by decide +kernel
theorem dX5_item_35 : decode cX5_item 35 = .ok (.getfield 32, 3) := by decide +kernel
theorem dX5_item_38 : decode cX5_item 38 = .ok (.iconst 1, 1) := by decide +kernel
theorem dX5_item_39 : decode cX5_item 39 = .ok (.if_icmp .eq 16, 3) := by decide +kernel
theorem dX5_item_42 : decode cX5_item 42 = .ok (.aload_n 0, 1) := by decide +kernel
theorem dX5_item_43 : decode cX5_item 43 = .ok (.getfield 14, 3) := by decide +kernel
theorem dX5_item_46 : decode cX5_item 46 = .ok (.getfield 32, 3) := by decide +kernel
theorem dX5_item_49 : decode cX5_item 49 = .ok (.iconst 2, 1) := by decide +kernel
theorem dX5_item_50 : decode cX5_item 50 = .ok (.if_icmp .eq 5, 3) := by decide +kernel
theorem dX5_item_53 : decode cX5_item 53 = .ok (.iconst 0, 1) := by decide +kernel
theorem dX5_item_54 : decode cX5_item 54 = .ok (.ireturn, 1) := by decide +kernel
theorem dX5_item_55 : decode cX5_item 55 = .ok (.aload_n 3, 1) := by decide +kernel
theorem dX5_item_56 : decode cX5_item 56 = .ok (.getfield 154, 3) := by decide +kernel
theorem dX5_item_59 : decode cX5_item 59 = .ok (.invokevirtual 132, 3) := by decide +kernel
theorem dX5_item_62 : decode cX5_item 62 = .ok (.aload_n 0, 1) := by decide +kernel
theorem dX5_item_63 : decode cX5_item 63 = .ok (.getfield 14, 3) := by decide +kernel
theorem dX5_item_66 : decode cX5_item 66 = .ok (.invokevirtual 159, 3) := by decide +kernel
theorem dX5_item_69 : decode cX5_item 69 = .ok (.iadd, 1) := by decide +kernel
theorem dX5_item_70 : decode cX5_item 70 = .ok (.bipush 30, 2) := by decide +kernel
theorem dX5_item_72 : decode cX5_item 72 = .ok (.if_icmp .le 5, 3) := by decide +kernel
theorem dX5_item_75 : decode cX5_item 75 = .ok (.iconst 0, 1) := by decide +kernel
theorem dX5_item_76 : decode cX5_item 76 = .ok (.ireturn, 1) := by decide +kernel
theorem dX5_item_77 : decode cX5_item 77 = .ok (.iconst 0, 1) := by decide +kernel
theorem dX5_item_78 : decode cX5_item 78 = .ok (.istore 4, 2) := by decide +kernel
theorem dX5_item_80 : decode cX5_item 80 = .ok (.iload 4, 2) := by decide +kernel
theorem dX5_item_82 : decode cX5_item 82 = .ok (.aload_n 0, 1) := by decide +kernel
theorem dX5_item_83 : decode cX5_item 83 = .ok (.getfield 14, 3) := by decide +kernel
theorem dX5_item_86 : decode cX5_item 86 = .ok (.invokevirtual 159, 3) := by decide +kernel
theorem dX5_item_89 : decode cX5_item 89 = .ok (.if_icmp .ge 42, 3) := by decide +kernel
theorem dX5_item_92 : decode cX5_item 92 = .ok (.aload_n 0, 1) := by decide +kernel
theorem dX5_item_93 : decode cX5_item 93 = .ok (.getfield 14, 3) := by decide +kernel
theorem dX5_item_96 : decode cX5_item 96 = .ok (.iload 4, 2) := by decide +kernel
theorem dX5_item_98 : decode cX5_item 98 = .ok (.invokevirtual 162, 3) := by decide +kernel
theorem dX5_item_101 : decode cX5_item 101 = .ok (.istore 5, 2) := by decide +kernel
theorem dX5_item_103 : decode cX5_item 103 = .ok (.iload 5, 2) := by decide +kernel
theorem dX5_item_105 : decode cX5_item 105 = .ok (.invokestatic 166, 3) := by decide +kernel
theorem dX5_item_108 : decode cX5_item 108 = .ok (.iload_n 2, 1) := by decide +kernel
theorem dX5_item_109 : decode cX5_item 109 = .ok (.iconst 2, 1) := by decide +kernel
theorem dX5_item_110 : decode cX5_item 110 = .ok (.isub, 1) := by decide +kernel
theorem dX5_item_111 : decode cX5_item 111 = .ok (.if_icmp .lt 5, 3) := by decide +kernel
theorem dX5_item_114 : decode cX5_item 114 = .ok (.iconst 0, 1) := by decide +kernel
theorem dX5_item_115 : decode cX5_item 115 = .ok (.ireturn, 1) := by decide +kernel
theorem dX5_item_116 : decode cX5_item 116 = .ok (.aload_n 3, 1) := by decide +kernel
theorem dX5_item_117 : decode cX5_item 117 = .ok (.getfield 154, 3) := by decide +kernel
theorem dX5_item_120 : decode cX5_item 120 = .ok (.iload 5, 2) := by decide +kernel
theorem dX5_item_122 : decode cX5_item 122 = .ok (.invokevirtual 137, 3) := by decide +kernel
theorem dX5_item_125 : decode cX5_item 125 = .ok (.iinc 4 1, 3) := by decide +kernel
theorem dX5_item_128 : decode cX5_item 128 = .ok (.goto (-48), 3) := by decide +kernel
theorem dX5_item_131 : decode cX5_item 131 = .ok (.iconst 1, 1) := by decide +kernel
theorem dX5_item_132 : decode cX5_item 132 = .ok (.ireturn, 1) := by decide +kernel
theorem dX5_takeNumber_0 : decode cX5_takeNumber 0 = .ok (.aload_n 0, 1) := by decide +kernel
theorem dX5_takeNumber_1 : decode cX5_takeNumber 1 = .ok (.getfield 14, 3) := by decide +kernel
theorem dX5_takeNumber_4 : decode cX5_takeNumber 4 = .ok (.invokevirtual 42, 3) := by decide +kernel
theorem dX5_takeNumber_7 : decode cX5_takeNumber 7 = .ok (.aload_n 0, 1) := by decide +kernel
theorem dX5_takeNumber_8 : decode cX5_takeNumber 8 = .ok (.aload_n 0, 1) := by decide +kernel
theorem dX5_takeNumber_9 : decode cX5_takeNumber 9 = .ok (.getfield 14, 3) := by decide +kernel
theorem dX5_takeNumber_12 : decode cX5_takeNumber 12 = .ok (.invokevirtual 169, 3) := by decide +kernel
theorem dX5_takeNumber_15 : decode cX5_takeNumber 15 = .ok (.putfield 94, 3) := by decide +kernel
theorem dX5_takeNumber_18 : decode cX5_takeNumber 18 = .ok (.aload_n 0, 1) := by decide +kernel
theorem dX5_takeNumber_19 : decode cX5_takeNumber 19 = .ok (.getfield 94, 3) := by decide +kernel
theorem dX5_takeNumber_22 : decode cX5_takeNumber 22 = .ok (.iload_n 1, 1) := by decide +kernel
theorem dX5_takeNumber_23 : decode cX5_takeNumber 23 = .ok (.if_icmp .lt 15, 3) := by decide +kernel
theorem dX5_takeNumber_26 : decode cX5_takeNumber 26 = .ok (.aload_n 0, 1) := by decide +kernel
theorem dX5_takeNumber_27 : decode cX5_takeNumber 27 = .ok (.getfield 94, 3) := by decide +kernel
theorem dX5_takeNumber_30 : decode cX5_takeNumber 30 = .ok (.iload_n 2, 1) := by decide +kernel
theorem dX5_takeNumber_31 : decode cX5_takeNumber 31 = .ok (.if_icmp .gt 7, 3) := by decide +kernel
theorem dX5_takeNumber_34 : decode cX5_takeNumber 34 = .ok (.iconst 1, 1) := by decide +kernel
theorem dX5_takeNumber_35 : decode cX5_takeNumber 35 = .ok (.goto 4, 3) := by decide +kernel
theorem dX5_takeNumber_38 : decode cX5_takeNumber 38 = .ok (.iconst 0, 1) := by decide +kernel
theorem dX5_takeNumber_39 : decode cX5_takeNumber 39 = .ok (.ireturn, 1) := by decide +kernel
theorem dX5_takeSemicolon_0 : decode cX5_takeSemicolon 0 = .ok (.aload_n 0, 1) := by decide +kernel
theorem dX5_takeSemicolon_1 : decode cX5_takeSemicolon 1 = .ok (.getfield 14, 3) := by decide +kernel
theorem dX5_takeSemicolon_4 : decode cX5_takeSemicolon 4 = .ok (.invokevirtual 42, 3) := by decide +kernel
theorem dX5_takeSemicolon_7 : decode cX5_takeSemicolon 7 = .ok (.aload_n 0, 1) := by decide +kernel
theorem dX5_takeSemicolon_8 : decode cX5_takeSemicolon 8 = .ok (.getfield 14, 3) := by decide +kernel
theorem dX5_takeSemicolon_11 : decode cX5_takeSemicolon 11 = .ok (.getfield 32, 3) := by decide +kernel
theorem dX5_takeSemicolon_14 : decode cX5_takeSemicolon 14 = .ok (.iconst 3, 1) := by decide +kernel
theorem dX5_takeSemicolon_15 : decode cX5_takeSemicolon 15 = .ok (.if_icmp .ne 7, 3) := by decide +kernel
theorem dX5_takeSemicolon_18 : decode cX5_takeSemicolon 18 = .ok (.iconst 1, 1) := by decide +kernel
theorem dX5_takeSemicolon_19 : decode cX5_takeSemicolon 19 = .ok (.goto 4, 3) := by decide +kernel
theorem dX5_takeSemicolon_22 : decode cX5_takeSemicolon 22 = .ok (.iconst 0, 1) := by decide +kernel
theorem dX5_takeSemicolon_23 : decode cX5_takeSemicolon 23 = .ok (.ireturn, 1) := by decide +kernel
theorem dX6_init_0 : decode cX6_init 0 = .ok (.aload_n 0, 1) := by decide +kernel
theorem dX6_init_1 : decode cX6_init 1 = .ok (.invokespecial 3, 3) := by decide +kernel
theorem dX6_init_4 : decode cX6_init 4 = .ok (.aload_n 0, 1) := by decide +kernel
theorem dX6_init_5 : decode cX6_init 5 = .ok (.new 9, 3) := by decide +kernel
theorem dX6_init_8 : decode cX6_init 8 = .ok (.dup, 1) := by decide +kernel
theorem dX6_init_9 : decode cX6_init 9 = .ok (.bipush 20, 2) := by decide +kernel
theorem dX6_init_11 : decode cX6_init 11 = .ok (.invokespecial 11, 3) := by decide +kernel
theorem dX6_init_14 : decode cX6_init 14 = .ok (.putfield 14, 3) := by decide +kernel
theorem dX6_init_17 : decode cX6_init 17 = .ok (.aload_n 0, 1) := by decide +kernel
theorem dX6_init_18 : decode cX6_init 18 = .ok (.new 20, 3) := by decide +kernel
theorem dX6_init_21 : decode cX6_init 21 = .ok (.dup, 1) := by decide +kernel
theorem dX6_init_22 : decode cX6_init 22 = .ok (.invokespecial 22, 3) := by decide +kernel
theorem dX6_init_25 : decode cX6_init 25 = .ok (.putfield 23, 3) := by decide +kernel
theorem dX6_init_28 : decode cX6_init 28 = .ok (.aload_n 0, 1) := by decide +kernel
theorem dX6_init_29 : decode cX6_init 29 = .ok (.new 20, 3) := by decide +kernel
theorem dX6_init_32 : decode cX6_init 32 = .ok (.dup, 1) := by decide +kernel
theorem dX6_init_33 : decode cX6_init 33 = .ok (.invokespecial 22, 3) := by decide +kernel
theorem dX6_init_36 : decode cX6_init 36 = .ok (.putfield 27, 3) := by decide +kernel
theorem dX6_init_39 : decode cX6_init 39 = .ok (.aload_n 0, 1) := by decide +kernel
theorem dX6_init_40 : decode cX6_init 40 = .ok (.invokevirtual 30, 3) := by decide +kernel
theorem dX6_init_43 : decode cX6_init 43 = .ok (.return_, 1) := by decide +kernel
theorem dX6_reset_0 : decode cX6_reset 0 = .ok (.aload_n 0, 1) := by decide +kernel
theorem dX6_reset_1 : decode cX6_reset 1 = .ok (.bipush 28, 2) := by decide +kernel
theorem dX6_reset_3 : decode cX6_reset 3 = .ok (.putfield 33, 3) := by decide +kernel
theorem dX6_reset_6 : decode cX6_reset 6 = .ok (.aload_n 0, 1) := by decide +kernel
theorem dX6_reset_7 : decode cX6_reset 7 = .ok (.iconst 1, 1) := by decide +kernel
theorem dX6_reset_8 : decode cX6_reset 8 = .ok (.putfield 37, 3) := by decide +kernel
theorem dX6_reset_11 : decode cX6_reset 11 = .ok (.aload_n 0, 1) := by decide +kernel
theorem dX6_reset_12 : decode cX6_reset 12 = .ok (.sipush 200, 3) := by decide +kernel
theorem dX6_reset_15 : decode cX6_reset 15 = .ok (.putfield 40, 3) := by decide +kernel
theorem dX6_reset_18 : decode cX6_reset 18 = .ok (.aload_n 0, 1) := by decide +kernel
theorem dX6_reset_19 : decode cX6_reset 19 = .ok (.sipush 600, 3) := by decide +kernel
theorem dX6_reset_22 : decode cX6_reset 22 = .ok (.putfield 43, 3) := by decide +kernel
theorem dX6_reset_25 : decode cX6_reset 25 = .ok (.aload_n 0, 1) := by decide +kernel
theorem dX6_reset_26 : decode cX6_reset 26 = .ok (.iconst 2, 1) := by decide +kernel
theorem dX6_reset_27 : decode cX6_reset 27 = .ok (.putfield 46, 3) := by decide +kernel
theorem dX6_reset_30 : decode cX6_reset 30 = .ok (.aload_n 0, 1) := by decide +kernel
theorem dX6_reset_31 : decode cX6_reset 31 = .ok (.getfield 14, 3) := by decide +kernel
theorem dX6_reset_34 : decode cX6_reset 34 = .ok (.invokevirtual 49, 3) := by decide +kernel
theorem dX6_reset_37 : decode cX6_reset 37 = .ok (.aload_n 0, 1) := by decide +kernel
theorem dX6_reset_38 : decode cX6_reset 38 = .ok (.getfield 23, 3) := by decide +kernel
theorem dX6_reset_41 : decode cX6_reset 41 = .ok (.invokevirtual 52, 3) := by decide +kernel
theorem dX6_reset_44 : decode cX6_reset 44 = .ok (.aload_n 0, 1) := by decide +kernel
theorem dX6_reset_45 : decode cX6_reset 45 = .ok (.getfield 27, 3) := by decide +kernel
theorem dX6_reset_48 : decode cX6_reset 48 = .ok (.invokevirtual 52, 3) := by decide +kernel
theorem dX6_reset_51 : decode cX6_reset 51 = .ok (.return_, 1) := by decide +kernel
theorem dX6_circle_0 : decode cX6_circle 0 = .ok (.sipush 1000, 3) := by decide +kernel
theorem dX6_circle_3 : decode cX6_circle 3 = .ok (.aload_n 0, 1) := by decide +kernel
theorem dX6_circle_4 : decode cX6_circle 4 = .ok (.getfield 33, 3) := by decide +kernel
theorem dX6_circle_7 : decode cX6_circle 7 = .ok (.imul, 1) := by decide +kernel
theorem dX6_circle_8 : decode cX6_circle 8 = .ok (.ireturn, 1) := by decide +kernel
theorem dX6_desk_0 : decode cX6_desk 0 = .ok (.iload_n 1, 1) := by decide +kernel
theorem dX6_desk_1 : decode cX6_desk 1 = .ok (.iconst 1, 1) := by decide +kernel
theorem dX6_desk_2 : decode cX6_desk 2 = .ok (.if_icmp .ne 10, 3) := by decide +kernel
theorem dX6_desk_5 : decode cX6_desk 5 = .ok (.aload_n 0, 1) := by decide +kernel
theorem dX6_desk_6 : decode cX6_desk 6 = .ok (.getfield 27, 3) := by decide +kernel
theorem dX6_desk_9 : decode cX6_desk 9 = .ok (.goto 7, 3) := by decide +kernel
theorem dX6_desk_12 : decode cX6_desk 12 = .ok (.aload_n 0, 1) := by decide +kernel
theorem dX6_desk_13 : decode cX6_desk 13 = .ok (.getfield 23, 3) := by decide +kernel
theorem dX6_desk_16 : decode cX6_desk 16 = .ok (.areturn, 1) := by decide +kernel
theorem dX7_init_0 : decode cX7_init 0 = .ok (.aload_n 0, 1) := by decide +kernel
theorem dX7_init_1 : decode cX7_init 1 = .ok (.invokespecial 3, 3) := by decide +kernel
theorem dX7_init_4 : decode cX7_init 4 = .ok (.aload_n 0, 1) := by decide +kernel
theorem dX7_init_5 : decode cX7_init 5 = .ok (.new 9, 3) := by decide +kernel
theorem dX7_init_8 : decode cX7_init 8 = .ok (.dup, 1) := by decide +kernel
theorem dX7_init_9 : decode cX7_init 9 = .ok (.bipush 40, 2) := by decide +kernel
theorem dX7_init_11 : decode cX7_init 11 = .ok (.invokespecial 13, 3) := by decide +kernel
theorem dX7_init_14 : decode cX7_init 14 = .ok (.putfield 16, 3) := by decide +kernel
theorem dX7_init_17 : decode cX7_init 17 = .ok (.return_, 1) := by decide +kernel
theorem dX7_clear_0 : decode cX7_clear 0 = .ok (.aload_n 0, 1) := by decide +kernel
theorem dX7_clear_1 : decode cX7_clear 1 = .ok (.getfield 16, 3) := by decide +kernel
theorem dX7_clear_4 : decode cX7_clear 4 = .ok (.invokevirtual 20, 3) := by decide +kernel
theorem dX7_clear_7 : decode cX7_clear 7 = .ok (.aload_n 0, 1) := by decide +kernel
theorem dX7_clear_8 : decode cX7_clear 8 = .ok (.iconst 0, 1) := by decide +kernel
theorem dX7_clear_9 : decode cX7_clear 9 = .ok (.putfield 23, 3) := by decide +kernel
theorem dX7_clear_12 : decode cX7_clear 12 = .ok (.aload_n 0, 1) := by decide +kernel
theorem dX7_clear_13 : decode cX7_clear 13 = .ok (.iconst 0, 1) := by decide +kernel
theorem dX7_clear_14 : decode cX7_clear 14 = .ok (.putfield 27, 3) := by decide +kernel
theorem dX7_clear_17 : decode cX7_clear 17 = .ok (.aload_n 0, 1) := by decide +kernel
theorem dX7_clear_18 : decode cX7_clear 18 = .ok (.iconst 0, 1) := by decide +kernel
theorem dX7_clear_19 : decode cX7_clear 19 = .ok (.putfield 30, 3) := by decide +kernel
theorem dX7_clear_22 : decode cX7_clear 22 = .ok (.return_, 1) := by decide +kernel
theorem dX7_copyFrom_0 : decode cX7_copyFrom 0 = .ok (.aload_n 0, 1) := by decide +kernel
theorem dX7_copyFrom_1 : decode cX7_copyFrom 1 = .ok (.getfield 16, 3) := by decide +kernel
theorem dX7_copyFrom_4 : decode cX7_copyFrom 4 = .ok (.aload_n 1, 1) := by decide +kernel
theorem dX7_copyFrom_5 : decode cX7_copyFrom 5 = .ok (.getfield 16, 3) := by decide +kernel
theorem dX7_copyFrom_8 : decode cX7_copyFrom 8 = .ok (.invokevirtual 34, 3) := by decide +kernel
theorem dX7_copyFrom_11 : decode cX7_copyFrom 11 = .ok (.aload_n 0, 1) := by decide +kernel
theorem dX7_copyFrom_12 : decode cX7_copyFrom 12 = .ok (.aload_n 1, 1) := by decide +kernel
theorem dX7_copyFrom_13 : decode cX7_copyFrom 13 = .ok (.getfield 23, 3) := by decide +kernel
theorem dX7_copyFrom_16 : decode cX7_copyFrom 16 = .ok (.putfield 23, 3) := by decide +kernel
theorem dX7_copyFrom_19 : decode cX7_copyFrom 19 = .ok (.aload_n 0, 1) := by decide +kernel
theorem dX7_copyFrom_20 : decode cX7_copyFrom 20 = .ok (.aload_n 1, 1) := by decide +kernel
theorem dX7_copyFrom_21 : decode cX7_copyFrom 21 = .ok (.getfield 27, 3) := by decide +kernel
theorem dX7_copyFrom_24 : decode cX7_copyFrom 24 = .ok (.putfield 27, 3) := by decide +kernel
theorem dX7_copyFrom_27 : decode cX7_copyFrom 27 = .ok (.aload_n 0, 1) := by decide +kernel
theorem dX7_copyFrom_28 : decode cX7_copyFrom 28 = .ok (.aload_n 1, 1) := by decide +kernel
theorem dX7_copyFrom_29 : decode cX7_copyFrom 29 = .ok (.getfield 30, 3) := by decide +kernel
theorem dX7_copyFrom_32 : decode cX7_copyFrom 32 = .ok (.putfield 30, 3) := by decide +kernel
theorem dX7_copyFrom_35 : decode cX7_copyFrom 35 = .ok (.return_, 1) := by decide +kernel
theorem dX7_take_0 : decode cX7_take 0 = .ok (.iload_n 1, 1) := by decide +kernel
theorem dX7_take_1 : decode cX7_take 1 = .ok (.aload_n 0, 1) := by decide +kernel
theorem dX7_take_2 : decode cX7_take 2 = .ok (.getfield 27, 3) := by decide +kernel
theorem dX7_take_5 : decode cX7_take 5 = .ok (.if_icmp .ne 9, 3) := by decide +kernel
theorem dX7_take_8 : decode cX7_take 8 = .ok (.aload_n 0, 1) := by decide +kernel
theorem dX7_take_9 : decode cX7_take 9 = .ok (.iconst 1, 1) := by decide +kernel
theorem dX7_take_10 : decode cX7_take 10 = .ok (.putfield 30, 3) := by decide +kernel
theorem dX7_take_13 : decode cX7_take 13 = .ok (.return_, 1) := by decide +kernel
theorem dX7_take_14 : decode cX7_take 14 = .ok (.iload_n 1, 1) := by decide +kernel
theorem dX7_take_15 : decode cX7_take 15 = .ok (.iconst 2, 1) := by decide +kernel
theorem dX7_take_16 : decode cX7_take 16 = .ok (.if_icmp .ge 11, 3) := by decide +kernel
theorem dX7_take_19 : decode cX7_take 19 = .ok (.aload_n 0, 1) := by decide +kernel
theorem dX7_take_20 : decode cX7_take 20 = .ok (.iload_n 1, 1) := by decide +kernel
theorem dX7_take_21 : decode cX7_take 21 = .ok (.putfield 27, 3) := by decide +kernel
theorem dX7_take_24 : decode cX7_take 24 = .ok (.goto 27, 3) := by decide +kernel
theorem dX7_take_27 : decode cX7_take 27 = .ok (.aload_n 0, 1) := by decide +kernel
theorem dX7_take_28 : decode cX7_take 28 = .ok (.getfield 16, 3) := by decide +kernel
theorem dX7_take_31 : decode cX7_take 31 = .ok (.iload_n 1, 1) := by decide +kernel
theorem dX7_take_32 : decode cX7_take 32 = .ok (.aload_n 0, 1) := by decide +kernel
theorem dX7_take_33 : decode cX7_take 33 = .ok (.getfield 27, 3) := by decide +kernel
theorem dX7_take_36 : decode cX7_take 36 = .ok (.iconst 1, 1) := by decide +kernel
theorem dX7_take_37 : decode cX7_take 37 = .ok (.if_icmp .ne 7, 3) := by decide +kernel
theorem dX7_take_40 : decode cX7_take 40 = .ok (.iconst 1, 1) := by decide +kernel
theorem dX7_take_41 : decode cX7_take 41 = .ok (.goto 4, 3) := by decide +kernel
theorem dX7_take_44 : decode cX7_take 44 = .ok (.iconst 0, 1) := by decide +kernel
theorem dX7_take_45 : decode cX7_take 45 = .ok (.invokestatic 38, 3) := by decide +kernel
theorem dX7_take_48 : decode cX7_take 48 = .ok (.invokevirtual 42, 3) := by decide +kernel
theorem dX7_take_51 : decode cX7_take 51 = .ok (.aload_n 0, 1) := by decide +kernel
theorem dX7_take_52 : decode cX7_take 52 = .ok (.dup, 1) := by decide +kernel
theorem dX7_take_53 : decode cX7_take 53 = .ok (.getfield 23, 3) := by decide +kernel
theorem dX7_take_56 : decode cX7_take 56 = .ok (.iconst 1, 1) := by decide +kernel
theorem dX7_take_57 : decode cX7_take 57 = .ok (.iadd, 1) := by decide +kernel
theorem dX7_take_58 : decode cX7_take 58 = .ok (.putfield 23, 3) := by decide +kernel
theorem dX7_take_61 : decode cX7_take 61 = .ok (.return_, 1) := by decide +kernel
theorem dX8_init_0 : decode cX8_init 0 = .ok (.aload_n 0, 1) := by decide +kernel
theorem dX8_init_1 : decode cX8_init 1 = .ok (.invokespecial 3, 3) := by decide +kernel
theorem dX8_init_4 : decode cX8_init 4 = .ok (.aload_n 0, 1) := by decide +kernel
theorem dX8_init_5 : decode cX8_init 5 = .ok (.iload_n 1, 1) := by decide +kernel
theorem dX8_init_6 : decode cX8_init 6 = .ok (.iconst 1, 1) := by decide +kernel
theorem dX8_init_7 : decode cX8_init 7 = .ok (.invokestatic 9, 3) := by decide +kernel
theorem dX8_init_10 : decode cX8_init 10 = .ok (.putfield 15, 3) := by decide +kernel
theorem dX8_init_13 : decode cX8_init 13 = .ok (.aload_n 0, 1) := by decide +kernel
theorem dX8_init_14 : decode cX8_init 14 = .ok (.iconst 3, 1) := by decide +kernel
theorem dX8_init_15 : decode cX8_init 15 = .ok (.aload_n 0, 1) := by decide +kernel
theorem dX8_init_16 : decode cX8_init 16 = .ok (.getfield 15, 3) := by decide +kernel
theorem dX8_init_19 : decode cX8_init 19 = .ok (.imul, 1) := by decide +kernel
theorem dX8_init_20 : decode cX8_init 20 = .ok (.newarray .int, 2) := by decide +kernel
theorem dX8_init_22 : decode cX8_init 22 = .ok (.putfield 21, 3) := by decide +kernel
theorem dX8_init_25 : decode cX8_init 25 = .ok (.return_, 1) := by decide +kernel
theorem dX8_size_0 : decode cX8_size 0 = .ok (.aload_n 0, 1) := by decide +kernel
theorem dX8_size_1 : decode cX8_size 1 = .ok (.getfield 25, 3) := by decide +kernel
theorem dX8_size_4 : decode cX8_size 4 = .ok (.ireturn, 1) := by decide +kernel
theorem dX8_get_0 : decode cX8_get 0 = .ok (.iload_n 1, 1) := by decide +kernel
theorem dX8_get_1 : decode cX8_get 1 = .ok (.ifCond .lt 20, 3) := by decide +kernel
theorem dX8_get_4 : decode cX8_get 4 = .ok (.iload_n 1, 1) := by decide +kernel
theorem dX8_get_5 : decode cX8_get 5 = .ok (.aload_n 0, 1) := by decide +kernel
theorem dX8_get_6 : decode cX8_get 6 = .ok (.getfield 25, 3) := by decide +kernel
theorem dX8_get_9 : decode cX8_get 9 = .ok (.if_icmp .ge 12, 3) := by decide +kernel
theorem dX8_get_12 : decode cX8_get 12 = .ok (.iload_n 2, 1) := by decide +kernel
theorem dX8_get_13 : decode cX8_get 13 = .ok (.ifCond .lt 8, 3) := by decide +kernel
theorem dX8_get_16 : decode cX8_get 16 = .ok (.iload_n 2, 1) := by decide +kernel
theorem dX8_get_17 : decode cX8_get 17 = .ok (.iconst 3, 1) := by decide +kernel
theorem dX8_get_18 : decode cX8_get 18 = .ok (.if_icmp .lt 5, 3) := by decide +kernel
theorem dX8_get_21 : decode cX8_get 21 = .ok (.iconst (-1), 1) := by decide +kernel
theorem dX8_get_22 : decode cX8_get 22 = .ok (.ireturn, 1) := by decide +kernel
theorem dX8_get_23 : decode cX8_get 23 = .ok (.aload_n 0, 1) := by decide +kernel
theorem dX8_get_24 : decode cX8_get 24 = .ok (.iload_n 1, 1) := by decide +kernel
theorem dX8_get_25 : decode cX8_get 25 = .ok (.invokevirtual 28, 3) := by decide +kernel
theorem dX8_get_28 : decode cX8_get 28 = .ok (.iload_n 2, 1) := by decide +kernel
theorem dX8_get_29 : decode cX8_get 29 = .ok (.iadd, 1) := by decide +kernel
theorem dX8_get_30 : decode cX8_get 30 = .ok (.istore_n 3, 1) := by decide +kernel
theorem dX8_get_31 : decode cX8_get 31 = .ok (.iload_n 3, 1) := by decide +kernel
theorem dX8_get_32 : decode cX8_get 32 = .ok (.aload_n 0, 1) := by decide +kernel
theorem dX8_get_33 : decode cX8_get 33 = .ok (.getfield 21, 3) := by decide +kernel
theorem dX8_get_36 : decode cX8_get 36 = .ok (.arraylength, 1) := by decide +kernel
theorem dX8_get_37 : decode cX8_get 37 = .ok (.if_icmp .ge 12, 3) := by decide +kernel
theorem dX8_get_40 : decode cX8_get 40 = .ok (.aload_n 0, 1) := by decide +kernel
theorem dX8_get_41 : decode cX8_get 41 = .ok (.getfield 21, 3) := by decide +kernel
theorem dX8_get_44 : decode cX8_get 44 = .ok (.iload_n 3, 1) := by decide +kernel
theorem dX8_get_45 : decode cX8_get 45 = .ok (.iaload, 1) := by decide +kernel
theorem dX8_get_46 : decode cX8_get 46 = .ok (.goto 4, 3) := by decide +kernel
theorem dX8_get_49 : decode cX8_get 49 = .ok (.iconst (-1), 1) := by decide +kernel
theorem dX8_get_50 : decode cX8_get 50 = .ok (.ireturn, 1) := by decide +kernel
theorem dX8_add_0 : decode cX8_add 0 = .ok (.aload_n 0, 1) := by decide +kernel
theorem dX8_add_1 : decode cX8_add 1 = .ok (.getfield 25, 3) := by decide +kernel
theorem dX8_add_4 : decode cX8_add 4 = .ok (.aload_n 0, 1) := by decide +kernel
theorem dX8_add_5 : decode cX8_add 5 = .ok (.getfield 15, 3) := by decide +kernel
theorem dX8_add_8 : decode cX8_add 8 = .ok (.if_icmp .ne 7, 3) := by decide +kernel
theorem dX8_add_11 : decode cX8_add 11 = .ok (.aload_n 0, 1) := by decide +kernel
theorem dX8_add_12 : decode cX8_add 12 = .ok (.invokevirtual 32, 3) := by decide +kernel
theorem dX8_add_15 : decode cX8_add 15 = .ok (.aload_n 0, 1) := by decide +kernel
theorem dX8_add_16 : decode cX8_add 16 = .ok (.aload_n 0, 1) := by decide +kernel
theorem dX8_add_17 : decode cX8_add 17 = .ok (.getfield 25, 3) := by decide +kernel
theorem dX8_add_20 : decode cX8_add 20 = .ok (.invokevirtual 28, 3) := by decide +kernel
theorem dX8_add_23 : decode cX8_add 23 = .ok (.istore 4, 2) := by decide +kernel
theorem dX8_add_25 : decode cX8_add 25 = .ok (.iload 4, 2) := by decide +kernel
theorem dX8_add_27 : decode cX8_add 27 = .ok (.iconst 2, 1) := by decide +kernel
theorem dX8_add_28 : decode cX8_add 28 = .ok (.iadd, 1) := by decide +kernel
theorem dX8_add_29 : decode cX8_add 29 = .ok (.aload_n 0, 1) := by decide +kernel
theorem dX8_add_30 : decode cX8_add 30 = .ok (.getfield 21, 3) := by decide +kernel
theorem dX8_add_33 : decode cX8_add 33 = .ok (.arraylength, 1) := by decide +kernel
theorem dX8_add_34 : decode cX8_add 34 = .ok (.if_icmp .ge 41, 3) := by decide +kernel
theorem dX8_add_37 : decode cX8_add 37 = .ok (.aload_n 0, 1) := by decide +kernel
theorem dX8_add_38 : decode cX8_add 38 = .ok (.getfield 21, 3) := by decide +kernel
theorem dX8_add_41 : decode cX8_add 41 = .ok (.iload 4, 2) := by decide +kernel
theorem dX8_add_43 : decode cX8_add 43 = .ok (.iload_n 1, 1) := by decide +kernel
theorem dX8_add_44 : decode cX8_add 44 = .ok (.iastore, 1) := by decide +kernel
theorem dX8_add_45 : decode cX8_add 45 = .ok (.aload_n 0, 1) := by decide +kernel
theorem dX8_add_46 : decode cX8_add 46 = .ok (.getfield 21, 3) := by decide +kernel
theorem dX8_add_49 : decode cX8_add 49 = .ok (.iload 4, 2) := by decide +kernel
theorem dX8_add_51 : decode cX8_add 51 = .ok (.iconst 1, 1) := by decide +kernel
theorem dX8_add_52 : decode cX8_add 52 = .ok (.iadd, 1) := by decide +kernel
theorem dX8_add_53 : decode cX8_add 53 = .ok (.iload_n 2, 1) := by decide +kernel
theorem dX8_add_54 : decode cX8_add 54 = .ok (.iastore, 1) := by decide +kernel
theorem dX8_add_55 : decode cX8_add 55 = .ok (.aload_n 0, 1) := by decide +kernel
theorem dX8_add_56 : decode cX8_add 56 = .ok (.getfield 21, 3) := by decide +kernel
theorem dX8_add_59 : decode cX8_add 59 = .ok (.iload 4, 2) := by decide +kernel
theorem dX8_add_61 : decode cX8_add 61 = .ok (.iconst 2, 1) := by decide +kernel
theorem dX8_add_62 : decode cX8_add 62 = .ok (.iadd, 1) := by decide +kernel
theorem dX8_add_63 : decode cX8_add 63 = .ok (.iload_n 3, 1) := by decide +kernel
theorem dX8_add_64 : decode cX8_add 64 = .ok (.iastore, 1) := by decide +kernel
theorem dX8_add_65 : decode cX8_add 65 = .ok (.aload_n 0, 1) := by decide +kernel
theorem dX8_add_66 : decode cX8_add 66 = .ok (.dup, 1) := by decide +kernel
theorem dX8_add_67 : decode cX8_add 67 = .ok (.getfield 25, 3) := by decide +kernel
theorem dX8_add_70 : decode cX8_add 70 = .ok (.iconst 1, 1) := by decide +kernel
theorem dX8_add_71 : decode cX8_add 71 = .ok (.iadd, 1) := by decide +kernel
theorem dX8_add_72 : decode cX8_add 72 = .ok (.putfield 25, 3) := by decide +kernel
theorem dX8_add_75 : decode cX8_add 75 = .ok (.return_, 1) := by decide +kernel
theorem dX8_removeFirst_0 : decode cX8_removeFirst 0 = .ok (.aload_n 0, 1) := by decide +kernel
theorem dX8_removeFirst_1 : decode cX8_removeFirst 1 = .ok (.getfield 25, 3) := by decide +kernel
theorem dX8_removeFirst_4 : decode cX8_removeFirst 4 = .ok (.ifCond .le 40, 3) := by decide +kernel
theorem dX8_removeFirst_7 : decode cX8_removeFirst 7 = .ok (.aload_n 0, 1) := by decide +kernel
theorem dX8_removeFirst_8 : decode cX8_removeFirst 8 = .ok (.aload_n 0, 1) := by decide +kernel
theorem dX8_removeFirst_9 : decode cX8_removeFirst 9 = .ok (.getfield 35, 3) := by decide +kernel
theorem dX8_removeFirst_12 : decode cX8_removeFirst 12 = .ok (.iconst 1, 1) := by decide +kernel
theorem dX8_removeFirst_13 : decode cX8_removeFirst 13 = .ok (.iadd, 1) := by decide +kernel
theorem dX8_removeFirst_14 : decode cX8_removeFirst 14 = .ok (.aload_n 0, 1) := by decide +kernel
theorem dX8_removeFirst_15 : decode cX8_removeFirst 15 = .ok (.getfield 15, 3) := by decide +kernel
theorem dX8_removeFirst_18 : decode cX8_removeFirst 18 = .ok (.if_icmp .ge 12, 3) := by decide +kernel
theorem dX8_removeFirst_21 : decode cX8_removeFirst 21 = .ok (.aload_n 0, 1) := by decide +kernel
theorem dX8_removeFirst_22 : decode cX8_removeFirst 22 = .ok (.getfield 35, 3) := by decide +kernel
theorem dX8_removeFirst_25 : decode cX8_removeFirst 25 = .ok (.iconst 1, 1) := by decide +kernel
theorem dX8_removeFirst_26 : decode cX8_removeFirst 26 = .ok (.iadd, 1) := by decide +kernel
theorem dX8_removeFirst_27 : decode cX8_removeFirst 27 = .ok (.goto 4, 3) := by decide +kernel
theorem dX8_removeFirst_30 : decode cX8_removeFirst 30 = .ok (.iconst 0, 1) := by decide +kernel
theorem dX8_removeFirst_31 : decode cX8_removeFirst 31 = .ok (.putfield 35, 3) := by decide +kernel
theorem dX8_removeFirst_34 : decode cX8_removeFirst 34 = .ok (.aload_n 0, 1) := by decide +kernel
theorem dX8_removeFirst_35 : decode cX8_removeFirst 35 = .ok (.dup, 1) := by decide +kernel
theorem dX8_removeFirst_36 : decode cX8_removeFirst 36 = .ok (.getfield 25, 3) := by decide +kernel
theorem dX8_removeFirst_39 : decode cX8_removeFirst 39 = .ok (.iconst 1, 1) := by decide +kernel
theorem dX8_removeFirst_40 : decode cX8_removeFirst 40 = .ok (.isub, 1) := by decide +kernel
theorem dX8_removeFirst_41 : decode cX8_removeFirst 41 = .ok (.putfield 25, 3) := by decide +kernel
theorem dX8_removeFirst_44 : decode cX8_removeFirst 44 = .ok (.return_, 1) := by decide +kernel
theorem dX8_clear_0 : decode cX8_clear 0 = .ok (.aload_n 0, 1) := by decide +kernel
theorem dX8_clear_1 : decode cX8_clear 1 = .ok (.iconst 0, 1) := by decide +kernel
theorem dX8_clear_2 : decode cX8_clear 2 = .ok (.putfield 35, 3) := by decide +kernel
theorem dX8_clear_5 : decode cX8_clear 5 = .ok (.aload_n 0, 1) := by decide +kernel
theorem dX8_clear_6 : decode cX8_clear 6 = .ok (.iconst 0, 1) := by decide +kernel
theorem dX8_clear_7 : decode cX8_clear 7 = .ok (.putfield 25, 3) := by decide +kernel
theorem dX8_clear_10 : decode cX8_clear 10 = .ok (.return_, 1) := by decide +kernel
theorem dX8_copyFrom_0 : decode cX8_copyFrom 0 = .ok (.aload_n 0, 1) := by decide +kernel
theorem dX8_copyFrom_1 : decode cX8_copyFrom 1 = .ok (.invokevirtual 38, 3) := by decide +kernel
theorem dX8_copyFrom_4 : decode cX8_copyFrom 4 = .ok (.iconst 0, 1) := by decide +kernel
theorem dX8_copyFrom_5 : decode cX8_copyFrom 5 = .ok (.istore_n 2, 1) := by decide +kernel
theorem dX8_copyFrom_6 : decode cX8_copyFrom 6 = .ok (.iload_n 2, 1) := by decide +kernel
theorem dX8_copyFrom_7 : decode cX8_copyFrom 7 = .ok (.aload_n 1, 1) := by decide +kernel
theorem dX8_copyFrom_8 : decode cX8_copyFrom 8 = .ok (.getfield 25, 3) := by decide +kernel
theorem dX8_copyFrom_11 : decode cX8_copyFrom 11 = .ok (.if_icmp .ge 31, 3) := by decide +kernel
theorem dX8_copyFrom_14 : decode cX8_copyFrom 14 = .ok (.aload_n 0, 1) := by decide +kernel
theorem dX8_copyFrom_15 : decode cX8_copyFrom 15 = .ok (.aload_n 1, 1) := by decide +kernel
theorem dX8_copyFrom_16 : decode cX8_copyFrom 16 = .ok (.iload_n 2, 1) := by decide +kernel
theorem dX8_copyFrom_17 : decode cX8_copyFrom 17 = .ok (.iconst 0, 1) := by decide +kernel
theorem dX8_copyFrom_18 : decode cX8_copyFrom 18 = .ok (.invokevirtual 41, 3) := by decide +kernel
theorem dX8_copyFrom_21 : decode cX8_copyFrom 21 = .ok (.aload_n 1, 1) := by decide +kernel
theorem dX8_copyFrom_22 : decode cX8_copyFrom 22 = .ok (.iload_n 2, 1) := by decide +kernel
theorem dX8_copyFrom_23 : decode cX8_copyFrom 23 = .ok (.iconst 1, 1) := by decide +kernel
theorem dX8_copyFrom_24 : decode cX8_copyFrom 24 = .ok (.invokevirtual 41, 3) := by decide +kernel
theorem dX8_copyFrom_27 : decode cX8_copyFrom 27 = .ok (.aload_n 1, 1) := by decide +kernel
theorem dX8_copyFrom_28 : decode cX8_copyFrom 28 = .ok (.iload_n 2, 1) := by decide +kernel
theorem dX8_copyFrom_29 : decode cX8_copyFrom 29 = .ok (.iconst 2, 1) := by decide +kernel
theorem dX8_copyFrom_30 : decode cX8_copyFrom 30 = .ok (.invokevirtual 41, 3) := by decide +kernel
theorem dX8_copyFrom_33 : decode cX8_copyFrom 33 = .ok (.invokevirtual 44, 3) := by decide +kernel
theorem dX8_copyFrom_36 : decode cX8_copyFrom 36 = .ok (.iinc 2 1, 3) := by decide +kernel
theorem dX8_copyFrom_39 : decode cX8_copyFrom 39 = .ok (.goto (-33), 3) := by decide +kernel
theorem dX8_copyFrom_42 : decode cX8_copyFrom 42 = .ok (.return_, 1) := by decide +kernel
theorem dX8_cellOf_0 : decode cX8_cellOf 0 = .ok (.aload_n 0, 1) := by decide +kernel
theorem dX8_cellOf_1 : decode cX8_cellOf 1 = .ok (.getfield 35, 3) := by decide +kernel
theorem dX8_cellOf_4 : decode cX8_cellOf 4 = .ok (.iload_n 1, 1) := by decide +kernel
theorem dX8_cellOf_5 : decode cX8_cellOf 5 = .ok (.iadd, 1) := by decide +kernel
theorem dX8_cellOf_6 : decode cX8_cellOf 6 = .ok (.istore_n 2, 1) := by decide +kernel
theorem dX8_cellOf_7 : decode cX8_cellOf 7 = .ok (.iconst 3, 1) := by decide +kernel
theorem dX8_cellOf_8 : decode cX8_cellOf 8 = .ok (.iload_n 2, 1) := by decide +kernel
theorem dX8_cellOf_9 : decode cX8_cellOf 9 = .ok (.aload_n 0, 1) := by decide +kernel
theorem dX8_cellOf_10 : decode cX8_cellOf 10 = .ok (.getfield 15, 3) := by decide +kernel
theorem dX8_cellOf_13 : decode cX8_cellOf 13 = .ok (.if_icmp .ge 7, 3) := by decide +kernel
theorem dX8_cellOf_16 : decode cX8_cellOf 16 = .ok (.iload_n 2, 1) := by decide +kernel
theorem dX8_cellOf_17 : decode cX8_cellOf 17 = .ok (.goto 9, 3) := by decide +kernel
theorem dX8_cellOf_20 : decode cX8_cellOf 20 = .ok (.iload_n 2, 1) := by decide +kernel
theorem dX8_cellOf_21 : decode cX8_cellOf 21 = .ok (.aload_n 0, 1) := by decide +kernel
theorem dX8_cellOf_22 : decode cX8_cellOf 22 = .ok (.getfield 15, 3) := by decide +kernel
theorem dX8_cellOf_25 : decode cX8_cellOf 25 = .ok (.isub, 1) := by decide +kernel
theorem dX8_cellOf_26 : decode cX8_cellOf 26 = .ok (.imul, 1) := by decide +kernel
theorem dX8_cellOf_27 : decode cX8_cellOf 27 = .ok (.ireturn, 1) := by decide +kernel
theorem dX9_init_0 : decode cX9_init 0 = .ok (.aload_n 0, 1) := by decide +kernel
theorem dX9_init_1 : decode cX9_init 1 = .ok (.invokespecial 3, 3) := by decide +kernel
theorem dX9_init_4 : decode cX9_init 4 = .ok (.aload_n 0, 1) := by decide +kernel
theorem dX9_init_5 : decode cX9_init 5 = .ok (.iload_n 1, 1) := by decide +kernel
theorem dX9_init_6 : decode cX9_init 6 = .ok (.iconst 0, 1) := by decide +kernel
theorem dX9_init_7 : decode cX9_init 7 = .ok (.invokestatic 9, 3) := by decide +kernel
theorem dX9_init_10 : decode cX9_init 10 = .ok (.newarray .int, 2) := by decide +kernel
theorem dX9_init_12 : decode cX9_init 12 = .ok (.putfield 15, 3) := by decide +kernel
theorem dX9_init_15 : decode cX9_init 15 = .ok (.return_, 1) := by decide +kernel
theorem dX9_size_0 : decode cX9_size 0 = .ok (.aload_n 0, 1) := by decide +kernel
theorem dX9_size_1 : decode cX9_size 1 = .ok (.getfield 21, 3) := by decide +kernel
theorem dX9_size_4 : decode cX9_size 4 = .ok (.ireturn, 1) := by decide +kernel
theorem dX9_get_0 : decode cX9_get 0 = .ok (.iload_n 1, 1) := by decide +kernel
theorem dX9_get_1 : decode cX9_get 1 = .ok (.ifCond .lt 29, 3) := by decide +kernel
theorem dX9_get_4 : decode cX9_get 4 = .ok (.iload_n 1, 1) := by decide +kernel
theorem dX9_get_5 : decode cX9_get 5 = .ok (.aload_n 0, 1) := by decide +kernel
theorem dX9_get_6 : decode cX9_get 6 = .ok (.getfield 21, 3) := by decide +kernel
theorem dX9_get_9 : decode cX9_get 9 = .ok (.if_icmp .ge 21, 3) := by decide +kernel
theorem dX9_get_12 : decode cX9_get 12 = .ok (.iload_n 1, 1) := by decide +kernel
theorem dX9_get_13 : decode cX9_get 13 = .ok (.aload_n 0, 1) := by decide +kernel
theorem dX9_get_14 : decode cX9_get 14 = .ok (.getfield 15, 3) := by decide +kernel
theorem dX9_get_17 : decode cX9_get 17 = .ok (.arraylength, 1) := by decide +kernel
theorem dX9_get_18 : decode cX9_get 18 = .ok (.if_icmp .ge 12, 3) := by decide +kernel
theorem dX9_get_21 : decode cX9_get 21 = .ok (.aload_n 0, 1) := by decide +kernel
theorem dX9_get_22 : decode cX9_get 22 = .ok (.getfield 15, 3) := by decide +kernel
theorem dX9_get_25 : decode cX9_get 25 = .ok (.iload_n 1, 1) := by decide +kernel
theorem dX9_get_26 : decode cX9_get 26 = .ok (.iaload, 1) := by decide +kernel
theorem dX9_get_27 : decode cX9_get 27 = .ok (.goto 4, 3) := by decide +kernel
theorem dX9_get_30 : decode cX9_get 30 = .ok (.iconst (-1), 1) := by decide +kernel
theorem dX9_get_31 : decode cX9_get 31 = .ok (.ireturn, 1) := by decide +kernel
theorem dX9_add_0 : decode cX9_add 0 = .ok (.aload_n 0, 1) := by decide +kernel
theorem dX9_add_1 : decode cX9_add 1 = .ok (.getfield 21, 3) := by decide +kernel
theorem dX9_add_4 : decode cX9_add 4 = .ok (.aload_n 0, 1) := by decide +kernel
theorem dX9_add_5 : decode cX9_add 5 = .ok (.getfield 15, 3) := by decide +kernel
theorem dX9_add_8 : decode cX9_add 8 = .ok (.arraylength, 1) := by decide +kernel
theorem dX9_add_9 : decode cX9_add 9 = .ok (.if_icmp .ge 23, 3) := by decide +kernel
theorem dX9_add_12 : decode cX9_add 12 = .ok (.aload_n 0, 1) := by decide +kernel
theorem dX9_add_13 : decode cX9_add 13 = .ok (.getfield 15, 3) := by decide +kernel
theorem dX9_add_16 : decode cX9_add 16 = .ok (.aload_n 0, 1) := by decide +kernel
theorem dX9_add_17 : decode cX9_add 17 = .ok (.getfield 21, 3) := by decide +kernel
theorem dX9_add_20 : decode cX9_add 20 = .ok (.iload_n 1, 1) := by decide +kernel
theorem dX9_add_21 : decode cX9_add 21 = .ok (.iastore, 1) := by decide +kernel
theorem dX9_add_22 : decode cX9_add 22 = .ok (.aload_n 0, 1) := by decide +kernel
theorem dX9_add_23 : decode cX9_add 23 = .ok (.dup, 1) := by decide +kernel
theorem dX9_add_24 : decode cX9_add 24 = .ok (.getfield 21, 3) := by decide +kernel
theorem dX9_add_27 : decode cX9_add 27 = .ok (.iconst 1, 1) := by decide +kernel
theorem dX9_add_28 : decode cX9_add 28 = .ok (.iadd, 1) := by decide +kernel
theorem dX9_add_29 : decode cX9_add 29 = .ok (.putfield 21, 3) := by decide +kernel
theorem dX9_add_32 : decode cX9_add 32 = .ok (.return_, 1) := by decide +kernel
theorem dX9_holds_0 : decode cX9_holds 0 = .ok (.iconst 0, 1) := by decide +kernel
theorem dX9_holds_1 : decode cX9_holds 1 = .ok (.istore_n 2, 1) := by decide +kernel
theorem dX9_holds_2 : decode cX9_holds 2 = .ok (.iload_n 2, 1) := by decide +kernel
theorem dX9_holds_3 : decode cX9_holds 3 = .ok (.aload_n 0, 1) := by decide +kernel
theorem dX9_holds_4 : decode cX9_holds 4 = .ok (.getfield 21, 3) := by decide +kernel
theorem dX9_holds_7 : decode cX9_holds 7 = .ok (.if_icmp .ge 20, 3) := by decide +kernel
theorem dX9_holds_10 : decode cX9_holds 10 = .ok (.aload_n 0, 1) := by decide +kernel
theorem dX9_holds_11 : decode cX9_holds 11 = .ok (.iload_n 2, 1) := by decide +kernel
theorem dX9_holds_12 : decode cX9_holds 12 = .ok (.invokevirtual 25, 3) := by decide +kernel
theorem dX9_holds_15 : decode cX9_holds 15 = .ok (.iload_n 1, 1) := by decide +kernel
theorem dX9_holds_16 : decode cX9_holds 16 = .ok (.if_icmp .ne 5, 3) := by decide +kernel
theorem dX9_holds_19 : decode cX9_holds 19 = .ok (.iconst 1, 1) := by decide +kernel
theorem dX9_holds_20 : decode cX9_holds 20 = .ok (.ireturn, 1) := by decide +kernel
theorem dX9_holds_21 : decode cX9_holds 21 = .ok (.iinc 2 1, 3) := by decide +kernel
theorem dX9_holds_24 : decode cX9_holds 24 = .ok (.goto (-22), 3) := by decide +kernel
theorem dX9_holds_27 : decode cX9_holds 27 = .ok (.iconst 0, 1) := by decide +kernel
theorem dX9_holds_28 : decode cX9_holds 28 = .ok (.ireturn, 1) := by decide +kernel
theorem dX9_shorten_0 : decode cX9_shorten 0 = .ok (.iload_n 1, 1) := by decide +kernel
theorem dX9_shorten_1 : decode cX9_shorten 1 = .ok (.ifCond .lt 16, 3) := by decide +kernel
theorem dX9_shorten_4 : decode cX9_shorten 4 = .ok (.iload_n 1, 1) := by decide +kernel
theorem dX9_shorten_5 : decode cX9_shorten 5 = .ok (.aload_n 0, 1) := by decide +kernel
theorem dX9_shorten_6 : decode cX9_shorten 6 = .ok (.getfield 21, 3) := by decide +kernel
theorem dX9_shorten_9 : decode cX9_shorten 9 = .ok (.if_icmp .ge 8, 3) := by decide +kernel
theorem dX9_shorten_12 : decode cX9_shorten 12 = .ok (.aload_n 0, 1) := by decide +kernel
theorem dX9_shorten_13 : decode cX9_shorten 13 = .ok (.iload_n 1, 1) := by decide +kernel
theorem dX9_shorten_14 : decode cX9_shorten 14 = .ok (.putfield 21, 3) := by decide +kernel
theorem dX9_shorten_17 : decode cX9_shorten 17 = .ok (.return_, 1) := by decide +kernel
theorem dX9_clear_0 : decode cX9_clear 0 = .ok (.aload_n 0, 1) := by decide +kernel
theorem dX9_clear_1 : decode cX9_clear 1 = .ok (.iconst 0, 1) := by decide +kernel
theorem dX9_clear_2 : decode cX9_clear 2 = .ok (.putfield 21, 3) := by decide +kernel
theorem dX9_clear_5 : decode cX9_clear 5 = .ok (.return_, 1) := by decide +kernel
theorem dX9_copyFrom_0 : decode cX9_copyFrom 0 = .ok (.aload_n 0, 1) := by decide +kernel
theorem dX9_copyFrom_1 : decode cX9_copyFrom 1 = .ok (.aload_n 1, 1) := by decide +kernel
theorem dX9_copyFrom_2 : decode cX9_copyFrom 2 = .ok (.getfield 21, 3) := by decide +kernel
theorem dX9_copyFrom_5 : decode cX9_copyFrom 5 = .ok (.aload_n 1, 1) := by decide +kernel
theorem dX9_copyFrom_6 : decode cX9_copyFrom 6 = .ok (.getfield 15, 3) := by decide +kernel
theorem dX9_copyFrom_9 : decode cX9_copyFrom 9 = .ok (.arraylength, 1) := by decide +kernel
theorem dX9_copyFrom_10 : decode cX9_copyFrom 10 = .ok (.aload_n 0, 1) := by decide +kernel
theorem dX9_copyFrom_11 : decode cX9_copyFrom 11 = .ok (.getfield 15, 3) := by decide +kernel
theorem dX9_copyFrom_14 : decode cX9_copyFrom 14 = .ok (.arraylength, 1) := by decide +kernel
theorem dX9_copyFrom_15 : decode cX9_copyFrom 15 = .ok (.invokestatic 29, 3) := by decide +kernel
theorem dX9_copyFrom_18 : decode cX9_copyFrom 18 = .ok (.invokestatic 29, 3) := by decide +kernel
theorem dX9_copyFrom_21 : decode cX9_copyFrom 21 = .ok (.putfield 21, 3) := by decide +kernel
theorem dX9_copyFrom_24 : decode cX9_copyFrom 24 = .ok (.aload_n 1, 1) := by decide +kernel
theorem dX9_copyFrom_25 : decode cX9_copyFrom 25 = .ok (.getfield 15, 3) := by decide +kernel
theorem dX9_copyFrom_28 : decode cX9_copyFrom 28 = .ok (.iconst 0, 1) := by decide +kernel
theorem dX9_copyFrom_29 : decode cX9_copyFrom 29 = .ok (.aload_n 0, 1) := by decide +kernel
theorem dX9_copyFrom_30 : decode cX9_copyFrom 30 = .ok (.getfield 15, 3) := by decide +kernel
theorem dX9_copyFrom_33 : decode cX9_copyFrom 33 = .ok (.iconst 0, 1) := by decide +kernel
theorem dX9_copyFrom_34 : decode cX9_copyFrom 34 = .ok (.aload_n 0, 1) := by decide +kernel
theorem dX9_copyFrom_35 : decode cX9_copyFrom 35 = .ok (.getfield 21, 3) := by decide +kernel
theorem dX9_copyFrom_38 : decode cX9_copyFrom 38 = .ok (.invokestatic 32, 3) := by decide +kernel
theorem dX9_copyFrom_41 : decode cX9_copyFrom 41 = .ok (.return_, 1) := by decide +kernel
theorem dX10_init_0 : decode cX10_init 0 = .ok (.aload_n 0, 1) := by decide +kernel
theorem dX10_init_1 : decode cX10_init 1 = .ok (.invokespecial 3, 3) := by decide +kernel
theorem dX10_init_4 : decode cX10_init 4 = .ok (.aload_n 0, 1) := by decide +kernel
theorem dX10_init_5 : decode cX10_init 5 = .ok (.aload_n 1, 1) := by decide +kernel
theorem dX10_init_6 : decode cX10_init 6 = .ok (.putfield 9, 3) := by decide +kernel
theorem dX10_init_9 : decode cX10_init 9 = .ok (.return_, 1) := by decide +kernel
theorem dX10_begin_0 : decode cX10_begin 0 = .ok (.aload_n 0, 1) := by decide +kernel
theorem dX10_begin_1 : decode cX10_begin 1 = .ok (.iconst 0, 1) := by decide +kernel
theorem dX10_begin_2 : decode cX10_begin 2 = .ok (.putfield 15, 3) := by decide +kernel
theorem dX10_begin_5 : decode cX10_begin 5 = .ok (.aload_n 0, 1) := by decide +kernel
theorem dX10_begin_6 : decode cX10_begin 6 = .ok (.invokevirtual 19, 3) := by decide +kernel
theorem dX10_begin_9 : decode cX10_begin 9 = .ok (.return_, 1) := by decide +kernel
theorem dX10_take_0 : decode cX10_take 0 = .ok (.aload_n 0, 1) := by decide +kernel
theorem dX10_take_1 : decode cX10_take 1 = .ok (.aload_n 0, 1) := by decide +kernel
theorem dX10_take_2 : decode cX10_take 2 = .ok (.getfield 15, 3) := by decide +kernel
theorem dX10_take_5 : decode cX10_take 5 = .ok (.putfield 22, 3) := by decide +kernel
theorem dX10_take_8 : decode cX10_take 8 = .ok (.aload_n 0, 1) := by decide +kernel
theorem dX10_take_9 : decode cX10_take 9 = .ok (.getfield 22, 3) := by decide +kernel
theorem dX10_take_12 : decode cX10_take 12 = .ok (.aload_n 0, 1) := by decide +kernel
theorem dX10_take_13 : decode cX10_take 13 = .ok (.getfield 9, 3) := by decide +kernel
theorem dX10_take_16 : decode cX10_take 16 = .ok (.invokevirtual 25, 3) := by decide +kernel
theorem dX10_take_19 : decode cX10_take 19 = .ok (.if_icmp .ge 33, 3) := by decide +kernel
theorem dX10_take_22 : decode cX10_take 22 = .ok (.aload_n 0, 1) := by decide +kernel
theorem dX10_take_23 : decode cX10_take 23 = .ok (.getfield 9, 3) := by decide +kernel
theorem dX10_take_26 : decode cX10_take 26 = .ok (.aload_n 0, 1) := by decide +kernel
theorem dX10_take_27 : decode cX10_take 27 = .ok (.getfield 22, 3) := by decide +kernel
theorem dX10_take_30 : decode cX10_take 30 = .ok (.invokevirtual 31, 3) := by decide +kernel
theorem dX10_take_33 : decode cX10_take 33 = .ok (.invokestatic 35, 3) := by decide +kernel
theorem dX10_take_36 : decode cX10_take 36 = .ok (.ifCond .eq 16, 3) := by decide +kernel
theorem dX10_take_39 : decode cX10_take 39 = .ok (.aload_n 0, 1) := by decide +kernel
theorem dX10_take_40 : decode cX10_take 40 = .ok (.dup, 1) := by decide +kernel
theorem dX10_take_41 : decode cX10_take 41 = .ok (.getfield 22, 3) := by decide +kernel
theorem dX10_take_44 : decode cX10_take 44 = .ok (.iconst 1, 1) := by decide +kernel
theorem dX10_take_45 : decode cX10_take 45 = .ok (.iadd, 1) := by decide +kernel
theorem dX10_take_46 : decode cX10_take 46 = .ok (.putfield 22, 3) := by decide +kernel
theorem dX10_take_49 : decode cX10_take 49 = .ok (.goto (-41), 3) := by decide +kernel
theorem dX10_take_52 : decode cX10_take 52 = .ok (.aload_n 0, 1) := by decide +kernel
theorem dX10_take_53 : decode cX10_take 53 = .ok (.aload_n 0, 1) := by decide +kernel
theorem dX10_take_54 : decode cX10_take 54 = .ok (.getfield 9, 3) := by decide +kernel
theorem dX10_take_57 : decode cX10_take 57 = .ok (.aload_n 0, 1) := by decide +kernel
theorem dX10_take_58 : decode cX10_take 58 = .ok (.getfield 22, 3) := by decide +kernel
theorem dX10_take_61 : decode cX10_take 61 = .ok (.invokevirtual 31, 3) := by decide +kernel
theorem dX10_take_64 : decode cX10_take 64 = .ok (.invokestatic 39, 3) := by decide +kernel
theorem dX10_take_67 : decode cX10_take 67 = .ok (.putfield 42, 3) := by decide +kernel
theorem dX10_take_70 : decode cX10_take 70 = .ok (.aload_n 0, 1) := by decide +kernel
theorem dX10_take_71 : decode cX10_take 71 = .ok (.aload_n 0, 1) := by decide +kernel
theorem dX10_take_72 : decode cX10_take 72 = .ok (.getfield 22, 3) := by decide +kernel
theorem dX10_take_75 : decode cX10_take 75 = .ok (.iconst 1, 1) := by decide +kernel
theorem dX10_take_76 : decode cX10_take 76 = .ok (.iadd, 1) := by decide +kernel
theorem dX10_take_77 : decode cX10_take 77 = .ok (.putfield 15, 3) := by decide +kernel
theorem dX10_take_80 : decode cX10_take 80 = .ok (.aload_n 0, 1) := by decide +kernel
theorem dX10_take_81 : decode cX10_take 81 = .ok (.getfield 42, 3) := by decide +kernel
theorem dX10_take_84 : decode cX10_take 84 = .ok (.iconst 1, 1) := by decide +kernel
theorem dX10_take_85 : decode cX10_take 85 = .ok (.if_icmp .eq 11, 3) := by decide +kernel
theorem dX10_take_88 : decode cX10_take 88 = .ok (.aload_n 0, 1) := by decide +kernel
theorem dX10_take_89 : decode cX10_take 89 = .ok (.getfield 42, 3) := by decide +kernel
theorem dX10_take_92 : decode cX10_take 92 = .ok (.iconst 2, 1) := by decide +kernel
theorem dX10_take_93 : decode cX10_take 93 = .ok (.if_icmp .ne 77, 3) := by decide +kernel
theorem dX10_take_96 : decode cX10_take 96 = .ok (.aload_n 0, 1) := by decide +kernel
theorem dX10_take_97 : decode cX10_take 97 = .ok (.getfield 15, 3) := by decide +kernel
theorem dX10_take_100 : decode cX10_take 100 = .ok (.aload_n 0, 1) := by decide +kernel
theorem dX10_take_101 : decode cX10_take 101 = .ok (.getfield 9, 3) := by decide +kernel
theorem dX10_take_104 : decode cX10_take 104 = .ok (.invokevirtual 25, 3) := by decide +kernel
theorem dX10_take_107 : decode cX10_take 107 = .ok (.if_icmp .ge 37, 3) := by decide +kernel
theorem dX10_take_110 : decode cX10_take 110 = .ok (.aload_n 0, 1) := by decide +kernel
theorem dX10_take_111 : decode cX10_take 111 = .ok (.getfield 9, 3) := by decide +kernel
theorem dX10_take_114 : decode cX10_take 114 = .ok (.aload_n 0, 1) := by decide +kernel
theorem dX10_take_115 : decode cX10_take 115 = .ok (.getfield 15, 3) := by decide +kernel
theorem dX10_take_118 : decode cX10_take 118 = .ok (.invokevirtual 31, 3) := by decide +kernel
theorem dX10_take_121 : decode cX10_take 121 = .ok (.invokestatic 39, 3) := by decide +kernel
theorem dX10_take_124 : decode cX10_take 124 = .ok (.aload_n 0, 1) := by decide +kernel
theorem dX10_take_125 : decode cX10_take 125 = .ok (.getfield 42, 3) := by decide +kernel
theorem dX10_take_128 : decode cX10_take 128 = .ok (.if_icmp .ne 16, 3) := by decide +kernel
theorem dX10_take_131 : decode cX10_take 131 = .ok (.aload_n 0, 1) := by decide +kernel
theorem dX10_take_132 : decode cX10_take 132 = .ok (.dup, 1) := by decide +kernel
theorem dX10_take_133 : decode cX10_take 133 = .ok (.getfield 15, 3) := by decide +kernel
theorem dX10_take_136 : decode cX10_take 136 = .ok (.iconst 1, 1) := by decide +kernel
theorem dX10_take_137 : decode cX10_take 137 = .ok (.iadd, 1) := by decide +kernel
theorem dX10_take_138 : decode cX10_take 138 = .ok (.putfield 15, 3) := by decide +kernel
theorem dX10_take_141 : decode cX10_take 141 = .ok (.goto (-45), 3) := by decide +kernel
theorem dX10_take_144 : decode cX10_take 144 = .ok (.aload_n 0, 1) := by decide +kernel
theorem dX10_take_145 : decode cX10_take 145 = .ok (.invokevirtual 45, 3) := by decide +kernel
theorem dX10_take_148 : decode cX10_take 148 = .ok (.aload_n 0, 1) := by decide +kernel
theorem dX10_take_149 : decode cX10_take 149 = .ok (.getfield 42, 3) := by decide +kernel
theorem dX10_take_152 : decode cX10_take 152 = .ok (.iconst 1, 1) := by decide +kernel
theorem dX10_take_153 : decode cX10_take 153 = .ok (.if_icmp .ne 8, 3) := by decide +kernel
theorem dX10_take_156 : decode cX10_take 156 = .ok (.bipush 12, 2) := by decide +kernel
theorem dX10_take_158 : decode cX10_take 158 = .ok (.goto 4, 3) := by decide +kernel
theorem dX10_take_161 : decode cX10_take 161 = .ok (.iconst 5, 1) := by decide +kernel
theorem dX10_take_162 : decode cX10_take 162 = .ok (.if_icmp .le 8, 3) := by decide +kernel
theorem dX10_take_165 : decode cX10_take 165 = .ok (.aload_n 0, 1) := by decide +kernel
theorem dX10_take_166 : decode cX10_take 166 = .ok (.iconst 5, 1) := by decide +kernel
theorem dX10_take_167 : decode cX10_take 167 = .ok (.putfield 42, 3) := by decide +kernel
theorem dX10_take_170 : decode cX10_take 170 = .ok (.return_, 1) := by decide +kernel
theorem dX10_length_0 : decode cX10_length 0 = .ok (.aload_n 0, 1) := by decide +kernel
theorem dX10_length_1 : decode cX10_length 1 = .ok (.getfield 15, 3) := by decide +kernel
theorem dX10_length_4 : decode cX10_length 4 = .ok (.aload_n 0, 1) := by decide +kernel
theorem dX10_length_5 : decode cX10_length 5 = .ok (.getfield 22, 3) := by decide +kernel
theorem dX10_length_8 : decode cX10_length 8 = .ok (.isub, 1) := by decide +kernel
theorem dX10_length_9 : decode cX10_length 9 = .ok (.ireturn, 1) := by decide +kernel
theorem dX10_signAt_0 : decode cX10_signAt 0 = .ok (.aload_n 0, 1) := by decide +kernel
theorem dX10_signAt_1 : decode cX10_signAt 1 = .ok (.getfield 9, 3) := by decide +kernel
theorem dX10_signAt_4 : decode cX10_signAt 4 = .ok (.aload_n 0, 1) := by decide +kernel
theorem dX10_signAt_5 : decode cX10_signAt 5 = .ok (.getfield 22, 3) := by decide +kernel
theorem dX10_signAt_8 : decode cX10_signAt 8 = .ok (.iload_n 1, 1) := by decide +kernel
theorem dX10_signAt_9 : decode cX10_signAt 9 = .ok (.iadd, 1) := by decide +kernel
theorem dX10_signAt_10 : decode cX10_signAt 10 = .ok (.invokevirtual 31, 3) := by decide +kernel
theorem dX10_signAt_13 : decode cX10_signAt 13 = .ok (.ireturn, 1) := by decide +kernel
theorem dX10_isWord_0 : decode cX10_isWord 0 = .ok (.aload_n 0, 1) := by decide +kernel
theorem dX10_isWord_1 : decode cX10_isWord 1 = .ok (.getfield 42, 3) := by decide +kernel
theorem dX10_isWord_4 : decode cX10_isWord 4 = .ok (.iconst 1, 1) := by decide +kernel
theorem dX10_isWord_5 : decode cX10_isWord 5 = .ok (.if_icmp .ne 14, 3) := by decide +kernel
theorem dX10_isWord_8 : decode cX10_isWord 8 = .ok (.aload_n 0, 1) := by decide +kernel
theorem dX10_isWord_9 : decode cX10_isWord 9 = .ok (.invokevirtual 45, 3) := by decide +kernel
theorem dX10_isWord_12 : decode cX10_isWord 12 = .ok (.aload_n 1, 1) := by decide +kernel
theorem dX10_isWord_13 : decode cX10_isWord 13 = .ok (.invokevirtual 48, 3) := by decide +kernel
theorem dX10_isWord_16 : decode cX10_isWord 16 = .ok (.if_icmp .eq 5, 3) := by decide +kernel
theorem dX10_isWord_19 : decode cX10_isWord 19 = .ok (.iconst 0, 1) := by decide +kernel
theorem dX10_isWord_20 : decode cX10_isWord 20 = .ok (.ireturn, 1) := by decide +kernel
theorem dX10_isWord_21 : decode cX10_isWord 21 = .ok (.iconst 0, 1) := by decide +kernel
theorem dX10_isWord_22 : decode cX10_isWord 22 = .ok (.istore_n 2, 1) := by decide +kernel
theorem dX10_isWord_23 : decode cX10_isWord 23 = .ok (.iload_n 2, 1) := by decide +kernel
theorem dX10_isWord_24 : decode cX10_isWord 24 = .ok (.aload_n 1, 1) := by decide +kernel
theorem dX10_isWord_25 : decode cX10_isWord 25 = .ok (.invokevirtual 48, 3) := by decide +kernel
theorem dX10_isWord_28 : decode cX10_isWord 28 = .ok (.if_icmp .ge 24, 3) := by decide +kernel
theorem dX10_isWord_31 : decode cX10_isWord 31 = .ok (.aload_n 0, 1) := by decide +kernel
theorem dX10_isWord_32 : decode cX10_isWord 32 = .ok (.iload_n 2, 1) := by decide +kernel
theorem dX10_isWord_33 : decode cX10_isWord 33 = .ok (.invokevirtual 51, 3) := by decide +kernel
theorem dX10_isWord_36 : decode cX10_isWord 36 = .ok (.aload_n 1, 1) := by decide +kernel
theorem dX10_isWord_37 : decode cX10_isWord 37 = .ok (.iload_n 2, 1) := by decide +kernel
theorem dX10_isWord_38 : decode cX10_isWord 38 = .ok (.invokevirtual 54, 3) := by decide +kernel
theorem dX10_isWord_41 : decode cX10_isWord 41 = .ok (.if_icmp .eq 5, 3) := by decide +kernel
theorem dX10_isWord_44 : decode cX10_isWord 44 = .ok (.iconst 0, 1) := by decide +kernel
theorem dX10_isWord_45 : decode cX10_isWord 45 = .ok (.ireturn, 1) := by decide +kernel
theorem dX10_isWord_46 : decode cX10_isWord 46 = .ok (.iinc 2 1, 3) := by decide +kernel
theorem dX10_isWord_49 : decode cX10_isWord 49 = .ok (.goto (-26), 3) := by decide +kernel
theorem dX10_isWord_52 : decode cX10_isWord 52 = .ok (.iconst 1, 1) := by decide +kernel
theorem dX10_isWord_53 : decode cX10_isWord 53 = .ok (.ireturn, 1) := by decide +kernel
theorem dX10_number_0 : decode cX10_number 0 = .ok (.aload_n 0, 1) := by decide +kernel
theorem dX10_number_1 : decode cX10_number 1 = .ok (.getfield 42, 3) := by decide +kernel
theorem dX10_number_4 : decode cX10_number 4 = .ok (.iconst 2, 1) := by decide +kernel
theorem dX10_number_5 : decode cX10_number 5 = .ok (.if_icmp .eq 5, 3) := by decide +kernel
theorem dX10_number_8 : decode cX10_number 8 = .ok (.iconst (-1), 1) := by decide +kernel
theorem dX10_number_9 : decode cX10_number 9 = .ok (.ireturn, 1) := by decide +kernel
theorem dX10_number_10 : decode cX10_number 10 = .ok (.iconst 0, 1) := by decide +kernel
theorem dX10_number_11 : decode cX10_number 11 = .ok (.istore_n 1, 1) := by decide +kernel
theorem dX10_number_12 : decode cX10_number 12 = .ok (.aload_n 0, 1) := by decide +kernel
theorem dX10_number_13 : decode cX10_number 13 = .ok (.getfield 22, 3) := by decide +kernel
theorem dX10_number_16 : decode cX10_number 16 = .ok (.istore_n 2, 1) := by decide +kernel
theorem dX10_number_17 : decode cX10_number 17 = .ok (.iload_n 2, 1) := by decide +kernel
theorem dX10_number_18 : decode cX10_number 18 = .ok (.aload_n 0, 1) := by decide +kernel
theorem dX10_number_19 : decode cX10_number 19 = .ok (.getfield 15, 3) := by decide +kernel
theorem dX10_number_22 : decode cX10_number 22 = .ok (.if_icmp .ge 26, 3) := by decide +kernel
theorem dX10_number_25 : decode cX10_number 25 = .ok (.bipush 10, 2) := by decide +kernel
theorem dX10_number_27 : decode cX10_number 27 = .ok (.iload_n 1, 1) := by decide +kernel
theorem dX10_number_28 : decode cX10_number 28 = .ok (.imul, 1) := by decide +kernel
theorem dX10_number_29 : decode cX10_number 29 = .ok (.aload_n 0, 1) := by decide +kernel
theorem dX10_number_30 : decode cX10_number 30 = .ok (.getfield 9, 3) := by decide +kernel
theorem dX10_number_33 : decode cX10_number 33 = .ok (.iload_n 2, 1) := by decide +kernel
theorem dX10_number_34 : decode cX10_number 34 = .ok (.invokevirtual 31, 3) := by decide +kernel
theorem dX10_number_37 : decode cX10_number 37 = .ok (.iadd, 1) := by decide +kernel
theorem dX10_number_38 : decode cX10_number 38 = .ok (.bipush 48, 2) := by decide +kernel
theorem dX10_number_40 : decode cX10_number 40 = .ok (.isub, 1) := by decide +kernel
theorem dX10_number_41 : decode cX10_number 41 = .ok (.istore_n 1, 1) := by decide +kernel
theorem dX10_number_42 : decode cX10_number 42 = .ok (.iinc 2 1, 3) := by decide +kernel
theorem dX10_number_45 : decode cX10_number 45 = .ok (.goto (-28), 3) := by decide +kernel
theorem dX10_number_48 : decode cX10_number 48 = .ok (.iload_n 1, 1) := by decide +kernel
theorem dX10_number_49 : decode cX10_number 49 = .ok (.ireturn, 1) := by decide +kernel
theorem dX10_kindOf_0 : decode cX10_kindOf 0 = .ok (.iload_n 0, 1) := by decide +kernel
theorem dX10_kindOf_1 : decode cX10_kindOf 1 = .ok (.iconst (-1), 1) := by decide +kernel
theorem dX10_kindOf_2 : decode cX10_kindOf 2 = .ok (.if_icmp .ne 5, 3) := by decide +kernel
theorem dX10_kindOf_5 : decode cX10_kindOf 5 = .ok (.iconst 0, 1) := by decide +kernel
theorem dX10_kindOf_6 : decode cX10_kindOf 6 = .ok (.ireturn, 1) := by decide +kernel
theorem dX10_kindOf_7 : decode cX10_kindOf 7 = .ok (.iload_n 0, 1) := by decide +kernel
theorem dX10_kindOf_8 : decode cX10_kindOf 8 = .ok (.bipush 97, 2) := by decide +kernel
theorem dX10_kindOf_10 : decode cX10_kindOf 10 = .ok (.if_icmp .lt 11, 3) := by decide +kernel
theorem dX10_kindOf_13 : decode cX10_kindOf 13 = .ok (.iload_n 0, 1) := by decide +kernel
theorem dX10_kindOf_14 : decode cX10_kindOf 14 = .ok (.bipush 122, 2) := by decide +kernel
theorem dX10_kindOf_16 : decode cX10_kindOf 16 = .ok (.if_icmp .gt 5, 3) := by decide +kernel
theorem dX10_kindOf_19 : decode cX10_kindOf 19 = .ok (.iconst 1, 1) := by decide +kernel
theorem dX10_kindOf_20 : decode cX10_kindOf 20 = .ok (.ireturn, 1) := by decide +kernel
theorem dX10_kindOf_21 : decode cX10_kindOf 21 = .ok (.iload_n 0, 1) := by decide +kernel
theorem dX10_kindOf_22 : decode cX10_kindOf 22 = .ok (.bipush 48, 2) := by decide +kernel
theorem dX10_kindOf_24 : decode cX10_kindOf 24 = .ok (.if_icmp .lt 11, 3) := by decide +kernel
theorem dX10_kindOf_27 : decode cX10_kindOf 27 = .ok (.iload_n 0, 1) := by decide +kernel
theorem dX10_kindOf_28 : decode cX10_kindOf 28 = .ok (.bipush 57, 2) := by decide +kernel
theorem dX10_kindOf_30 : decode cX10_kindOf 30 = .ok (.if_icmp .gt 5, 3) := by decide +kernel
theorem dX10_kindOf_33 : decode cX10_kindOf 33 = .ok (.iconst 2, 1) := by decide +kernel
theorem dX10_kindOf_34 : decode cX10_kindOf 34 = .ok (.ireturn, 1) := by decide +kernel
theorem dX10_kindOf_35 : decode cX10_kindOf 35 = .ok (.iload_n 0, 1) := by decide +kernel
theorem dX10_kindOf_36 : decode cX10_kindOf 36 = .ok (.bipush 59, 2) := by decide +kernel
theorem dX10_kindOf_38 : decode cX10_kindOf 38 = .ok (.if_icmp .ne 5, 3) := by decide +kernel
theorem dX10_kindOf_41 : decode cX10_kindOf 41 = .ok (.iconst 3, 1) := by decide +kernel
theorem dX10_kindOf_42 : decode cX10_kindOf 42 = .ok (.ireturn, 1) := by decide +kernel
theorem dX10_kindOf_43 : decode cX10_kindOf 43 = .ok (.iload_n 0, 1) := by decide +kernel
theorem dX10_kindOf_44 : decode cX10_kindOf 44 = .ok (.bipush 47, 2) := by decide +kernel
theorem dX10_kindOf_46 : decode cX10_kindOf 46 = .ok (.if_icmp .ne 7, 3) := by decide +kernel
theorem dX10_kindOf_49 : decode cX10_kindOf 49 = .ok (.iconst 4, 1) := by decide +kernel
theorem dX10_kindOf_50 : decode cX10_kindOf 50 = .ok (.goto 4, 3) := by decide +kernel
theorem dX10_kindOf_53 : decode cX10_kindOf 53 = .ok (.iconst 5, 1) := by decide +kernel
theorem dX10_kindOf_54 : decode cX10_kindOf 54 = .ok (.ireturn, 1) := by decide +kernel
theorem dX10_isBlank_0 : decode cX10_isBlank 0 = .ok (.iload_n 0, 1) := by decide +kernel
theorem dX10_isBlank_1 : decode cX10_isBlank 1 = .ok (.bipush 32, 2) := by decide +kernel
theorem dX10_isBlank_3 : decode cX10_isBlank 3 = .ok (.if_icmp .eq 9, 3) := by decide +kernel
theorem dX10_isBlank_6 : decode cX10_isBlank 6 = .ok (.iload_n 0, 1) := by decide +kernel
theorem dX10_isBlank_7 : decode cX10_isBlank 7 = .ok (.bipush 10, 2) := by decide +kernel
theorem dX10_isBlank_9 : decode cX10_isBlank 9 = .ok (.if_icmp .ne 7, 3) := by decide +kernel
theorem dX10_isBlank_12 : decode cX10_isBlank 12 = .ok (.iconst 1, 1) := by decide +kernel
theorem dX10_isBlank_13 : decode cX10_isBlank 13 = .ok (.goto 4, 3) := by decide +kernel
theorem dX10_isBlank_16 : decode cX10_isBlank 16 = .ok (.iconst 0, 1) := by decide +kernel
theorem dX10_isBlank_17 : decode cX10_isBlank 17 = .ok (.ireturn, 1) := by decide +kernel
theorem dX11_init_0 : decode cX11_init 0 = .ok (.aload_n 0, 1) := by decide +kernel
theorem dX11_init_1 : decode cX11_init 1 = .ok (.invokespecial 1, 3) := by decide +kernel
theorem dX11_init_4 : decode cX11_init 4 = .ok (.aload_n 0, 1) := by decide +kernel
theorem dX11_init_5 : decode cX11_init 5 = .ok (.new 7, 3) := by decide +kernel
theorem dX11_init_8 : decode cX11_init 8 = .ok (.dup, 1) := by decide +kernel
theorem dX11_init_9 : decode cX11_init 9 = .ok (.sipush 600, 3) := by decide +kernel
theorem dX11_init_12 : decode cX11_init 12 = .ok (.invokespecial 11, 3) := by decide +kernel
theorem dX11_init_15 : decode cX11_init 15 = .ok (.putfield 14, 3) := by decide +kernel
theorem dX11_init_18 : decode cX11_init 18 = .ok (.aload_n 0, 1) := by decide +kernel
theorem dX11_init_19 : decode cX11_init 19 = .ok (.new 18, 3) := by decide +kernel
theorem dX11_init_22 : decode cX11_init 22 = .ok (.dup, 1) := by decide +kernel
theorem dX11_init_23 : decode cX11_init 23 = .ok (.aload_n 0, 1) := by decide +kernel
theorem dX11_init_24 : decode cX11_init 24 = .ok (.getfield 14, 3) := by decide +kernel
theorem dX11_init_27 : decode cX11_init 27 = .ok (.invokespecial 20, 3) := by decide +kernel
theorem dX11_init_30 : decode cX11_init 30 = .ok (.putfield 23, 3) := by decide +kernel
theorem dX11_init_33 : decode cX11_init 33 = .ok (.aload_n 0, 1) := by decide +kernel
theorem dX11_init_34 : decode cX11_init 34 = .ok (.new 27, 3) := by decide +kernel
theorem dX11_init_37 : decode cX11_init 37 = .ok (.dup, 1) := by decide +kernel
theorem dX11_init_38 : decode cX11_init 38 = .ok (.invokespecial 29, 3) := by decide +kernel
theorem dX11_init_41 : decode cX11_init 41 = .ok (.putfield 30, 3) := by decide +kernel
theorem dX11_init_44 : decode cX11_init 44 = .ok (.aload_n 0, 1) := by decide +kernel
theorem dX11_init_45 : decode cX11_init 45 = .ok (.new 34, 3) := by decide +kernel
theorem dX11_init_48 : decode cX11_init 48 = .ok (.dup, 1) := by decide +kernel
theorem dX11_init_49 : decode cX11_init 49 = .ok (.invokespecial 36, 3) := by decide +kernel
theorem dX11_init_52 : decode cX11_init 52 = .ok (.putfield 37, 3) := by decide +kernel
theorem dX11_init_55 : decode cX11_init 55 = .ok (.aload_n 0, 1) := by decide +kernel
theorem dX11_init_56 : decode cX11_init 56 = .ok (.new 34, 3) := by decide +kernel
theorem dX11_init_59 : decode cX11_init 59 = .ok (.dup, 1) := by decide +kernel
theorem dX11_init_60 : decode cX11_init 60 = .ok (.invokespecial 36, 3) := by decide +kernel
theorem dX11_init_63 : decode cX11_init 63 = .ok (.putfield 41, 3) := by decide +kernel
theorem dX11_init_66 : decode cX11_init 66 = .ok (.aload_n 0, 1) := by decide +kernel
theorem dX11_init_67 : decode cX11_init 67 = .ok (.iconst (-1), 1) := by decide +kernel
theorem dX11_init_68 : decode cX11_init 68 = .ok (.putfield 44, 3) := by decide +kernel
theorem dX11_init_71 : decode cX11_init 71 = .ok (.aload_n 0, 1) := by decide +kernel
theorem dX11_init_72 : decode cX11_init 72 = .ok (.new 48, 3) := by decide +kernel
theorem dX11_init_75 : decode cX11_init 75 = .ok (.dup, 1) := by decide +kernel
theorem dX11_init_76 : decode cX11_init 76 = .ok (.aload_n 0, 1) := by decide +kernel
theorem dX11_init_77 : decode cX11_init 77 = .ok (.getfield 37, 3) := by decide +kernel
theorem dX11_init_80 : decode cX11_init 80 = .ok (.invokespecial 50, 3) := by decide +kernel
theorem dX11_init_83 : decode cX11_init 83 = .ok (.putfield 53, 3) := by decide +kernel
theorem dX11_init_86 : decode cX11_init 86 = .ok (.aload_n 0, 1) := by decide +kernel
theorem dX11_init_87 : decode cX11_init 87 = .ok (.new 48, 3) := by decide +kernel
theorem dX11_init_90 : decode cX11_init 90 = .ok (.dup, 1) := by decide +kernel
theorem dX11_init_91 : decode cX11_init 91 = .ok (.aload_n 0, 1) := by decide +kernel
theorem dX11_init_92 : decode cX11_init 92 = .ok (.getfield 37, 3) := by decide +kernel
theorem dX11_init_95 : decode cX11_init 95 = .ok (.invokespecial 50, 3) := by decide +kernel
theorem dX11_init_98 : decode cX11_init 98 = .ok (.putfield 57, 3) := by decide +kernel
theorem dX11_init_101 : decode cX11_init 101 = .ok (.aload_n 0, 1) := by decide +kernel
theorem dX11_init_102 : decode cX11_init 102 = .ok (.new 60, 3) := by decide +kernel
theorem dX11_init_105 : decode cX11_init 105 = .ok (.dup, 1) := by decide +kernel
theorem dX11_init_106 : decode cX11_init 106 = .ok (.aload_n 0, 1) := by decide +kernel
theorem dX11_init_107 : decode cX11_init 107 = .ok (.getfield 37, 3) := by decide +kernel
theorem dX11_init_110 : decode cX11_init 110 = .ok (.invokespecial 62, 3) := by decide +kernel
theorem dX11_init_113 : decode cX11_init 113 = .ok (.putfield 63, 3) := by decide +kernel
theorem dX11_init_116 : decode cX11_init 116 = .ok (.return_, 1) := by decide +kernel
theorem dX11_append_0 : decode cX11_append 0 = .ok (.aload_n 0, 1) := by decide +kernel
theorem dX11_append_1 : decode cX11_append 1 = .ok (.getfield 14, 3) := by decide +kernel
theorem dX11_append_4 : decode cX11_append 4 = .ok (.invokevirtual 67, 3) := by decide +kernel
theorem dX11_append_7 : decode cX11_append 7 = .ok (.sipush 580, 3) := by decide +kernel
theorem dX11_append_10 : decode cX11_append 10 = .ok (.if_icmp .le 13, 3) := by decide +kernel
theorem dX11_append_13 : decode cX11_append 13 = .ok (.new 71, 3) := by decide +kernel
theorem dX11_append_16 : decode cX11_append 16 = .ok (.dup, 1) := by decide +kernel
theorem dX11_append_17 : decode cX11_append 17 = .ok (.ldc 73, 2) := by decide +kernel
theorem dX11_append_19 : decode cX11_append 19 = .ok (.invokespecial 75, 3) := by decide +kernel
theorem dX11_append_22 : decode cX11_append 22 = .ok (.athrow, 1) := by decide +kernel
theorem dX11_append_23 : decode cX11_append 23 = .ok (.aload_n 0, 1) := by decide +kernel
theorem dX11_append_24 : decode cX11_append 24 = .ok (.iload_n 1, 1) := by decide +kernel
theorem dX11_append_25 : decode cX11_append 25 = .ok (.invokevirtual 78, 3) := by decide +kernel
theorem dX11_append_28 : decode cX11_append 28 = .ok (.aload_n 0, 1) := by decide +kernel
theorem dX11_append_29 : decode cX11_append 29 = .ok (.iload_n 2, 1) := by decide +kernel
theorem dX11_append_30 : decode cX11_append 30 = .ok (.invokevirtual 78, 3) := by decide +kernel
theorem dX11_append_33 : decode cX11_append 33 = .ok (.aload_n 0, 1) := by decide +kernel
theorem dX11_append_34 : decode cX11_append 34 = .ok (.iload_n 3, 1) := by decide +kernel
theorem dX11_append_35 : decode cX11_append 35 = .ok (.invokevirtual 78, 3) := by decide +kernel
theorem dX11_append_38 : decode cX11_append 38 = .ok (.aload_n 0, 1) := by decide +kernel
theorem dX11_append_39 : decode cX11_append 39 = .ok (.iload 4, 2) := by decide +kernel
theorem dX11_append_41 : decode cX11_append 41 = .ok (.invokevirtual 78, 3) := by decide +kernel
theorem dX11_append_44 : decode cX11_append 44 = .ok (.aload_n 0, 1) := by decide +kernel
theorem dX11_append_45 : decode cX11_append 45 = .ok (.iload 5, 2) := by decide +kernel
theorem dX11_append_47 : decode cX11_append 47 = .ok (.invokevirtual 78, 3) := by decide +kernel
theorem dX11_append_50 : decode cX11_append 50 = .ok (.aload_n 0, 1) := by decide +kernel
theorem dX11_append_51 : decode cX11_append 51 = .ok (.getfield 14, 3) := by decide +kernel
theorem dX11_append_54 : decode cX11_append 54 = .ok (.invokevirtual 67, 3) := by decide +kernel
theorem dX11_append_57 : decode cX11_append 57 = .ok (.ireturn, 1) := by decide +kernel
theorem dX11_appendWord_0 : decode cX11_appendWord 0 = .ok (.bipush 24, 2) := by decide +kernel
theorem dX11_appendWord_2 : decode cX11_appendWord 2 = .ok (.istore_n 2, 1) := by decide +kernel
theorem dX11_appendWord_3 : decode cX11_appendWord 3 = .ok (.iload_n 2, 1) := by decide +kernel
theorem dX11_appendWord_4 : decode cX11_appendWord 4 = .ok (.ifCond .lt 23, 3) := by decide +kernel
theorem dX11_appendWord_7 : decode cX11_appendWord 7 = .ok (.aload_n 0, 1) := by decide +kernel
theorem dX11_appendWord_8 : decode cX11_appendWord 8 = .ok (.getfield 14, 3) := by decide +kernel
theorem dX11_appendWord_11 : decode cX11_appendWord 11 = .ok (.iload_n 1, 1) := by decide +kernel
theorem dX11_appendWord_12 : decode cX11_appendWord 12 = .ok (.iload_n 2, 1) := by decide +kernel
theorem dX11_appendWord_13 : decode cX11_appendWord 13 = .ok (.ishr, 1) := by decide +kernel
theorem dX11_appendWord_14 : decode cX11_appendWord 14 = .ok (.sipush 255, 3) := by decide +kernel
theorem dX11_appendWord_17 : decode cX11_appendWord 17 = .ok (.iand, 1) := by decide +kernel
theorem dX11_appendWord_18 : decode cX11_appendWord 18 = .ok (.invokevirtual 81, 3) := by decide +kernel
theorem dX11_appendWord_21 : decode cX11_appendWord 21 = .ok (.iinc 2 (-8), 3) := by decide +kernel
theorem dX11_appendWord_24 : decode cX11_appendWord 24 = .ok (.goto (-21), 3) := by decide +kernel
theorem dX11_appendWord_27 : decode cX11_appendWord 27 = .ok (.return_, 1) := by decide +kernel
theorem dX11_truncate_0 : decode cX11_truncate 0 = .ok (.iload_n 1, 1) := by decide +kernel
theorem dX11_truncate_1 : decode cX11_truncate 1 = .ok (.ifCond .lt 14, 3) := by decide +kernel
theorem dX11_truncate_4 : decode cX11_truncate 4 = .ok (.iload_n 1, 1) := by decide +kernel
theorem dX11_truncate_5 : decode cX11_truncate 5 = .ok (.aload_n 0, 1) := by decide +kernel
theorem dX11_truncate_6 : decode cX11_truncate 6 = .ok (.getfield 14, 3) := by decide +kernel
theorem dX11_truncate_9 : decode cX11_truncate 9 = .ok (.invokevirtual 67, 3) := by decide +kernel
theorem dX11_truncate_12 : decode cX11_truncate 12 = .ok (.if_icmp .le 13, 3) := by decide +kernel
theorem dX11_truncate_15 : decode cX11_truncate 15 = .ok (.new 84, 3) := by decide +kernel
theorem dX11_truncate_18 : decode cX11_truncate 18 = .ok (.dup, 1) := by decide +kernel
theorem dX11_truncate_19 : decode cX11_truncate 19 = .ok (.ldc 86, 2) := by decide +kernel
theorem dX11_truncate_21 : decode cX11_truncate 21 = .ok (.invokespecial 88, 3) := by decide +kernel
theorem dX11_truncate_24 : decode cX11_truncate 24 = .ok (.athrow, 1) := by decide +kernel
theorem dX11_truncate_25 : decode cX11_truncate 25 = .ok (.aload_n 0, 1) := by decide +kernel
theorem dX11_truncate_26 : decode cX11_truncate 26 = .ok (.getfield 14, 3) := by decide +kernel
theorem dX11_truncate_29 : decode cX11_truncate 29 = .ok (.iload_n 1, 1) := by decide +kernel
theorem dX11_truncate_30 : decode cX11_truncate 30 = .ok (.invokevirtual 89, 3) := by decide +kernel
theorem dX11_truncate_33 : decode cX11_truncate 33 = .ok (.return_, 1) := by decide +kernel
theorem dX11_load_0 : decode cX11_load 0 = .ok (.aload_n 0, 1) := by decide +kernel
theorem dX11_load_1 : decode cX11_load 1 = .ok (.aload_n 0, 1) := by decide +kernel
theorem dX11_load_2 : decode cX11_load 2 = .ok (.getfield 23, 3) := by decide +kernel
theorem dX11_load_5 : decode cX11_load 5 = .ok (.aload_n 0, 1) := by decide +kernel
theorem dX11_load_6 : decode cX11_load 6 = .ok (.getfield 41, 3) := by decide +kernel
theorem dX11_load_9 : decode cX11_load 9 = .ok (.invokevirtual 92, 3) := by decide +kernel
theorem dX11_load_12 : decode cX11_load 12 = .ok (.putfield 44, 3) := by decide +kernel
theorem dX11_load_15 : decode cX11_load 15 = .ok (.aload_n 0, 1) := by decide +kernel
theorem dX11_load_16 : decode cX11_load 16 = .ok (.getfield 14, 3) := by decide +kernel
theorem dX11_load_19 : decode cX11_load 19 = .ok (.invokevirtual 96, 3) := by decide +kernel
theorem dX11_load_22 : decode cX11_load 22 = .ok (.aload_n 0, 1) := by decide +kernel
theorem dX11_load_23 : decode cX11_load 23 = .ok (.getfield 44, 3) := by decide +kernel
theorem dX11_load_26 : decode cX11_load 26 = .ok (.iconst (-1), 1) := by decide +kernel
theorem dX11_load_27 : decode cX11_load 27 = .ok (.if_icmp .eq 13, 3) := by decide +kernel
theorem dX11_load_30 : decode cX11_load 30 = .ok (.new 84, 3) := by decide +kernel
theorem dX11_load_33 : decode cX11_load 33 = .ok (.dup, 1) := by decide +kernel
theorem dX11_load_34 : decode cX11_load 34 = .ok (.ldc 99, 2) := by decide +kernel
theorem dX11_load_36 : decode cX11_load 36 = .ok (.invokespecial 88, 3) := by decide +kernel
theorem dX11_load_39 : decode cX11_load 39 = .ok (.athrow, 1) := by decide +kernel
theorem dX11_load_40 : decode cX11_load 40 = .ok (.aload_n 0, 1) := by decide +kernel
theorem dX11_load_41 : decode cX11_load 41 = .ok (.getfield 41, 3) := by decide +kernel
theorem dX11_load_44 : decode cX11_load 44 = .ok (.astore_n 1, 1) := by decide +kernel
theorem dX11_load_45 : decode cX11_load 45 = .ok (.aload_n 0, 1) := by decide +kernel
theorem dX11_load_46 : decode cX11_load 46 = .ok (.aload_n 0, 1) := by decide +kernel
theorem dX11_load_47 : decode cX11_load 47 = .ok (.getfield 37, 3) := by decide +kernel
theorem dX11_load_50 : decode cX11_load 50 = .ok (.putfield 41, 3) := by decide +kernel
theorem dX11_load_53 : decode cX11_load 53 = .ok (.aload_n 0, 1) := by decide +kernel
theorem dX11_load_54 : decode cX11_load 54 = .ok (.aload_n 1, 1) := by decide +kernel
theorem dX11_load_55 : decode cX11_load 55 = .ok (.putfield 37, 3) := by decide +kernel
theorem dX11_load_58 : decode cX11_load 58 = .ok (.aload_n 0, 1) := by decide +kernel
theorem dX11_load_59 : decode cX11_load 59 = .ok (.getfield 53, 3) := by decide +kernel
theorem dX11_load_62 : decode cX11_load 62 = .ok (.aload_n 0, 1) := by decide +kernel
theorem dX11_load_63 : decode cX11_load 63 = .ok (.getfield 37, 3) := by decide +kernel
theorem dX11_load_66 : decode cX11_load 66 = .ok (.invokevirtual 101, 3) := by decide +kernel
theorem dX11_load_69 : decode cX11_load 69 = .ok (.aload_n 0, 1) := by decide +kernel
theorem dX11_load_70 : decode cX11_load 70 = .ok (.getfield 63, 3) := by decide +kernel
theorem dX11_load_73 : decode cX11_load 73 = .ok (.invokevirtual 104, 3) := by decide +kernel
theorem dX11_load_76 : decode cX11_load 76 = .ok (.aload_n 0, 1) := by decide +kernel
theorem dX11_load_77 : decode cX11_load 77 = .ok (.getfield 37, 3) := by decide +kernel
theorem dX11_load_80 : decode cX11_load 80 = .ok (.getfield 105, 3) := by decide +kernel
theorem dX11_load_83 : decode cX11_load 83 = .ok (.getfield 109, 3) := by decide +kernel
theorem dX11_load_86 : decode cX11_load 86 = .ok (.aload_n 0, 1) := by decide +kernel
theorem dX11_load_87 : decode cX11_load 87 = .ok (.getfield 37, 3) := by decide +kernel
theorem dX11_load_90 : decode cX11_load 90 = .ok (.getfield 114, 3) := by decide +kernel
theorem dX11_load_93 : decode cX11_load 93 = .ok (.getfield 109, 3) := by decide +kernel
theorem dX11_load_96 : decode cX11_load 96 = .ok (.iadd, 1) := by decide +kernel
theorem dX11_load_97 : decode cX11_load 97 = .ok (.ireturn, 1) := by decide +kernel
theorem dX11_positions_0 : decode cX11_positions 0 = .ok (.aload_n 0, 1) := by decide +kernel
theorem dX11_positions_1 : decode cX11_positions 1 = .ok (.getfield 37, 3) := by decide +kernel
theorem dX11_positions_4 : decode cX11_positions 4 = .ok (.getfield 117, 3) := by decide +kernel
theorem dX11_positions_7 : decode cX11_positions 7 = .ok (.ireturn, 1) := by decide +kernel
theorem dX11_time_0 : decode cX11_time 0 = .ok (.aload_n 0, 1) := by decide +kernel
theorem dX11_time_1 : decode cX11_time 1 = .ok (.getfield 53, 3) := by decide +kernel
theorem dX11_time_4 : decode cX11_time 4 = .ok (.getfield 120, 3) := by decide +kernel
theorem dX11_time_7 : decode cX11_time 7 = .ok (.ireturn, 1) := by decide +kernel
theorem dX11_phase_0 : decode cX11_phase 0 = .ok (.aload_n 0, 1) := by decide +kernel
theorem dX11_phase_1 : decode cX11_phase 1 = .ok (.iload_n 1, 1) := by decide +kernel
theorem dX11_phase_2 : decode cX11_phase 2 = .ok (.invokevirtual 123, 3) := by decide +kernel
theorem dX11_phase_5 : decode cX11_phase 5 = .ok (.getfield 127, 3) := by decide +kernel
theorem dX11_phase_8 : decode cX11_phase 8 = .ok (.ireturn, 1) := by decide +kernel
theorem dX11_rate_0 : decode cX11_rate 0 = .ok (.aload_n 0, 1) := by decide +kernel
theorem dX11_rate_1 : decode cX11_rate 1 = .ok (.iload_n 1, 1) := by decide +kernel
theorem dX11_rate_2 : decode cX11_rate 2 = .ok (.invokevirtual 123, 3) := by decide +kernel
theorem dX11_rate_5 : decode cX11_rate 5 = .ok (.getfield 132, 3) := by decide +kernel
theorem dX11_rate_8 : decode cX11_rate 8 = .ok (.ireturn, 1) := by decide +kernel
theorem dX11_facing_0 : decode cX11_facing 0 = .ok (.aload_n 0, 1) := by decide +kernel
theorem dX11_facing_1 : decode cX11_facing 1 = .ok (.iload_n 1, 1) := by decide +kernel
theorem dX11_facing_2 : decode cX11_facing 2 = .ok (.invokevirtual 123, 3) := by decide +kernel
theorem dX11_facing_5 : decode cX11_facing 5 = .ok (.invokevirtual 135, 3) := by decide +kernel
theorem dX11_facing_8 : decode cX11_facing 8 = .ok (.aload_n 0, 1) := by decide +kernel
theorem dX11_facing_9 : decode cX11_facing 9 = .ok (.getfield 37, 3) := by decide +kernel
theorem dX11_facing_12 : decode cX11_facing 12 = .ok (.getfield 117, 3) := by decide +kernel
theorem dX11_facing_15 : decode cX11_facing 15 = .ok (.invokestatic 138, 3) := by decide +kernel
theorem dX11_facing_18 : decode cX11_facing 18 = .ok (.ireturn, 1) := by decide +kernel
theorem dX11_character_0 : decode cX11_character 0 = .ok (.iload_n 1, 1) := by decide +kernel
theorem dX11_character_1 : decode cX11_character 1 = .ok (.iconst 2, 1) := by decide +kernel
theorem dX11_character_2 : decode cX11_character 2 = .ok (.if_icmp .lt 14, 3) := by decide +kernel
theorem dX11_character_5 : decode cX11_character 5 = .ok (.iload_n 1, 1) := by decide +kernel
theorem dX11_character_6 : decode cX11_character 6 = .ok (.aload_n 0, 1) := by decide +kernel
theorem dX11_character_7 : decode cX11_character 7 = .ok (.getfield 37, 3) := by decide +kernel
theorem dX11_character_10 : decode cX11_character 10 = .ok (.getfield 117, 3) := by decide +kernel
theorem dX11_character_13 : decode cX11_character 13 = .ok (.if_icmp .lt 13, 3) := by decide +kernel
theorem dX11_character_16 : decode cX11_character 16 = .ok (.new 142, 3) := by decide +kernel
theorem dX11_character_19 : decode cX11_character 19 = .ok (.dup, 1) := by decide +kernel
theorem dX11_character_20 : decode cX11_character 20 = .ok (.ldc 144, 2) := by decide +kernel
theorem dX11_character_22 : decode cX11_character 22 = .ok (.invokespecial 146, 3) := by decide +kernel
theorem dX11_character_25 : decode cX11_character 25 = .ok (.athrow, 1) := by decide +kernel
theorem dX11_character_26 : decode cX11_character 26 = .ok (.iload_n 1, 1) := by decide +kernel
theorem dX11_character_27 : decode cX11_character 27 = .ok (.iload_n 2, 1) := by decide +kernel
theorem dX11_character_28 : decode cX11_character 28 = .ok (.invokestatic 147, 3) := by decide +kernel
theorem dX11_character_31 : decode cX11_character 31 = .ok (.ireturn, 1) := by decide +kernel
theorem dX11_lead_0 : decode cX11_lead 0 = .ok (.aload_n 0, 1) := by decide +kernel
theorem dX11_lead_1 : decode cX11_lead 1 = .ok (.getfield 53, 3) := by decide +kernel
theorem dX11_lead_4 : decode cX11_lead 4 = .ok (.getfield 151, 3) := by decide +kernel
theorem dX11_lead_7 : decode cX11_lead 7 = .ok (.getfield 127, 3) := by decide +kernel
theorem dX11_lead_10 : decode cX11_lead 10 = .ok (.aload_n 0, 1) := by decide +kernel
theorem dX11_lead_11 : decode cX11_lead 11 = .ok (.getfield 37, 3) := by decide +kernel
theorem dX11_lead_14 : decode cX11_lead 14 = .ok (.getfield 154, 3) := by decide +kernel
theorem dX11_lead_17 : decode cX11_lead 17 = .ok (.aload_n 0, 1) := by decide +kernel
theorem dX11_lead_18 : decode cX11_lead 18 = .ok (.getfield 53, 3) := by decide +kernel
theorem dX11_lead_21 : decode cX11_lead 21 = .ok (.getfield 151, 3) := by decide +kernel
theorem dX11_lead_24 : decode cX11_lead 24 = .ok (.getfield 132, 3) := by decide +kernel
theorem dX11_lead_27 : decode cX11_lead 27 = .ok (.imul, 1) := by decide +kernel
theorem dX11_lead_28 : decode cX11_lead 28 = .ok (.iadd, 1) := by decide +kernel
theorem dX11_lead_29 : decode cX11_lead 29 = .ok (.aload_n 0, 1) := by decide +kernel
theorem dX11_lead_30 : decode cX11_lead 30 = .ok (.getfield 53, 3) := by decide +kernel
theorem dX11_lead_33 : decode cX11_lead 33 = .ok (.getfield 157, 3) := by decide +kernel
theorem dX11_lead_36 : decode cX11_lead 36 = .ok (.getfield 127, 3) := by decide +kernel
theorem dX11_lead_39 : decode cX11_lead 39 = .ok (.isub, 1) := by decide +kernel
theorem dX11_lead_40 : decode cX11_lead 40 = .ok (.istore_n 1, 1) := by decide +kernel
theorem dX11_lead_41 : decode cX11_lead 41 = .ok (.aload_n 0, 1) := by decide +kernel
theorem dX11_lead_42 : decode cX11_lead 42 = .ok (.getfield 37, 3) := by decide +kernel
theorem dX11_lead_45 : decode cX11_lead 45 = .ok (.invokevirtual 159, 3) := by decide +kernel
theorem dX11_lead_48 : decode cX11_lead 48 = .ok (.iconst 2, 1) := by decide +kernel
theorem dX11_lead_49 : decode cX11_lead 49 = .ok (.idiv, 1) := by decide +kernel
theorem dX11_lead_50 : decode cX11_lead 50 = .ok (.istore_n 2, 1) := by decide +kernel
theorem dX11_lead_51 : decode cX11_lead 51 = .ok (.iload_n 1, 1) := by decide +kernel
theorem dX11_lead_52 : decode cX11_lead 52 = .ok (.iload_n 2, 1) := by decide +kernel
theorem dX11_lead_53 : decode cX11_lead 53 = .ok (.iadd, 1) := by decide +kernel
theorem dX11_lead_54 : decode cX11_lead 54 = .ok (.aload_n 0, 1) := by decide +kernel
theorem dX11_lead_55 : decode cX11_lead 55 = .ok (.getfield 37, 3) := by decide +kernel
theorem dX11_lead_58 : decode cX11_lead 58 = .ok (.invokevirtual 159, 3) := by decide +kernel
theorem dX11_lead_61 : decode cX11_lead 61 = .ok (.invokestatic 138, 3) := by decide +kernel
theorem dX11_lead_64 : decode cX11_lead 64 = .ok (.iload_n 2, 1) := by decide +kernel
theorem dX11_lead_65 : decode cX11_lead 65 = .ok (.isub, 1) := by decide +kernel
theorem dX11_lead_66 : decode cX11_lead 66 = .ok (.ireturn, 1) := by decide +kernel
theorem dX11_lineCount_0 : decode cX11_lineCount 0 = .ok (.aload_n 0, 1) := by decide +kernel
theorem dX11_lineCount_1 : decode cX11_lineCount 1 = .ok (.iload_n 1, 1) := by decide +kernel
theorem dX11_lineCount_2 : decode cX11_lineCount 2 = .ok (.invokevirtual 162, 3) := by decide +kernel
theorem dX11_lineCount_5 : decode cX11_lineCount 5 = .ok (.getfield 109, 3) := by decide +kernel
theorem dX11_lineCount_8 : decode cX11_lineCount 8 = .ok (.ireturn, 1) := by decide +kernel
theorem dX11_linesDone_0 : decode cX11_linesDone 0 = .ok (.aload_n 0, 1) := by decide +kernel
theorem dX11_linesDone_1 : decode cX11_linesDone 1 = .ok (.iload_n 1, 1) := by decide +kernel
theorem dX11_linesDone_2 : decode cX11_linesDone 2 = .ok (.invokevirtual 123, 3) := by decide +kernel
theorem dX11_linesDone_5 : decode cX11_linesDone 5 = .ok (.getfield 166, 3) := by decide +kernel
theorem dX11_linesDone_8 : decode cX11_linesDone 8 = .ok (.ireturn, 1) := by decide +kernel
theorem dX11_lineLength_0 : decode cX11_lineLength 0 = .ok (.aload_n 0, 1) := by decide +kernel
theorem dX11_lineLength_1 : decode cX11_lineLength 1 = .ok (.iload_n 1, 1) := by decide +kernel
theorem dX11_lineLength_2 : decode cX11_lineLength 2 = .ok (.iload_n 2, 1) := by decide +kernel
theorem dX11_lineLength_3 : decode cX11_lineLength 3 = .ok (.invokevirtual 169, 3) := by decide +kernel
theorem dX11_lineLength_6 : decode cX11_lineLength 6 = .ok (.getfield 173, 3) := by decide +kernel
theorem dX11_lineLength_9 : decode cX11_lineLength 9 = .ok (.invokevirtual 67, 3) := by decide +kernel
theorem dX11_lineLength_12 : decode cX11_lineLength 12 = .ok (.ireturn, 1) := by decide +kernel
theorem dX11_pulsesOf_0 : decode cX11_pulsesOf 0 = .ok (.aload_n 0, 1) := by decide +kernel
theorem dX11_pulsesOf_1 : decode cX11_pulsesOf 1 = .ok (.iload_n 1, 1) := by decide +kernel
theorem dX11_pulsesOf_2 : decode cX11_pulsesOf 2 = .ok (.iload_n 2, 1) := by decide +kernel
theorem dX11_pulsesOf_3 : decode cX11_pulsesOf 3 = .ok (.invokevirtual 169, 3) := by decide +kernel
theorem dX11_pulsesOf_6 : decode cX11_pulsesOf 6 = .ok (.getfield 178, 3) := by decide +kernel
theorem dX11_pulsesOf_9 : decode cX11_pulsesOf 9 = .ok (.invokevirtual 67, 3) := by decide +kernel
theorem dX11_pulsesOf_12 : decode cX11_pulsesOf 12 = .ok (.ireturn, 1) := by decide +kernel
theorem dX11_pulseOf_0 : decode cX11_pulseOf 0 = .ok (.aload_n 0, 1) := by decide +kernel
theorem dX11_pulseOf_1 : decode cX11_pulseOf 1 = .ok (.iload_n 1, 1) := by decide +kernel
theorem dX11_pulseOf_2 : decode cX11_pulseOf 2 = .ok (.iload_n 2, 1) := by decide +kernel
theorem dX11_pulseOf_3 : decode cX11_pulseOf 3 = .ok (.invokevirtual 169, 3) := by decide +kernel
theorem dX11_pulseOf_6 : decode cX11_pulseOf 6 = .ok (.getfield 178, 3) := by decide +kernel
theorem dX11_pulseOf_9 : decode cX11_pulseOf 9 = .ok (.iload_n 3, 1) := by decide +kernel
theorem dX11_pulseOf_10 : decode cX11_pulseOf 10 = .ok (.invokestatic 181, 3) := by decide +kernel
theorem dX11_pulseOf_13 : decode cX11_pulseOf 13 = .ok (.ireturn, 1) := by decide +kernel
theorem dX11_ticksFor_0 : decode cX11_ticksFor 0 = .ok (.aload_n 0, 1) := by decide +kernel
theorem dX11_ticksFor_1 : decode cX11_ticksFor 1 = .ok (.aload_n 0, 1) := by decide +kernel
theorem dX11_ticksFor_2 : decode cX11_ticksFor 2 = .ok (.iload_n 1, 1) := by decide +kernel
theorem dX11_ticksFor_3 : decode cX11_ticksFor 3 = .ok (.iload_n 2, 1) := by decide +kernel
theorem dX11_ticksFor_4 : decode cX11_ticksFor 4 = .ok (.invokevirtual 169, 3) := by decide +kernel
theorem dX11_ticksFor_7 : decode cX11_ticksFor 7 = .ok (.aload_n 0, 1) := by decide +kernel
theorem dX11_ticksFor_8 : decode cX11_ticksFor 8 = .ok (.iload_n 1, 1) := by decide +kernel
theorem dX11_ticksFor_9 : decode cX11_ticksFor 9 = .ok (.invokevirtual 123, 3) := by decide +kernel
theorem dX11_ticksFor_12 : decode cX11_ticksFor 12 = .ok (.invokevirtual 185, 3) := by decide +kernel
theorem dX11_ticksFor_15 : decode cX11_ticksFor 15 = .ok (.ireturn, 1) := by decide +kernel
theorem dX11_slowestLine_0 : decode cX11_slowestLine 0 = .ok (.aload_n 0, 1) := by decide +kernel
theorem dX11_slowestLine_1 : decode cX11_slowestLine 1 = .ok (.iload_n 1, 1) := by decide +kernel
theorem dX11_slowestLine_2 : decode cX11_slowestLine 2 = .ok (.invokevirtual 162, 3) := by decide +kernel
theorem dX11_slowestLine_5 : decode cX11_slowestLine 5 = .ok (.getfield 109, 3) := by decide +kernel
theorem dX11_slowestLine_8 : decode cX11_slowestLine 8 = .ok (.istore_n 2, 1) := by decide +kernel
theorem dX11_slowestLine_9 : decode cX11_slowestLine 9 = .ok (.iconst (-1), 1) := by decide +kernel
theorem dX11_slowestLine_10 : decode cX11_slowestLine 10 = .ok (.istore_n 3, 1) := by decide +kernel
theorem dX11_slowestLine_11 : decode cX11_slowestLine 11 = .ok (.iconst (-1), 1) := by decide +kernel
theorem dX11_slowestLine_12 : decode cX11_slowestLine 12 = .ok (.istore 4, 2) := by decide +kernel
theorem dX11_slowestLine_14 : decode cX11_slowestLine 14 = .ok (.iconst 0, 1) := by decide +kernel
theorem dX11_slowestLine_15 : decode cX11_slowestLine 15 = .ok (.istore 5, 2) := by decide +kernel
theorem dX11_slowestLine_17 : decode cX11_slowestLine 17 = .ok (.iload 5, 2) := by decide +kernel
theorem dX11_slowestLine_19 : decode cX11_slowestLine 19 = .ok (.iload_n 2, 1) := by decide +kernel
theorem dX11_slowestLine_20 : decode cX11_slowestLine 20 = .ok (.if_icmp .ge 41, 3) := by decide +kernel
theorem dX11_slowestLine_23 : decode cX11_slowestLine 23 = .ok (.aload_n 0, 1) := by decide +kernel
theorem dX11_slowestLine_24 : decode cX11_slowestLine 24 = .ok (.aload_n 0, 1) := by decide +kernel
theorem dX11_slowestLine_25 : decode cX11_slowestLine 25 = .ok (.iload_n 1, 1) := by decide +kernel
theorem dX11_slowestLine_26 : decode cX11_slowestLine 26 = .ok (.iload 5, 2) := by decide +kernel
theorem dX11_slowestLine_28 : decode cX11_slowestLine 28 = .ok (.invokevirtual 169, 3) := by decide +kernel
theorem dX11_slowestLine_31 : decode cX11_slowestLine 31 = .ok (.aload_n 0, 1) := by decide +kernel
theorem dX11_slowestLine_32 : decode cX11_slowestLine 32 = .ok (.iload_n 1, 1) := by decide +kernel
theorem dX11_slowestLine_33 : decode cX11_slowestLine 33 = .ok (.invokevirtual 123, 3) := by decide +kernel
theorem dX11_slowestLine_36 : decode cX11_slowestLine 36 = .ok (.invokevirtual 185, 3) := by decide +kernel
theorem dX11_slowestLine_39 : decode cX11_slowestLine 39 = .ok (.istore 6, 2) := by decide +kernel
theorem dX11_slowestLine_41 : decode cX11_slowestLine 41 = .ok (.iload 6, 2) := by decide +kernel
theorem dX11_slowestLine_43 : decode cX11_slowestLine 43 = .ok (.iload 4, 2) := by decide +kernel
theorem dX11_slowestLine_45 : decode cX11_slowestLine 45 = .ok (.if_icmp .le 10, 3) := by decide +kernel
theorem dX11_slowestLine_48 : decode cX11_slowestLine 48 = .ok (.iload 6, 2) := by decide +kernel
theorem dX11_slowestLine_50 : decode cX11_slowestLine 50 = .ok (.istore 4, 2) := by decide +kernel
theorem dX11_slowestLine_52 : decode cX11_slowestLine 52 = .ok (.iload 5, 2) := by decide +kernel
theorem dX11_slowestLine_54 : decode cX11_slowestLine 54 = .ok (.istore_n 3, 1) := by decide +kernel
theorem dX11_slowestLine_55 : decode cX11_slowestLine 55 = .ok (.iinc 5 1, 3) := by decide +kernel
theorem dX11_slowestLine_58 : decode cX11_slowestLine 58 = .ok (.goto (-41), 3) := by decide +kernel
theorem dX11_slowestLine_61 : decode cX11_slowestLine 61 = .ok (.iload_n 3, 1) := by decide +kernel
theorem dX11_slowestLine_62 : decode cX11_slowestLine 62 = .ok (.ireturn, 1) := by decide +kernel
theorem dX11_ticksToSend_0 : decode cX11_ticksToSend 0 = .ok (.aload_n 0, 1) := by decide +kernel
theorem dX11_ticksToSend_1 : decode cX11_ticksToSend 1 = .ok (.getfield 37, 3) := by decide +kernel
theorem dX11_ticksToSend_4 : decode cX11_ticksToSend 4 = .ok (.invokevirtual 159, 3) := by decide +kernel
theorem dX11_ticksToSend_7 : decode cX11_ticksToSend 7 = .ok (.istore_n 3, 1) := by decide +kernel
theorem dX11_ticksToSend_8 : decode cX11_ticksToSend 8 = .ok (.aload_n 2, 1) := by decide +kernel
theorem dX11_ticksToSend_9 : decode cX11_ticksToSend 9 = .ok (.getfield 127, 3) := by decide +kernel
theorem dX11_ticksToSend_12 : decode cX11_ticksToSend 12 = .ok (.istore 4, 2) := by decide +kernel
theorem dX11_ticksToSend_14 : decode cX11_ticksToSend 14 = .ok (.iconst 0, 1) := by decide +kernel
theorem dX11_ticksToSend_15 : decode cX11_ticksToSend 15 = .ok (.istore 5, 2) := by decide +kernel
theorem dX11_ticksToSend_17 : decode cX11_ticksToSend 17 = .ok (.iconst 0, 1) := by decide +kernel
theorem dX11_ticksToSend_18 : decode cX11_ticksToSend 18 = .ok (.istore 6, 2) := by decide +kernel
theorem dX11_ticksToSend_20 : decode cX11_ticksToSend 20 = .ok (.iload 6, 2) := by decide +kernel
theorem dX11_ticksToSend_22 : decode cX11_ticksToSend 22 = .ok (.aload_n 1, 1) := by decide +kernel
theorem dX11_ticksToSend_23 : decode cX11_ticksToSend 23 = .ok (.getfield 178, 3) := by decide +kernel
theorem dX11_ticksToSend_26 : decode cX11_ticksToSend 26 = .ok (.invokevirtual 67, 3) := by decide +kernel
theorem dX11_ticksToSend_29 : decode cX11_ticksToSend 29 = .ok (.if_icmp .ge 53, 3) := by decide +kernel
theorem dX11_ticksToSend_32 : decode cX11_ticksToSend 32 = .ok (.aload_n 1, 1) := by decide +kernel
theorem dX11_ticksToSend_33 : decode cX11_ticksToSend 33 = .ok (.getfield 178, 3) := by decide +kernel
theorem dX11_ticksToSend_36 : decode cX11_ticksToSend 36 = .ok (.iload 6, 2) := by decide +kernel
theorem dX11_ticksToSend_38 : decode cX11_ticksToSend 38 = .ok (.invokevirtual 189, 3) := by decide +kernel
theorem dX11_ticksToSend_41 : decode cX11_ticksToSend 41 = .ok (.iload 4, 2) := by decide +kernel
theorem dX11_ticksToSend_43 : decode cX11_ticksToSend 43 = .ok (.aload_n 2, 1) := by decide +kernel
theorem dX11_ticksToSend_44 : decode cX11_ticksToSend 44 = .ok (.getfield 132, 3) := by decide +kernel
theorem dX11_ticksToSend_47 : decode cX11_ticksToSend 47 = .ok (.iload_n 3, 1) := by decide +kernel
theorem dX11_ticksToSend_48 : decode cX11_ticksToSend 48 = .ok (.invokestatic 193, 3) := by decide +kernel
theorem dX11_ticksToSend_51 : decode cX11_ticksToSend 51 = .ok (.istore 7, 2) := by decide +kernel
theorem dX11_ticksToSend_53 : decode cX11_ticksToSend 53 = .ok (.iload 4, 2) := by decide +kernel
theorem dX11_ticksToSend_55 : decode cX11_ticksToSend 55 = .ok (.iload 7, 2) := by decide +kernel
theorem dX11_ticksToSend_57 : decode cX11_ticksToSend 57 = .ok (.aload_n 2, 1) := by decide +kernel
theorem dX11_ticksToSend_58 : decode cX11_ticksToSend 58 = .ok (.getfield 132, 3) := by decide +kernel
theorem dX11_ticksToSend_61 : decode cX11_ticksToSend 61 = .ok (.imul, 1) := by decide +kernel
theorem dX11_ticksToSend_62 : decode cX11_ticksToSend 62 = .ok (.iadd, 1) := by decide +kernel
theorem dX11_ticksToSend_63 : decode cX11_ticksToSend 63 = .ok (.iload_n 3, 1) := by decide +kernel
theorem dX11_ticksToSend_64 : decode cX11_ticksToSend 64 = .ok (.invokestatic 138, 3) := by decide +kernel
theorem dX11_ticksToSend_67 : decode cX11_ticksToSend 67 = .ok (.istore 4, 2) := by decide +kernel
theorem dX11_ticksToSend_69 : decode cX11_ticksToSend 69 = .ok (.iload 5, 2) := by decide +kernel
theorem dX11_ticksToSend_71 : decode cX11_ticksToSend 71 = .ok (.iload 7, 2) := by decide +kernel
theorem dX11_ticksToSend_73 : decode cX11_ticksToSend 73 = .ok (.iadd, 1) := by decide +kernel
theorem dX11_ticksToSend_74 : decode cX11_ticksToSend 74 = .ok (.istore 5, 2) := by decide +kernel
theorem dX11_ticksToSend_76 : decode cX11_ticksToSend 76 = .ok (.iinc 6 1, 3) := by decide +kernel
theorem dX11_ticksToSend_79 : decode cX11_ticksToSend 79 = .ok (.goto (-59), 3) := by decide +kernel
theorem dX11_ticksToSend_82 : decode cX11_ticksToSend 82 = .ok (.iload 5, 2) := by decide +kernel
theorem dX11_ticksToSend_84 : decode cX11_ticksToSend 84 = .ok (.ireturn, 1) := by decide +kernel
theorem dX11_sender_0 : decode cX11_sender 0 = .ok (.aload_n 0, 1) := by decide +kernel
theorem dX11_sender_1 : decode cX11_sender 1 = .ok (.getfield 53, 3) := by decide +kernel
theorem dX11_sender_4 : decode cX11_sender 4 = .ok (.getfield 197, 3) := by decide +kernel
theorem dX11_sender_7 : decode cX11_sender 7 = .ok (.ireturn, 1) := by decide +kernel
theorem dX11_underWay_0 : decode cX11_underWay 0 = .ok (.aload_n 0, 1) := by decide +kernel
theorem dX11_underWay_1 : decode cX11_underWay 1 = .ok (.getfield 53, 3) := by decide +kernel
theorem dX11_underWay_4 : decode cX11_underWay 4 = .ok (.getfield 210, 3) := by decide +kernel
theorem dX11_underWay_7 : decode cX11_underWay 7 = .ok (.invokevirtual 214, 3) := by decide +kernel
theorem dX11_underWay_10 : decode cX11_underWay 10 = .ok (.ireturn, 1) := by decide +kernel
theorem dX11_nextPulseIn_0 : decode cX11_nextPulseIn 0 = .ok (.aload_n 0, 1) := by decide +kernel
theorem dX11_nextPulseIn_1 : decode cX11_nextPulseIn 1 = .ok (.getfield 53, 3) := by decide +kernel
theorem dX11_nextPulseIn_4 : decode cX11_nextPulseIn 4 = .ok (.invokevirtual 217, 3) := by decide +kernel
theorem dX11_nextPulseIn_7 : decode cX11_nextPulseIn 7 = .ok (.istore_n 1, 1) := by decide +kernel
theorem dX11_nextPulseIn_8 : decode cX11_nextPulseIn 8 = .ok (.iload_n 1, 1) := by decide +kernel
theorem dX11_nextPulseIn_9 : decode cX11_nextPulseIn 9 = .ok (.iconst (-1), 1) := by decide +kernel
theorem dX11_nextPulseIn_10 : decode cX11_nextPulseIn 10 = .ok (.if_icmp .ne 5, 3) := by decide +kernel
theorem dX11_nextPulseIn_13 : decode cX11_nextPulseIn 13 = .ok (.iconst (-1), 1) := by decide +kernel
theorem dX11_nextPulseIn_14 : decode cX11_nextPulseIn 14 = .ok (.ireturn, 1) := by decide +kernel
theorem dX11_nextPulseIn_15 : decode cX11_nextPulseIn 15 = .ok (.aload_n 0, 1) := by decide +kernel
theorem dX11_nextPulseIn_16 : decode cX11_nextPulseIn 16 = .ok (.getfield 53, 3) := by decide +kernel
theorem dX11_nextPulseIn_19 : decode cX11_nextPulseIn 19 = .ok (.aload_n 0, 1) := by decide +kernel
theorem dX11_nextPulseIn_20 : decode cX11_nextPulseIn 20 = .ok (.getfield 53, 3) := by decide +kernel
theorem dX11_nextPulseIn_23 : decode cX11_nextPulseIn 23 = .ok (.getfield 197, 3) := by decide +kernel
theorem dX11_nextPulseIn_26 : decode cX11_nextPulseIn 26 = .ok (.invokevirtual 220, 3) := by decide +kernel
theorem dX11_nextPulseIn_29 : decode cX11_nextPulseIn 29 = .ok (.astore_n 2, 1) := by decide +kernel
theorem dX11_nextPulseIn_30 : decode cX11_nextPulseIn 30 = .ok (.iload_n 1, 1) := by decide +kernel
theorem dX11_nextPulseIn_31 : decode cX11_nextPulseIn 31 = .ok (.aload_n 2, 1) := by decide +kernel
theorem dX11_nextPulseIn_32 : decode cX11_nextPulseIn 32 = .ok (.getfield 127, 3) := by decide +kernel
theorem dX11_nextPulseIn_35 : decode cX11_nextPulseIn 35 = .ok (.aload_n 2, 1) := by decide +kernel
theorem dX11_nextPulseIn_36 : decode cX11_nextPulseIn 36 = .ok (.getfield 132, 3) := by decide +kernel
theorem dX11_nextPulseIn_39 : decode cX11_nextPulseIn 39 = .ok (.aload_n 0, 1) := by decide +kernel
theorem dX11_nextPulseIn_40 : decode cX11_nextPulseIn 40 = .ok (.getfield 37, 3) := by decide +kernel
theorem dX11_nextPulseIn_43 : decode cX11_nextPulseIn 43 = .ok (.invokevirtual 159, 3) := by decide +kernel
theorem dX11_nextPulseIn_46 : decode cX11_nextPulseIn 46 = .ok (.invokestatic 193, 3) := by decide +kernel
theorem dX11_nextPulseIn_49 : decode cX11_nextPulseIn 49 = .ok (.ireturn, 1) := by decide +kernel
theorem dX11_silence_0 : decode cX11_silence 0 = .ok (.aload_n 0, 1) := by decide +kernel
theorem dX11_silence_1 : decode cX11_silence 1 = .ok (.getfield 53, 3) := by decide +kernel
theorem dX11_silence_4 : decode cX11_silence 4 = .ok (.getfield 197, 3) := by decide +kernel
theorem dX11_silence_7 : decode cX11_silence 7 = .ok (.iconst (-1), 1) := by decide +kernel
theorem dX11_silence_8 : decode cX11_silence 8 = .ok (.if_icmp .ne 7, 3) := by decide +kernel
theorem dX11_silence_11 : decode cX11_silence 11 = .ok (.iconst 0, 1) := by decide +kernel
theorem dX11_silence_12 : decode cX11_silence 12 = .ok (.goto 10, 3) := by decide +kernel
theorem dX11_silence_15 : decode cX11_silence 15 = .ok (.aload_n 0, 1) := by decide +kernel
theorem dX11_silence_16 : decode cX11_silence 16 = .ok (.getfield 53, 3) := by decide +kernel
theorem dX11_silence_19 : decode cX11_silence 19 = .ok (.invokevirtual 223, 3) := by decide +kernel
theorem dX11_silence_22 : decode cX11_silence 22 = .ok (.ireturn, 1) := by decide +kernel
theorem dX11_bufferCharacter_0 : decode cX11_bufferCharacter 0 = .ok (.aload_n 0, 1) := by decide +kernel
theorem dX11_bufferCharacter_1 : decode cX11_bufferCharacter 1 = .ok (.getfield 53, 3) := by decide +kernel
theorem dX11_bufferCharacter_4 : decode cX11_bufferCharacter 4 = .ok (.getfield 226, 3) := by decide +kernel
theorem dX11_bufferCharacter_7 : decode cX11_bufferCharacter 7 = .ok (.getfield 230, 3) := by decide +kernel
theorem dX11_bufferCharacter_10 : decode cX11_bufferCharacter 10 = .ok (.iload_n 1, 1) := by decide +kernel
theorem dX11_bufferCharacter_11 : decode cX11_bufferCharacter 11 = .ok (.invokestatic 181, 3) := by decide +kernel
theorem dX11_bufferCharacter_14 : decode cX11_bufferCharacter 14 = .ok (.i2c, 1) := by decide +kernel
theorem dX11_bufferCharacter_15 : decode cX11_bufferCharacter 15 = .ok (.ireturn, 1) := by decide +kernel
theorem dX11_receivedCharacter_0 : decode cX11_receivedCharacter 0 = .ok (.aload_n 0, 1) := by decide +kernel
theorem dX11_receivedCharacter_1 : decode cX11_receivedCharacter 1 = .ok (.iload_n 1, 1) := by decide +kernel
theorem dX11_receivedCharacter_2 : decode cX11_receivedCharacter 2 = .ok (.invokevirtual 123, 3) := by decide +kernel
theorem dX11_receivedCharacter_5 : decode cX11_receivedCharacter 5 = .ok (.getfield 235, 3) := by decide +kernel
theorem dX11_receivedCharacter_8 : decode cX11_receivedCharacter 8 = .ok (.iload_n 2, 1) := by decide +kernel
theorem dX11_receivedCharacter_9 : decode cX11_receivedCharacter 9 = .ok (.invokestatic 181, 3) := by decide +kernel
theorem dX11_receivedCharacter_12 : decode cX11_receivedCharacter 12 = .ok (.i2c, 1) := by decide +kernel
theorem dX11_receivedCharacter_13 : decode cX11_receivedCharacter 13 = .ok (.ireturn, 1) := by decide +kernel
theorem dX11_pulses_0 : decode cX11_pulses 0 = .ok (.aload_n 0, 1) := by decide +kernel
theorem dX11_pulses_1 : decode cX11_pulses 1 = .ok (.getfield 53, 3) := by decide +kernel
theorem dX11_pulses_4 : decode cX11_pulses 4 = .ok (.getfield 238, 3) := by decide +kernel
theorem dX11_pulses_7 : decode cX11_pulses 7 = .ok (.ireturn, 1) := by decide +kernel
theorem dX11_prints_0 : decode cX11_prints 0 = .ok (.aload_n 0, 1) := by decide +kernel
theorem dX11_prints_1 : decode cX11_prints 1 = .ok (.iload_n 1, 1) := by decide +kernel
theorem dX11_prints_2 : decode cX11_prints 2 = .ok (.invokevirtual 123, 3) := by decide +kernel
theorem dX11_prints_5 : decode cX11_prints 5 = .ok (.getfield 243, 3) := by decide +kernel
theorem dX11_prints_8 : decode cX11_prints 8 = .ok (.ireturn, 1) := by decide +kernel
theorem dX11_meanOffset_0 : decode cX11_meanOffset 0 = .ok (.aload_n 0, 1) := by decide +kernel
theorem dX11_meanOffset_1 : decode cX11_meanOffset 1 = .ok (.iload_n 1, 1) := by decide +kernel
theorem dX11_meanOffset_2 : decode cX11_meanOffset 2 = .ok (.invokevirtual 123, 3) := by decide +kernel
theorem dX11_meanOffset_5 : decode cX11_meanOffset 5 = .ok (.astore_n 2, 1) := by decide +kernel
theorem dX11_meanOffset_6 : decode cX11_meanOffset 6 = .ok (.aload_n 2, 1) := by decide +kernel
theorem dX11_meanOffset_7 : decode cX11_meanOffset 7 = .ok (.getfield 243, 3) := by decide +kernel
theorem dX11_meanOffset_10 : decode cX11_meanOffset 10 = .ok (.ifCond .ne 7, 3) := by decide +kernel
theorem dX11_meanOffset_13 : decode cX11_meanOffset 13 = .ok (.dconst 0, 1) := by decide +kernel
theorem dX11_meanOffset_14 : decode cX11_meanOffset 14 = .ok (.goto 14, 3) := by decide +kernel
theorem dX11_meanOffset_17 : decode cX11_meanOffset 17 = .ok (.aload_n 2, 1) := by decide +kernel
theorem dX11_meanOffset_18 : decode cX11_meanOffset 18 = .ok (.getfield 252, 3) := by decide +kernel
theorem dX11_meanOffset_21 : decode cX11_meanOffset 21 = .ok (.l2d, 1) := by decide +kernel
theorem dX11_meanOffset_22 : decode cX11_meanOffset 22 = .ok (.aload_n 2, 1) := by decide +kernel
theorem dX11_meanOffset_23 : decode cX11_meanOffset 23 = .ok (.getfield 243, 3) := by decide +kernel
theorem dX11_meanOffset_26 : decode cX11_meanOffset 26 = .ok (.i2d, 1) := by decide +kernel
theorem dX11_meanOffset_27 : decode cX11_meanOffset 27 = .ok (.ddiv, 1) := by decide +kernel
theorem dX11_meanOffset_28 : decode cX11_meanOffset 28 = .ok (.dreturn, 1) := by decide +kernel
theorem dX11_eventCount_0 : decode cX11_eventCount 0 = .ok (.aload_n 0, 1) := by decide +kernel
theorem dX11_eventCount_1 : decode cX11_eventCount 1 = .ok (.getfield 53, 3) := by decide +kernel
theorem dX11_eventCount_4 : decode cX11_eventCount 4 = .ok (.getfield 256, 3) := by decide +kernel
theorem dX11_eventCount_7 : decode cX11_eventCount 7 = .ok (.invokevirtual 214, 3) := by decide +kernel
theorem dX11_eventCount_10 : decode cX11_eventCount 10 = .ok (.ireturn, 1) := by decide +kernel
theorem dX11_event_0 : decode cX11_event 0 = .ok (.iload_n 1, 1) := by decide +kernel
theorem dX11_event_1 : decode cX11_event 1 = .ok (.ifCond .lt 17, 3) := by decide +kernel
theorem dX11_event_4 : decode cX11_event 4 = .ok (.iload_n 1, 1) := by decide +kernel
theorem dX11_event_5 : decode cX11_event 5 = .ok (.aload_n 0, 1) := by decide +kernel
theorem dX11_event_6 : decode cX11_event 6 = .ok (.getfield 53, 3) := by decide +kernel
theorem dX11_event_9 : decode cX11_event 9 = .ok (.getfield 256, 3) := by decide +kernel
theorem dX11_event_12 : decode cX11_event 12 = .ok (.invokevirtual 214, 3) := by decide +kernel
theorem dX11_event_15 : decode cX11_event 15 = .ok (.if_icmp .lt 14, 3) := by decide +kernel
theorem dX11_event_18 : decode cX11_event 18 = .ok (.new 142, 3) := by decide +kernel
theorem dX11_event_21 : decode cX11_event 21 = .ok (.dup, 1) := by decide +kernel
theorem dX11_event_22 : decode cX11_event 22 = .ok (.ldc_w 259, 3) := by decide +kernel
theorem dX11_event_25 : decode cX11_event 25 = .ok (.invokespecial 146, 3) := by decide +kernel
theorem dX11_event_28 : decode cX11_event 28 = .ok (.athrow, 1) := by decide +kernel
theorem dX11_event_29 : decode cX11_event 29 = .ok (.iload_n 2, 1) := by decide +kernel
theorem dX11_event_30 : decode cX11_event 30 = .ok (.ifCond .lt 8, 3) := by decide +kernel
theorem dX11_event_33 : decode cX11_event 33 = .ok (.iload_n 2, 1) := by decide +kernel
theorem dX11_event_34 : decode cX11_event 34 = .ok (.iconst 3, 1) := by decide +kernel
theorem dX11_event_35 : decode cX11_event 35 = .ok (.if_icmp .lt 14, 3) := by decide +kernel
theorem dX11_event_38 : decode cX11_event 38 = .ok (.new 84, 3) := by decide +kernel
theorem dX11_event_41 : decode cX11_event 41 = .ok (.dup, 1) := by decide +kernel
theorem dX11_event_42 : decode cX11_event 42 = .ok (.ldc_w 261, 3) := by decide +kernel
theorem dX11_event_45 : decode cX11_event 45 = .ok (.invokespecial 88, 3) := by decide +kernel
theorem dX11_event_48 : decode cX11_event 48 = .ok (.athrow, 1) := by decide +kernel
theorem dX11_event_49 : decode cX11_event 49 = .ok (.aload_n 0, 1) := by decide +kernel
theorem dX11_event_50 : decode cX11_event 50 = .ok (.getfield 53, 3) := by decide +kernel
theorem dX11_event_53 : decode cX11_event 53 = .ok (.getfield 256, 3) := by decide +kernel
theorem dX11_event_56 : decode cX11_event 56 = .ok (.iload_n 1, 1) := by decide +kernel
theorem dX11_event_57 : decode cX11_event 57 = .ok (.iload_n 2, 1) := by decide +kernel
theorem dX11_event_58 : decode cX11_event 58 = .ok (.invokevirtual 263, 3) := by decide +kernel
theorem dX11_event_61 : decode cX11_event 61 = .ok (.ireturn, 1) := by decide +kernel
theorem dX11_run_0 : decode cX11_run 0 = .ok (.iload_n 1, 1) := by decide +kernel
theorem dX11_run_1 : decode cX11_run 1 = .ok (.iconst 1, 1) := by decide +kernel
theorem dX11_run_2 : decode cX11_run 2 = .ok (.sipush 2000, 3) := by decide +kernel
theorem dX11_run_5 : decode cX11_run 5 = .ok (.invokestatic 265, 3) := by decide +kernel
theorem dX11_run_8 : decode cX11_run 8 = .ok (.aload_n 0, 1) := by decide +kernel
theorem dX11_run_9 : decode cX11_run 9 = .ok (.iload_n 1, 1) := by decide +kernel
theorem dX11_run_10 : decode cX11_run 10 = .ok (.invokevirtual 269, 3) := by decide +kernel
theorem dX11_run_13 : decode cX11_run 13 = .ok (.aload_n 0, 1) := by decide +kernel
theorem dX11_run_14 : decode cX11_run 14 = .ok (.getfield 63, 3) := by decide +kernel
theorem dX11_run_17 : decode cX11_run 17 = .ok (.aload_n 0, 1) := by decide +kernel
theorem dX11_run_18 : decode cX11_run 18 = .ok (.getfield 53, 3) := by decide +kernel
theorem dX11_run_21 : decode cX11_run 21 = .ok (.invokevirtual 272, 3) := by decide +kernel
theorem dX11_run_24 : decode cX11_run 24 = .ok (.aload_n 0, 1) := by decide +kernel
theorem dX11_run_25 : decode cX11_run 25 = .ok (.getfield 53, 3) := by decide +kernel
theorem dX11_run_28 : decode cX11_run 28 = .ok (.getfield 238, 3) := by decide +kernel
theorem dX11_run_31 : decode cX11_run 31 = .ok (.istore_n 2, 1) := by decide +kernel
theorem dX11_run_32 : decode cX11_run 32 = .ok (.iconst 0, 1) := by decide +kernel
theorem dX11_run_33 : decode cX11_run 33 = .ok (.istore_n 3, 1) := by decide +kernel
theorem dX11_run_34 : decode cX11_run 34 = .ok (.iload_n 3, 1) := by decide +kernel
theorem dX11_run_35 : decode cX11_run 35 = .ok (.iload_n 1, 1) := by decide +kernel
theorem dX11_run_36 : decode cX11_run 36 = .ok (.if_icmp .ge 16, 3) := by decide +kernel
theorem dX11_run_39 : decode cX11_run 39 = .ok (.aload_n 0, 1) := by decide +kernel
theorem dX11_run_40 : decode cX11_run 40 = .ok (.getfield 53, 3) := by decide +kernel
theorem dX11_run_43 : decode cX11_run 43 = .ok (.invokevirtual 276, 3) := by decide +kernel
theorem dX11_run_46 : decode cX11_run 46 = .ok (.iinc 3 1, 3) := by decide +kernel
theorem dX11_run_49 : decode cX11_run 49 = .ok (.goto (-15), 3) := by decide +kernel
theorem dX11_run_52 : decode cX11_run 52 = .ok (.aload_n 0, 1) := by decide +kernel
theorem dX11_run_53 : decode cX11_run 53 = .ok (.getfield 53, 3) := by decide +kernel
theorem dX11_run_56 : decode cX11_run 56 = .ok (.getfield 238, 3) := by decide +kernel
theorem dX11_run_59 : decode cX11_run 59 = .ok (.iload_n 2, 1) := by decide +kernel
theorem dX11_run_60 : decode cX11_run 60 = .ok (.isub, 1) := by decide +kernel
theorem dX11_run_61 : decode cX11_run 61 = .ok (.ireturn, 1) := by decide +kernel
theorem dX11_formattedCharacter_0 : decode cX11_formattedCharacter 0 = .ok (.iload_n 1, 1) := by decide +kernel
theorem dX11_formattedCharacter_1 : decode cX11_formattedCharacter 1 = .ok (.ifCond .lt 14, 3) := by decide +kernel
theorem dX11_formattedCharacter_4 : decode cX11_formattedCharacter 4 = .ok (.iload_n 1, 1) := by decide +kernel
theorem dX11_formattedCharacter_5 : decode cX11_formattedCharacter 5 = .ok (.aload_n 0, 1) := by decide +kernel
theorem dX11_formattedCharacter_6 : decode cX11_formattedCharacter 6 = .ok (.getfield 30, 3) := by decide +kernel
theorem dX11_formattedCharacter_9 : decode cX11_formattedCharacter 9 = .ok (.invokevirtual 355, 3) := by decide +kernel
theorem dX11_formattedCharacter_12 : decode cX11_formattedCharacter 12 = .ok (.if_icmp .lt 14, 3) := by decide +kernel
theorem dX11_formattedCharacter_15 : decode cX11_formattedCharacter 15 = .ok (.new 142, 3) := by decide +kernel
theorem dX11_formattedCharacter_18 : decode cX11_formattedCharacter 18 = .ok (.dup, 1) := by decide +kernel
theorem dX11_formattedCharacter_19 : decode cX11_formattedCharacter 19 = .ok (.ldc_w 364, 3) := by decide +kernel
theorem dX11_formattedCharacter_22 : decode cX11_formattedCharacter 22 = .ok (.invokespecial 146, 3) := by decide +kernel
theorem dX11_formattedCharacter_25 : decode cX11_formattedCharacter 25 = .ok (.athrow, 1) := by decide +kernel
theorem dX11_formattedCharacter_26 : decode cX11_formattedCharacter 26 = .ok (.aload_n 0, 1) := by decide +kernel
theorem dX11_formattedCharacter_27 : decode cX11_formattedCharacter 27 = .ok (.getfield 30, 3) := by decide +kernel
theorem dX11_formattedCharacter_30 : decode cX11_formattedCharacter 30 = .ok (.iload_n 1, 1) := by decide +kernel
theorem dX11_formattedCharacter_31 : decode cX11_formattedCharacter 31 = .ok (.invokevirtual 366, 3) := by decide +kernel
theorem dX11_formattedCharacter_34 : decode cX11_formattedCharacter 34 = .ok (.ireturn, 1) := by decide +kernel
theorem dX11_requireOffice_0 : decode cX11_requireOffice 0 = .ok (.iload_n 0, 1) := by decide +kernel
theorem dX11_requireOffice_1 : decode cX11_requireOffice 1 = .ok (.ifCond .eq 19, 3) := by decide +kernel
theorem dX11_requireOffice_4 : decode cX11_requireOffice 4 = .ok (.iload_n 0, 1) := by decide +kernel
theorem dX11_requireOffice_5 : decode cX11_requireOffice 5 = .ok (.iconst 1, 1) := by decide +kernel
theorem dX11_requireOffice_6 : decode cX11_requireOffice 6 = .ok (.if_icmp .eq 14, 3) := by decide +kernel
theorem dX11_requireOffice_9 : decode cX11_requireOffice 9 = .ok (.new 142, 3) := by decide +kernel
theorem dX11_requireOffice_12 : decode cX11_requireOffice 12 = .ok (.dup, 1) := by decide +kernel
theorem dX11_requireOffice_13 : decode cX11_requireOffice 13 = .ok (.ldc_w 370, 3) := by decide +kernel
theorem dX11_requireOffice_16 : decode cX11_requireOffice 16 = .ok (.invokespecial 146, 3) := by decide +kernel
theorem dX11_requireOffice_19 : decode cX11_requireOffice 19 = .ok (.athrow, 1) := by decide +kernel
theorem dX11_requireOffice_20 : decode cX11_requireOffice 20 = .ok (.return_, 1) := by decide +kernel
theorem dX11_requireRange_0 : decode cX11_requireRange 0 = .ok (.iload_n 0, 1) := by decide +kernel
theorem dX11_requireRange_1 : decode cX11_requireRange 1 = .ok (.iload_n 1, 1) := by decide +kernel
theorem dX11_requireRange_2 : decode cX11_requireRange 2 = .ok (.if_icmp .lt 8, 3) := by decide +kernel
theorem dX11_requireRange_5 : decode cX11_requireRange 5 = .ok (.iload_n 0, 1) := by decide +kernel
theorem dX11_requireRange_6 : decode cX11_requireRange 6 = .ok (.iload_n 2, 1) := by decide +kernel
theorem dX11_requireRange_7 : decode cX11_requireRange 7 = .ok (.if_icmp .le 14, 3) := by decide +kernel
theorem dX11_requireRange_10 : decode cX11_requireRange 10 = .ok (.new 84, 3) := by decide +kernel
theorem dX11_requireRange_13 : decode cX11_requireRange 13 = .ok (.dup, 1) := by decide +kernel
theorem dX11_requireRange_14 : decode cX11_requireRange 14 = .ok (.ldc_w 372, 3) := by decide +kernel
theorem dX11_requireRange_17 : decode cX11_requireRange 17 = .ok (.invokespecial 88, 3) := by decide +kernel
theorem dX11_requireRange_20 : decode cX11_requireRange 20 = .ok (.athrow, 1) := by decide +kernel
theorem dX11_requireRange_21 : decode cX11_requireRange 21 = .ok (.return_, 1) := by decide +kernel
theorem dX11_requireTimeFor_0 : decode cX11_requireTimeFor 0 = .ok (.aload_n 0, 1) := by decide +kernel
theorem dX11_requireTimeFor_1 : decode cX11_requireTimeFor 1 = .ok (.getfield 53, 3) := by decide +kernel
theorem dX11_requireTimeFor_4 : decode cX11_requireTimeFor 4 = .ok (.getfield 120, 3) := by decide +kernel
theorem dX11_requireTimeFor_7 : decode cX11_requireTimeFor 7 = .ok (.iload_n 1, 1) := by decide +kernel
theorem dX11_requireTimeFor_8 : decode cX11_requireTimeFor 8 = .ok (.iadd, 1) := by decide +kernel
theorem dX11_requireTimeFor_9 : decode cX11_requireTimeFor 9 = .ok (.ldc_w 374, 3) := by decide +kernel
theorem dX11_requireTimeFor_12 : decode cX11_requireTimeFor 12 = .ok (.if_icmp .le 14, 3) := by decide +kernel
theorem dX11_requireTimeFor_15 : decode cX11_requireTimeFor 15 = .ok (.new 71, 3) := by decide +kernel
theorem dX11_requireTimeFor_18 : decode cX11_requireTimeFor 18 = .ok (.dup, 1) := by decide +kernel
theorem dX11_requireTimeFor_19 : decode cX11_requireTimeFor 19 = .ok (.ldc_w 375, 3) := by decide +kernel
theorem dX11_requireTimeFor_22 : decode cX11_requireTimeFor 22 = .ok (.invokespecial 75, 3) := by decide +kernel
theorem dX11_requireTimeFor_25 : decode cX11_requireTimeFor 25 = .ok (.athrow, 1) := by decide +kernel
theorem dX11_requireTimeFor_26 : decode cX11_requireTimeFor 26 = .ok (.return_, 1) := by decide +kernel
theorem dX11_officeAt_0 : decode cX11_officeAt 0 = .ok (.iload_n 1, 1) := by decide +kernel
theorem dX11_officeAt_1 : decode cX11_officeAt 1 = .ok (.invokestatic 330, 3) := by decide +kernel
theorem dX11_officeAt_4 : decode cX11_officeAt 4 = .ok (.aload_n 0, 1) := by decide +kernel
theorem dX11_officeAt_5 : decode cX11_officeAt 5 = .ok (.getfield 53, 3) := by decide +kernel
theorem dX11_officeAt_8 : decode cX11_officeAt 8 = .ok (.iload_n 1, 1) := by decide +kernel
theorem dX11_officeAt_9 : decode cX11_officeAt 9 = .ok (.invokevirtual 220, 3) := by decide +kernel
theorem dX11_officeAt_12 : decode cX11_officeAt 12 = .ok (.areturn, 1) := by decide +kernel
theorem dX11_deskAt_0 : decode cX11_deskAt 0 = .ok (.iload_n 1, 1) := by decide +kernel
theorem dX11_deskAt_1 : decode cX11_deskAt 1 = .ok (.invokestatic 330, 3) := by decide +kernel
theorem dX11_deskAt_4 : decode cX11_deskAt 4 = .ok (.aload_n 0, 1) := by decide +kernel
theorem dX11_deskAt_5 : decode cX11_deskAt 5 = .ok (.getfield 37, 3) := by decide +kernel
theorem dX11_deskAt_8 : decode cX11_deskAt 8 = .ok (.iload_n 1, 1) := by decide +kernel
theorem dX11_deskAt_9 : decode cX11_deskAt 9 = .ok (.invokevirtual 377, 3) := by decide +kernel
theorem dX11_deskAt_12 : decode cX11_deskAt 12 = .ok (.areturn, 1) := by decide +kernel
theorem dX11_lineAt_0 : decode cX11_lineAt 0 = .ok (.aload_n 0, 1) := by decide +kernel
theorem dX11_lineAt_1 : decode cX11_lineAt 1 = .ok (.iload_n 1, 1) := by decide +kernel
theorem dX11_lineAt_2 : decode cX11_lineAt 2 = .ok (.invokevirtual 162, 3) := by decide +kernel
theorem dX11_lineAt_5 : decode cX11_lineAt 5 = .ok (.iload_n 2, 1) := by decide +kernel
theorem dX11_lineAt_6 : decode cX11_lineAt 6 = .ok (.invokevirtual 380, 3) := by decide +kernel
theorem dX11_lineAt_9 : decode cX11_lineAt 9 = .ok (.astore_n 3, 1) := by decide +kernel
theorem dX11_lineAt_10 : decode cX11_lineAt 10 = .ok (.aload_n 3, 1) := by decide +kernel
theorem dX11_lineAt_11 : decode cX11_lineAt 11 = .ok (.ifnonnull 14, 3) := by decide +kernel
theorem dX11_lineAt_14 : decode cX11_lineAt 14 = .ok (.new 142, 3) := by decide +kernel
theorem dX11_lineAt_17 : decode cX11_lineAt 17 = .ok (.dup, 1) := by decide +kernel
theorem dX11_lineAt_18 : decode cX11_lineAt 18 = .ok (.ldc_w 384, 3) := by decide +kernel
theorem dX11_lineAt_21 : decode cX11_lineAt 21 = .ok (.invokespecial 146, 3) := by decide +kernel
theorem dX11_lineAt_24 : decode cX11_lineAt 24 = .ok (.athrow, 1) := by decide +kernel
theorem dX11_lineAt_25 : decode cX11_lineAt 25 = .ok (.aload_n 3, 1) := by decide +kernel
theorem dX11_lineAt_26 : decode cX11_lineAt 26 = .ok (.areturn, 1) := by decide +kernel
theorem dX11_itemAt_0 : decode cX11_itemAt 0 = .ok (.iload_n 1, 1) := by decide +kernel
theorem dX11_itemAt_1 : decode cX11_itemAt 1 = .ok (.ifCond .lt 11, 3) := by decide +kernel
theorem dX11_itemAt_4 : decode cX11_itemAt 4 = .ok (.iload_n 1, 1) := by decide +kernel
theorem dX11_itemAt_5 : decode cX11_itemAt 5 = .ok (.aload_n 0, 1) := by decide +kernel
theorem dX11_itemAt_6 : decode cX11_itemAt 6 = .ok (.invokevirtual 67, 3) := by decide +kernel
theorem dX11_itemAt_9 : decode cX11_itemAt 9 = .ok (.if_icmp .lt 14, 3) := by decide +kernel
theorem dX11_itemAt_12 : decode cX11_itemAt 12 = .ok (.new 142, 3) := by decide +kernel
theorem dX11_itemAt_15 : decode cX11_itemAt 15 = .ok (.dup, 1) := by decide +kernel
theorem dX11_itemAt_16 : decode cX11_itemAt 16 = .ok (.ldc_w 386, 3) := by decide +kernel
theorem dX11_itemAt_19 : decode cX11_itemAt 19 = .ok (.invokespecial 146, 3) := by decide +kernel
theorem dX11_itemAt_22 : decode cX11_itemAt 22 = .ok (.athrow, 1) := by decide +kernel
theorem dX11_itemAt_23 : decode cX11_itemAt 23 = .ok (.aload_n 0, 1) := by decide +kernel
theorem dX11_itemAt_24 : decode cX11_itemAt 24 = .ok (.iload_n 1, 1) := by decide +kernel
theorem dX11_itemAt_25 : decode cX11_itemAt 25 = .ok (.invokevirtual 189, 3) := by decide +kernel
theorem dX11_itemAt_28 : decode cX11_itemAt 28 = .ok (.ireturn, 1) := by decide +kernel
theorem dX11_modulo_0 : decode cX11_modulo 0 = .ok (.iload_n 1, 1) := by decide +kernel
theorem dX11_modulo_1 : decode cX11_modulo 1 = .ok (.ifCond .le 11, 3) := by decide +kernel
theorem dX11_modulo_4 : decode cX11_modulo 4 = .ok (.iload_n 0, 1) := by decide +kernel
theorem dX11_modulo_5 : decode cX11_modulo 5 = .ok (.iload_n 1, 1) := by decide +kernel
theorem dX11_modulo_6 : decode cX11_modulo 6 = .ok (.invokestatic 388, 3) := by decide +kernel
theorem dX11_modulo_9 : decode cX11_modulo 9 = .ok (.goto 4, 3) := by decide +kernel
theorem dX11_modulo_12 : decode cX11_modulo 12 = .ok (.iconst 0, 1) := by decide +kernel
theorem dX11_modulo_13 : decode cX11_modulo 13 = .ok (.ireturn, 1) := by decide +kernel
theorem dX11_characterOf_0 : decode cX11_characterOf 0 = .ok (.iload_n 0, 1) := by decide +kernel
theorem dX11_characterOf_1 : decode cX11_characterOf 1 = .ok (.iconst 2, 1) := by decide +kernel
theorem dX11_characterOf_2 : decode cX11_characterOf 2 = .ok (.isub, 1) := by decide +kernel
theorem dX11_characterOf_3 : decode cX11_characterOf 3 = .ok (.istore_n 2, 1) := by decide +kernel
theorem dX11_characterOf_4 : decode cX11_characterOf 4 = .ok (.iload_n 1, 1) := by decide +kernel
theorem dX11_characterOf_5 : decode cX11_characterOf 5 = .ok (.ifCond .ne 9, 3) := by decide +kernel
theorem dX11_characterOf_8 : decode cX11_characterOf 8 = .ok (.bipush 97, 2) := by decide +kernel
theorem dX11_characterOf_10 : decode cX11_characterOf 10 = .ok (.iload_n 2, 1) := by decide +kernel
theorem dX11_characterOf_11 : decode cX11_characterOf 11 = .ok (.iadd, 1) := by decide +kernel
theorem dX11_characterOf_12 : decode cX11_characterOf 12 = .ok (.i2c, 1) := by decide +kernel
theorem dX11_characterOf_13 : decode cX11_characterOf 13 = .ok (.ireturn, 1) := by decide +kernel
theorem dX11_characterOf_14 : decode cX11_characterOf 14 = .ok (.iload_n 2, 1) := by decide +kernel
theorem dX11_characterOf_15 : decode cX11_characterOf 15 = .ok (.ifCond .lt 23, 3) := by decide +kernel
theorem dX11_characterOf_18 : decode cX11_characterOf 18 = .ok (.iload_n 2, 1) := by decide +kernel
theorem dX11_characterOf_19 : decode cX11_characterOf 19 = .ok (.ldc_w 391, 3) := by decide +kernel
theorem dX11_characterOf_22 : decode cX11_characterOf 22 = .ok (.invokevirtual 393, 3) := by decide +kernel
theorem dX11_characterOf_25 : decode cX11_characterOf 25 = .ok (.if_icmp .ge 13, 3) := by decide +kernel
theorem dX11_characterOf_28 : decode cX11_characterOf 28 = .ok (.ldc_w 391, 3) := by decide +kernel
theorem dX11_characterOf_31 : decode cX11_characterOf 31 = .ok (.iload_n 2, 1) := by decide +kernel
theorem dX11_characterOf_32 : decode cX11_characterOf 32 = .ok (.invokevirtual 396, 3) := by decide +kernel
theorem dX11_characterOf_35 : decode cX11_characterOf 35 = .ok (.goto 5, 3) := by decide +kernel
theorem dX11_characterOf_38 : decode cX11_characterOf 38 = .ok (.bipush 32, 2) := by decide +kernel
theorem dX11_characterOf_40 : decode cX11_characterOf 40 = .ok (.ireturn, 1) := by decide +kernel
theorem dX11_checkPosition_0 : decode cX11_checkPosition 0 = .ok (.iconst 2, 1) := by decide +kernel
theorem dX11_checkPosition_1 : decode cX11_checkPosition 1 = .ok (.iload_n 0, 1) := by decide +kernel
theorem dX11_checkPosition_2 : decode cX11_checkPosition 2 = .ok (.iload_n 1, 1) := by decide +kernel
theorem dX11_checkPosition_3 : decode cX11_checkPosition 3 = .ok (.iconst 2, 1) := by decide +kernel
theorem dX11_checkPosition_4 : decode cX11_checkPosition 4 = .ok (.isub, 1) := by decide +kernel
theorem dX11_checkPosition_5 : decode cX11_checkPosition 5 = .ok (.invokestatic 138, 3) := by decide +kernel
theorem dX11_checkPosition_8 : decode cX11_checkPosition 8 = .ok (.iadd, 1) := by decide +kernel
theorem dX11_checkPosition_9 : decode cX11_checkPosition 9 = .ok (.ireturn, 1) := by decide +kernel
theorem dX11_ticksToPass_0 : decode cX11_ticksToPass 0 = .ok (.sipush 1000, 3) := by decide +kernel
theorem dX11_ticksToPass_3 : decode cX11_ticksToPass 3 = .ok (.iload_n 0, 1) := by decide +kernel
theorem dX11_ticksToPass_4 : decode cX11_ticksToPass 4 = .ok (.imul, 1) := by decide +kernel
theorem dX11_ticksToPass_5 : decode cX11_ticksToPass 5 = .ok (.iload_n 1, 1) := by decide +kernel
theorem dX11_ticksToPass_6 : decode cX11_ticksToPass 6 = .ok (.isub, 1) := by decide +kernel
theorem dX11_ticksToPass_7 : decode cX11_ticksToPass 7 = .ok (.iconst 1, 1) := by decide +kernel
theorem dX11_ticksToPass_8 : decode cX11_ticksToPass 8 = .ok (.isub, 1) := by decide +kernel
theorem dX11_ticksToPass_9 : decode cX11_ticksToPass 9 = .ok (.iload_n 3, 1) := by decide +kernel
theorem dX11_ticksToPass_10 : decode cX11_ticksToPass 10 = .ok (.invokestatic 138, 3) := by decide +kernel
theorem dX11_ticksToPass_13 : decode cX11_ticksToPass 13 = .ok (.iconst 1, 1) := by decide +kernel
theorem dX11_ticksToPass_14 : decode cX11_ticksToPass 14 = .ok (.iadd, 1) := by decide +kernel
theorem dX11_ticksToPass_15 : decode cX11_ticksToPass 15 = .ok (.istore 4, 2) := by decide +kernel
theorem dX11_ticksToPass_17 : decode cX11_ticksToPass 17 = .ok (.iload_n 2, 1) := by decide +kernel
theorem dX11_ticksToPass_18 : decode cX11_ticksToPass 18 = .ok (.ifCond .le 14, 3) := by decide +kernel
theorem dX11_ticksToPass_21 : decode cX11_ticksToPass 21 = .ok (.iload 4, 2) := by decide +kernel
theorem dX11_ticksToPass_23 : decode cX11_ticksToPass 23 = .ok (.iload_n 2, 1) := by decide +kernel
theorem dX11_ticksToPass_24 : decode cX11_ticksToPass 24 = .ok (.iadd, 1) := by decide +kernel
theorem dX11_ticksToPass_25 : decode cX11_ticksToPass 25 = .ok (.iconst 1, 1) := by decide +kernel
theorem dX11_ticksToPass_26 : decode cX11_ticksToPass 26 = .ok (.isub, 1) := by decide +kernel
theorem dX11_ticksToPass_27 : decode cX11_ticksToPass 27 = .ok (.iload_n 2, 1) := by decide +kernel
theorem dX11_ticksToPass_28 : decode cX11_ticksToPass 28 = .ok (.idiv, 1) := by decide +kernel
theorem dX11_ticksToPass_29 : decode cX11_ticksToPass 29 = .ok (.goto 4, 3) := by decide +kernel
theorem dX11_ticksToPass_32 : decode cX11_ticksToPass 32 = .ok (.iconst 0, 1) := by decide +kernel
theorem dX11_ticksToPass_33 : decode cX11_ticksToPass 33 = .ok (.ireturn, 1) := by decide +kernel
