theorem dX12_init_0 : decode cX12_init 0 = .ok (.aload_n 0, 1) := by decide +kernel
theorem dX12_init_1 : decode cX12_init 1 = .ok (.invokespecial 1, 3) := by decide +kernel
theorem dX12_init_4 : decode cX12_init 4 = .ok (.aload_n 0, 1) := by decide +kernel
theorem dX12_init_5 : decode cX12_init 5 = .ok (.sipush 4763, 3) := by decide +kernel
theorem dX12_init_8 : decode cX12_init 8 = .ok (.newarray .int, 2) := by decide +kernel
theorem dX12_init_10 : decode cX12_init 10 = .ok (.putfield 7, 3) := by decide +kernel
theorem dX12_init_13 : decode cX12_init 13 = .ok (.aload_n 0, 1) := by decide +kernel
theorem dX12_init_14 : decode cX12_init 14 = .ok (.sipush 4763, 3) := by decide +kernel
theorem dX12_init_17 : decode cX12_init 17 = .ok (.newarray .int, 2) := by decide +kernel
theorem dX12_init_19 : decode cX12_init 19 = .ok (.putfield 13, 3) := by decide +kernel
theorem dX12_init_22 : decode cX12_init 22 = .ok (.aload_n 0, 1) := by decide +kernel
theorem dX12_init_23 : decode cX12_init 23 = .ok (.sipush 4763, 3) := by decide +kernel
theorem dX12_init_26 : decode cX12_init 26 = .ok (.newarray .int, 2) := by decide +kernel
theorem dX12_init_28 : decode cX12_init 28 = .ok (.putfield 16, 3) := by decide +kernel
theorem dX12_init_31 : decode cX12_init 31 = .ok (.aload_n 0, 1) := by decide +kernel
theorem dX12_init_32 : decode cX12_init 32 = .ok (.ldc 19, 2) := by decide +kernel
theorem dX12_init_34 : decode cX12_init 34 = .ok (.newarray .int, 2) := by decide +kernel
theorem dX12_init_36 : decode cX12_init 36 = .ok (.putfield 20, 3) := by decide +kernel
theorem dX12_init_39 : decode cX12_init 39 = .ok (.aload_n 0, 1) := by decide +kernel
theorem dX12_init_40 : decode cX12_init 40 = .ok (.bipush 64, 2) := by decide +kernel
theorem dX12_init_42 : decode cX12_init 42 = .ok (.newarray .int, 2) := by decide +kernel
theorem dX12_init_44 : decode cX12_init 44 = .ok (.putfield 23, 3) := by decide +kernel
theorem dX12_init_47 : decode cX12_init 47 = .ok (.aload_n 0, 1) := by decide +kernel
theorem dX12_init_48 : decode cX12_init 48 = .ok (.ldc 26, 2) := by decide +kernel
theorem dX12_init_50 : decode cX12_init 50 = .ok (.putfield 28, 3) := by decide +kernel
theorem dX12_init_53 : decode cX12_init 53 = .ok (.aload_n 0, 1) := by decide +kernel
theorem dX12_init_54 : decode cX12_init 54 = .ok (.bipush 100, 2) := by decide +kernel
theorem dX12_init_56 : decode cX12_init 56 = .ok (.newarray .int, 2) := by decide +kernel
theorem dX12_init_58 : decode cX12_init 58 = .ok (.putfield 32, 3) := by decide +kernel
theorem dX12_init_61 : decode cX12_init 61 = .ok (.aload_n 0, 1) := by decide +kernel
theorem dX12_init_62 : decode cX12_init 62 = .ok (.sipush 600, 3) := by decide +kernel
theorem dX12_init_65 : decode cX12_init 65 = .ok (.newarray .byte, 2) := by decide +kernel
theorem dX12_init_67 : decode cX12_init 67 = .ok (.putfield 35, 3) := by decide +kernel
theorem dX12_init_70 : decode cX12_init 70 = .ok (.aload_n 0, 1) := by decide +kernel
theorem dX12_init_71 : decode cX12_init 71 = .ok (.iconst (-1), 1) := by decide +kernel
theorem dX12_init_72 : decode cX12_init 72 = .ok (.putfield 39, 3) := by decide +kernel
theorem dX12_init_75 : decode cX12_init 75 = .ok (.aload_n 0, 1) := by decide +kernel
theorem dX12_init_76 : decode cX12_init 76 = .ok (.getfield 7, 3) := by decide +kernel
theorem dX12_init_79 : decode cX12_init 79 = .ok (.invokestatic 43, 3) := by decide +kernel
theorem dX12_init_82 : decode cX12_init 82 = .ok (.return_, 1) := by decide +kernel
theorem dX12_thrown_0 : decode cX12_thrown 0 = .ok (.aload_n 0, 1) := by decide +kernel
theorem dX12_thrown_1 : decode cX12_thrown 1 = .ok (.getfield 47, 3) := by decide +kernel
theorem dX12_thrown_4 : decode cX12_thrown 4 = .ok (.ireturn, 1) := by decide +kernel
theorem dX12_raise_0 : decode cX12_raise 0 = .ok (.aload_n 0, 1) := by decide +kernel
theorem dX12_raise_1 : decode cX12_raise 1 = .ok (.iload_n 1, 1) := by decide +kernel
theorem dX12_raise_2 : decode cX12_raise 2 = .ok (.putfield 47, 3) := by decide +kernel
theorem dX12_raise_5 : decode cX12_raise 5 = .ok (.iconst 0, 1) := by decide +kernel
theorem dX12_raise_6 : decode cX12_raise 6 = .ok (.ireturn, 1) := by decide +kernel
theorem dX12_isIn_0 : decode cX12_isIn 0 = .ok (.lload_n 0, 1) := by decide +kernel
theorem dX12_isIn_1 : decode cX12_isIn 1 = .ok (.lload_n 2, 1) := by decide +kernel
theorem dX12_isIn_2 : decode cX12_isIn 2 = .ok (.lcmp, 1) := by decide +kernel
theorem dX12_isIn_3 : decode cX12_isIn 3 = .ok (.ifCond .lt 14, 3) := by decide +kernel
theorem dX12_isIn_6 : decode cX12_isIn 6 = .ok (.lload_n 0, 1) := by decide +kernel
theorem dX12_isIn_7 : decode cX12_isIn 7 = .ok (.lload 4, 2) := by decide +kernel
theorem dX12_isIn_9 : decode cX12_isIn 9 = .ok (.lcmp, 1) := by decide +kernel
theorem dX12_isIn_10 : decode cX12_isIn 10 = .ok (.ifCond .gt 7, 3) := by decide +kernel
theorem dX12_isIn_13 : decode cX12_isIn 13 = .ok (.iconst 1, 1) := by decide +kernel
theorem dX12_isIn_14 : decode cX12_isIn 14 = .ok (.goto 4, 3) := by decide +kernel
theorem dX12_isIn_17 : decode cX12_isIn 17 = .ok (.iconst 0, 1) := by decide +kernel
theorem dX12_isIn_18 : decode cX12_isIn 18 = .ok (.ireturn, 1) := by decide +kernel
theorem dX12_defaults_0 : decode cX12_defaults 0 = .ok (.iconst 0, 1) := by decide +kernel
theorem dX12_defaults_1 : decode cX12_defaults 1 = .ok (.istore_n 1, 1) := by decide +kernel
theorem dX12_defaults_2 : decode cX12_defaults 2 = .ok (.iload_n 1, 1) := by decide +kernel
theorem dX12_defaults_3 : decode cX12_defaults 3 = .ok (.sipush 4763, 3) := by decide +kernel
theorem dX12_defaults_6 : decode cX12_defaults 6 = .ok (.if_icmp .ge 13, 3) := by decide +kernel
theorem dX12_defaults_9 : decode cX12_defaults 9 = .ok (.aload_n 0, 1) := by decide +kernel
theorem dX12_defaults_10 : decode cX12_defaults 10 = .ok (.iload_n 1, 1) := by decide +kernel
theorem dX12_defaults_11 : decode cX12_defaults 11 = .ok (.iconst 0, 1) := by decide +kernel
theorem dX12_defaults_12 : decode cX12_defaults 12 = .ok (.iastore, 1) := by decide +kernel
theorem dX12_defaults_13 : decode cX12_defaults 13 = .ok (.iinc 1 1, 3) := by decide +kernel
theorem dX12_defaults_16 : decode cX12_defaults 16 = .ok (.goto (-14), 3) := by decide +kernel
theorem dX12_defaults_19 : decode cX12_defaults 19 = .ok (.aload_n 0, 1) := by decide +kernel
theorem dX12_defaults_20 : decode cX12_defaults 20 = .ok (.iconst 0, 1) := by decide +kernel
theorem dX12_defaults_21 : decode cX12_defaults 21 = .ok (.bipush 28, 2) := by decide +kernel
theorem dX12_defaults_23 : decode cX12_defaults 23 = .ok (.iastore, 1) := by decide +kernel
theorem dX12_defaults_24 : decode cX12_defaults 24 = .ok (.aload_n 0, 1) := by decide +kernel
theorem dX12_defaults_25 : decode cX12_defaults 25 = .ok (.iconst 1, 1) := by decide +kernel
theorem dX12_defaults_26 : decode cX12_defaults 26 = .ok (.iconst 1, 1) := by decide +kernel
theorem dX12_defaults_27 : decode cX12_defaults 27 = .ok (.iastore, 1) := by decide +kernel
theorem dX12_defaults_28 : decode cX12_defaults 28 = .ok (.aload_n 0, 1) := by decide +kernel
theorem dX12_defaults_29 : decode cX12_defaults 29 = .ok (.iconst 2, 1) := by decide +kernel
theorem dX12_defaults_30 : decode cX12_defaults 30 = .ok (.sipush 200, 3) := by decide +kernel
theorem dX12_defaults_33 : decode cX12_defaults 33 = .ok (.iastore, 1) := by decide +kernel
theorem dX12_defaults_34 : decode cX12_defaults 34 = .ok (.aload_n 0, 1) := by decide +kernel
theorem dX12_defaults_35 : decode cX12_defaults 35 = .ok (.iconst 3, 1) := by decide +kernel
theorem dX12_defaults_36 : decode cX12_defaults 36 = .ok (.sipush 600, 3) := by decide +kernel
theorem dX12_defaults_39 : decode cX12_defaults 39 = .ok (.iastore, 1) := by decide +kernel
theorem dX12_defaults_40 : decode cX12_defaults 40 = .ok (.aload_n 0, 1) := by decide +kernel
theorem dX12_defaults_41 : decode cX12_defaults 41 = .ok (.iconst 4, 1) := by decide +kernel
theorem dX12_defaults_42 : decode cX12_defaults 42 = .ok (.iconst 2, 1) := by decide +kernel
theorem dX12_defaults_43 : decode cX12_defaults 43 = .ok (.iastore, 1) := by decide +kernel
theorem dX12_defaults_44 : decode cX12_defaults 44 = .ok (.aload_n 0, 1) := by decide +kernel
theorem dX12_defaults_45 : decode cX12_defaults 45 = .ok (.bipush 6, 2) := by decide +kernel
theorem dX12_defaults_47 : decode cX12_defaults 47 = .ok (.iconst (-1), 1) := by decide +kernel
theorem dX12_defaults_48 : decode cX12_defaults 48 = .ok (.iastore, 1) := by decide +kernel
theorem dX12_defaults_49 : decode cX12_defaults 49 = .ok (.aload_n 0, 1) := by decide +kernel
theorem dX12_defaults_50 : decode cX12_defaults 50 = .ok (.bipush 23, 2) := by decide +kernel
theorem dX12_defaults_52 : decode cX12_defaults 52 = .ok (.bipush 100, 2) := by decide +kernel
theorem dX12_defaults_54 : decode cX12_defaults 54 = .ok (.iastore, 1) := by decide +kernel
theorem dX12_defaults_55 : decode cX12_defaults 55 = .ok (.aload_n 0, 1) := by decide +kernel
theorem dX12_defaults_56 : decode cX12_defaults 56 = .ok (.bipush 24, 2) := by decide +kernel
theorem dX12_defaults_58 : decode cX12_defaults 58 = .ok (.bipush 100, 2) := by decide +kernel
theorem dX12_defaults_60 : decode cX12_defaults 60 = .ok (.iastore, 1) := by decide +kernel
theorem dX12_defaults_61 : decode cX12_defaults 61 = .ok (.return_, 1) := by decide +kernel
theorem dX12_copies_0 : decode cX12_copies 0 = .ok (.iconst 0, 1) := by decide +kernel
theorem dX12_copies_1 : decode cX12_copies 1 = .ok (.istore_n 2, 1) := by decide +kernel
theorem dX12_copies_2 : decode cX12_copies 2 = .ok (.iload_n 2, 1) := by decide +kernel
theorem dX12_copies_3 : decode cX12_copies 3 = .ok (.sipush 4763, 3) := by decide +kernel
theorem dX12_copies_6 : decode cX12_copies 6 = .ok (.if_icmp .ge 15, 3) := by decide +kernel
theorem dX12_copies_9 : decode cX12_copies 9 = .ok (.aload_n 1, 1) := by decide +kernel
theorem dX12_copies_10 : decode cX12_copies 10 = .ok (.iload_n 2, 1) := by decide +kernel
theorem dX12_copies_11 : decode cX12_copies 11 = .ok (.aload_n 0, 1) := by decide +kernel
theorem dX12_copies_12 : decode cX12_copies 12 = .ok (.iload_n 2, 1) := by decide +kernel
theorem dX12_copies_13 : decode cX12_copies 13 = .ok (.iaload, 1) := by decide +kernel
theorem dX12_copies_14 : decode cX12_copies 14 = .ok (.iastore, 1) := by decide +kernel
theorem dX12_copies_15 : decode cX12_copies 15 = .ok (.iinc 2 1, 3) := by decide +kernel
theorem dX12_copies_18 : decode cX12_copies 18 = .ok (.goto (-16), 3) := by decide +kernel
theorem dX12_copies_21 : decode cX12_copies 21 = .ok (.return_, 1) := by decide +kernel
theorem dX12_records_0 : decode cX12_records 0 = .ok (.aload_n 0, 1) := by decide +kernel
theorem dX12_records_1 : decode cX12_records 1 = .ok (.getfield 50, 3) := by decide +kernel
theorem dX12_records_4 : decode cX12_records 4 = .ok (.bipush 10, 2) := by decide +kernel
theorem dX12_records_6 : decode cX12_records 6 = .ok (.if_icmp .ne 43, 3) := by decide +kernel
theorem dX12_records_9 : decode cX12_records 9 = .ok (.iconst 0, 1) := by decide +kernel
theorem dX12_records_10 : decode cX12_records 10 = .ok (.istore_n 1, 1) := by decide +kernel
theorem dX12_records_11 : decode cX12_records 11 = .ok (.iload_n 1, 1) := by decide +kernel
theorem dX12_records_12 : decode cX12_records 12 = .ok (.ldc 53, 2) := by decide +kernel
theorem dX12_records_14 : decode cX12_records 14 = .ok (.if_icmp .ge 25, 3) := by decide +kernel
theorem dX12_records_17 : decode cX12_records 17 = .ok (.aload_n 0, 1) := by decide +kernel
theorem dX12_records_18 : decode cX12_records 18 = .ok (.getfield 20, 3) := by decide +kernel
theorem dX12_records_21 : decode cX12_records 21 = .ok (.iload_n 1, 1) := by decide +kernel
theorem dX12_records_22 : decode cX12_records 22 = .ok (.aload_n 0, 1) := by decide +kernel
theorem dX12_records_23 : decode cX12_records 23 = .ok (.getfield 20, 3) := by decide +kernel
theorem dX12_records_26 : decode cX12_records 26 = .ok (.iload_n 1, 1) := by decide +kernel
theorem dX12_records_27 : decode cX12_records 27 = .ok (.sipush 4763, 3) := by decide +kernel
theorem dX12_records_30 : decode cX12_records 30 = .ok (.iadd, 1) := by decide +kernel
theorem dX12_records_31 : decode cX12_records 31 = .ok (.iaload, 1) := by decide +kernel
theorem dX12_records_32 : decode cX12_records 32 = .ok (.iastore, 1) := by decide +kernel
theorem dX12_records_33 : decode cX12_records 33 = .ok (.iinc 1 1, 3) := by decide +kernel
theorem dX12_records_36 : decode cX12_records 36 = .ok (.goto (-25), 3) := by decide +kernel
theorem dX12_records_39 : decode cX12_records 39 = .ok (.aload_n 0, 1) := by decide +kernel
theorem dX12_records_40 : decode cX12_records 40 = .ok (.dup, 1) := by decide +kernel
theorem dX12_records_41 : decode cX12_records 41 = .ok (.getfield 50, 3) := by decide +kernel
theorem dX12_records_44 : decode cX12_records 44 = .ok (.iconst 1, 1) := by decide +kernel
theorem dX12_records_45 : decode cX12_records 45 = .ok (.isub, 1) := by decide +kernel
theorem dX12_records_46 : decode cX12_records 46 = .ok (.putfield 50, 3) := by decide +kernel
theorem dX12_records_49 : decode cX12_records 49 = .ok (.iconst 0, 1) := by decide +kernel
theorem dX12_records_50 : decode cX12_records 50 = .ok (.istore_n 1, 1) := by decide +kernel
theorem dX12_records_51 : decode cX12_records 51 = .ok (.iload_n 1, 1) := by decide +kernel
theorem dX12_records_52 : decode cX12_records 52 = .ok (.sipush 4763, 3) := by decide +kernel
theorem dX12_records_55 : decode cX12_records 55 = .ok (.if_icmp .ge 30, 3) := by decide +kernel
theorem dX12_records_58 : decode cX12_records 58 = .ok (.aload_n 0, 1) := by decide +kernel
theorem dX12_records_59 : decode cX12_records 59 = .ok (.getfield 20, 3) := by decide +kernel
theorem dX12_records_62 : decode cX12_records 62 = .ok (.sipush 4763, 3) := by decide +kernel
theorem dX12_records_65 : decode cX12_records 65 = .ok (.aload_n 0, 1) := by decide +kernel
theorem dX12_records_66 : decode cX12_records 66 = .ok (.getfield 50, 3) := by decide +kernel
theorem dX12_records_69 : decode cX12_records 69 = .ok (.imul, 1) := by decide +kernel
theorem dX12_records_70 : decode cX12_records 70 = .ok (.iload_n 1, 1) := by decide +kernel
theorem dX12_records_71 : decode cX12_records 71 = .ok (.iadd, 1) := by decide +kernel
theorem dX12_records_72 : decode cX12_records 72 = .ok (.aload_n 0, 1) := by decide +kernel
theorem dX12_records_73 : decode cX12_records 73 = .ok (.getfield 7, 3) := by decide +kernel
theorem dX12_records_76 : decode cX12_records 76 = .ok (.iload_n 1, 1) := by decide +kernel
theorem dX12_records_77 : decode cX12_records 77 = .ok (.iaload, 1) := by decide +kernel
theorem dX12_records_78 : decode cX12_records 78 = .ok (.iastore, 1) := by decide +kernel
theorem dX12_records_79 : decode cX12_records 79 = .ok (.iinc 1 1, 3) := by decide +kernel
theorem dX12_records_82 : decode cX12_records 82 = .ok (.goto (-31), 3) := by decide +kernel
theorem dX12_records_85 : decode cX12_records 85 = .ok (.aload_n 0, 1) := by decide +kernel
theorem dX12_records_86 : decode cX12_records 86 = .ok (.dup, 1) := by decide +kernel
theorem dX12_records_87 : decode cX12_records 87 = .ok (.getfield 50, 3) := by decide +kernel
theorem dX12_records_90 : decode cX12_records 90 = .ok (.iconst 1, 1) := by decide +kernel
theorem dX12_records_91 : decode cX12_records 91 = .ok (.iadd, 1) := by decide +kernel
theorem dX12_records_92 : decode cX12_records 92 = .ok (.putfield 50, 3) := by decide +kernel
theorem dX12_records_95 : decode cX12_records 95 = .ok (.return_, 1) := by decide +kernel
theorem dX12_isOffice_0 : decode cX12_isOffice 0 = .ok (.iload_n 0, 1) := by decide +kernel
theorem dX12_isOffice_1 : decode cX12_isOffice 1 = .ok (.ifCond .eq 8, 3) := by decide +kernel
theorem dX12_isOffice_4 : decode cX12_isOffice 4 = .ok (.iload_n 0, 1) := by decide +kernel
theorem dX12_isOffice_5 : decode cX12_isOffice 5 = .ok (.iconst 1, 1) := by decide +kernel
theorem dX12_isOffice_6 : decode cX12_isOffice 6 = .ok (.if_icmp .ne 7, 3) := by decide +kernel
theorem dX12_isOffice_9 : decode cX12_isOffice 9 = .ok (.iconst 1, 1) := by decide +kernel
theorem dX12_isOffice_10 : decode cX12_isOffice 10 = .ok (.goto 4, 3) := by decide +kernel
theorem dX12_isOffice_13 : decode cX12_isOffice 13 = .ok (.iconst 0, 1) := by decide +kernel
theorem dX12_isOffice_14 : decode cX12_isOffice 14 = .ok (.ireturn, 1) := by decide +kernel
theorem dX12_isLine_0 : decode cX12_isLine 0 = .ok (.iload_n 1, 1) := by decide +kernel
theorem dX12_isLine_1 : decode cX12_isLine 1 = .ok (.invokestatic 54, 3) := by decide +kernel
theorem dX12_isLine_4 : decode cX12_isLine 4 = .ok (.ifCond .eq 28, 3) := by decide +kernel
theorem dX12_isLine_7 : decode cX12_isLine 7 = .ok (.iload_n 2, 1) := by decide +kernel
theorem dX12_isLine_8 : decode cX12_isLine 8 = .ok (.i2l, 1) := by decide +kernel
theorem dX12_isLine_9 : decode cX12_isLine 9 = .ok (.lconst 0, 1) := by decide +kernel
theorem dX12_isLine_10 : decode cX12_isLine 10 = .ok (.aload_n 0, 1) := by decide +kernel
theorem dX12_isLine_11 : decode cX12_isLine 11 = .ok (.getfield 7, 3) := by decide +kernel
theorem dX12_isLine_14 : decode cX12_isLine 14 = .ok (.bipush 25, 2) := by decide +kernel
theorem dX12_isLine_16 : decode cX12_isLine 16 = .ok (.iload_n 1, 1) := by decide +kernel
theorem dX12_isLine_17 : decode cX12_isLine 17 = .ok (.iadd, 1) := by decide +kernel
theorem dX12_isLine_18 : decode cX12_isLine 18 = .ok (.iaload, 1) := by decide +kernel
theorem dX12_isLine_19 : decode cX12_isLine 19 = .ok (.iconst 1, 1) := by decide +kernel
theorem dX12_isLine_20 : decode cX12_isLine 20 = .ok (.isub, 1) := by decide +kernel
theorem dX12_isLine_21 : decode cX12_isLine 21 = .ok (.i2l, 1) := by decide +kernel
theorem dX12_isLine_22 : decode cX12_isLine 22 = .ok (.invokestatic 58, 3) := by decide +kernel
theorem dX12_isLine_25 : decode cX12_isLine 25 = .ok (.ifCond .eq 7, 3) := by decide +kernel
theorem dX12_isLine_28 : decode cX12_isLine 28 = .ok (.iconst 1, 1) := by decide +kernel
theorem dX12_isLine_29 : decode cX12_isLine 29 = .ok (.goto 4, 3) := by decide +kernel
theorem dX12_isLine_32 : decode cX12_isLine 32 = .ok (.iconst 0, 1) := by decide +kernel
theorem dX12_isLine_33 : decode cX12_isLine 33 = .ok (.ireturn, 1) := by decide +kernel
theorem dX12_isSender_0 : decode cX12_isSender 0 = .ok (.aload_n 0, 1) := by decide +kernel
theorem dX12_isSender_1 : decode cX12_isSender 1 = .ok (.getfield 7, 3) := by decide +kernel
theorem dX12_isSender_4 : decode cX12_isSender 4 = .ok (.bipush 6, 2) := by decide +kernel
theorem dX12_isSender_6 : decode cX12_isSender 6 = .ok (.iaload, 1) := by decide +kernel
theorem dX12_isSender_7 : decode cX12_isSender 7 = .ok (.iconst (-1), 1) := by decide +kernel
theorem dX12_isSender_8 : decode cX12_isSender 8 = .ok (.if_icmp .eq 7, 3) := by decide +kernel
theorem dX12_isSender_11 : decode cX12_isSender 11 = .ok (.iconst 1, 1) := by decide +kernel
theorem dX12_isSender_12 : decode cX12_isSender 12 = .ok (.goto 4, 3) := by decide +kernel
theorem dX12_isSender_15 : decode cX12_isSender 15 = .ok (.iconst 0, 1) := by decide +kernel
theorem dX12_isSender_16 : decode cX12_isSender 16 = .ok (.ireturn, 1) := by decide +kernel
theorem dX12_receiver_0 : decode cX12_receiver 0 = .ok (.iconst 1, 1) := by decide +kernel
theorem dX12_receiver_1 : decode cX12_receiver 1 = .ok (.aload_n 0, 1) := by decide +kernel
theorem dX12_receiver_2 : decode cX12_receiver 2 = .ok (.getfield 7, 3) := by decide +kernel
theorem dX12_receiver_5 : decode cX12_receiver 5 = .ok (.bipush 6, 2) := by decide +kernel
theorem dX12_receiver_7 : decode cX12_receiver 7 = .ok (.iaload, 1) := by decide +kernel
theorem dX12_receiver_8 : decode cX12_receiver 8 = .ok (.isub, 1) := by decide +kernel
theorem dX12_receiver_9 : decode cX12_receiver 9 = .ok (.ireturn, 1) := by decide +kernel
theorem dX12_round_0 : decode cX12_round 0 = .ok (.sipush 1000, 3) := by decide +kernel
theorem dX12_round_3 : decode cX12_round 3 = .ok (.aload_n 0, 1) := by decide +kernel
theorem dX12_round_4 : decode cX12_round 4 = .ok (.getfield 7, 3) := by decide +kernel
theorem dX12_round_7 : decode cX12_round 7 = .ok (.iconst 0, 1) := by decide +kernel
theorem dX12_round_8 : decode cX12_round 8 = .ok (.iaload, 1) := by decide +kernel
theorem dX12_round_9 : decode cX12_round 9 = .ok (.imul, 1) := by decide +kernel
theorem dX12_round_10 : decode cX12_round 10 = .ok (.ireturn, 1) := by decide +kernel
theorem dX12_within_0 : decode cX12_within 0 = .ok (.lload_n 1, 1) := by decide +kernel
theorem dX12_within_1 : decode cX12_within 1 = .ok (.aload_n 0, 1) := by decide +kernel
theorem dX12_within_2 : decode cX12_within 2 = .ok (.invokevirtual 62, 3) := by decide +kernel
theorem dX12_within_5 : decode cX12_within 5 = .ok (.i2l, 1) := by decide +kernel
theorem dX12_within_6 : decode cX12_within 6 = .ok (.lrem, 1) := by decide +kernel
theorem dX12_within_7 : decode cX12_within 7 = .ok (.l2i, 1) := by decide +kernel
theorem dX12_within_8 : decode cX12_within 8 = .ok (.istore_n 3, 1) := by decide +kernel
theorem dX12_within_9 : decode cX12_within 9 = .ok (.iload_n 3, 1) := by decide +kernel
theorem dX12_within_10 : decode cX12_within 10 = .ok (.ifCond .ge 12, 3) := by decide +kernel
theorem dX12_within_13 : decode cX12_within 13 = .ok (.iload_n 3, 1) := by decide +kernel
theorem dX12_within_14 : decode cX12_within 14 = .ok (.aload_n 0, 1) := by decide +kernel
theorem dX12_within_15 : decode cX12_within 15 = .ok (.invokevirtual 62, 3) := by decide +kernel
theorem dX12_within_18 : decode cX12_within 18 = .ok (.iadd, 1) := by decide +kernel
theorem dX12_within_19 : decode cX12_within 19 = .ok (.goto 4, 3) := by decide +kernel
theorem dX12_within_22 : decode cX12_within 22 = .ok (.iload_n 3, 1) := by decide +kernel
theorem dX12_within_23 : decode cX12_within 23 = .ok (.ireturn, 1) := by decide +kernel
theorem dX12_goesBy_0 : decode cX12_goesBy 0 = .ok (.aload_n 0, 1) := by decide +kernel
theorem dX12_goesBy_1 : decode cX12_goesBy 1 = .ok (.getfield 23, 3) := by decide +kernel
theorem dX12_goesBy_4 : decode cX12_goesBy 4 = .ok (.aload_n 0, 1) := by decide +kernel
theorem dX12_goesBy_5 : decode cX12_goesBy 5 = .ok (.getfield 66, 3) := by decide +kernel
theorem dX12_goesBy_8 : decode cX12_goesBy 8 = .ok (.iload_n 1, 1) := by decide +kernel
theorem dX12_goesBy_9 : decode cX12_goesBy 9 = .ok (.iastore, 1) := by decide +kernel
theorem dX12_goesBy_10 : decode cX12_goesBy 10 = .ok (.aload_n 0, 1) := by decide +kernel
theorem dX12_goesBy_11 : decode cX12_goesBy 11 = .ok (.dup, 1) := by decide +kernel
theorem dX12_goesBy_12 : decode cX12_goesBy 12 = .ok (.getfield 66, 3) := by decide +kernel
theorem dX12_goesBy_15 : decode cX12_goesBy 15 = .ok (.iconst 1, 1) := by decide +kernel
theorem dX12_goesBy_16 : decode cX12_goesBy 16 = .ok (.iadd, 1) := by decide +kernel
theorem dX12_goesBy_17 : decode cX12_goesBy 17 = .ok (.putfield 66, 3) := by decide +kernel
theorem dX12_goesBy_20 : decode cX12_goesBy 20 = .ok (.return_, 1) := by decide +kernel
theorem dX12_isDigit_0 : decode cX12_isDigit 0 = .ok (.iload_n 0, 1) := by decide +kernel
theorem dX12_isDigit_1 : decode cX12_isDigit 1 = .ok (.i2l, 1) := by decide +kernel
theorem dX12_isDigit_2 : decode cX12_isDigit 2 = .ok (.ldc2_w 69, 3) := by decide +kernel
theorem dX12_isDigit_5 : decode cX12_isDigit 5 = .ok (.ldc2_w 71, 3) := by decide +kernel
theorem dX12_isDigit_8 : decode cX12_isDigit 8 = .ok (.invokestatic 58, 3) := by decide +kernel
theorem dX12_isDigit_11 : decode cX12_isDigit 11 = .ok (.ireturn, 1) := by decide +kernel
theorem dX12_indexOf_0 : decode cX12_indexOf 0 = .ok (.iload_n 0, 1) := by decide +kernel
theorem dX12_indexOf_1 : decode cX12_indexOf 1 = .ok (.invokestatic 73, 3) := by decide +kernel
theorem dX12_indexOf_4 : decode cX12_indexOf 4 = .ok (.ifCond .eq 10, 3) := by decide +kernel
theorem dX12_indexOf_7 : decode cX12_indexOf 7 = .ok (.iload_n 0, 1) := by decide +kernel
theorem dX12_indexOf_8 : decode cX12_indexOf 8 = .ok (.bipush 48, 2) := by decide +kernel
theorem dX12_indexOf_10 : decode cX12_indexOf 10 = .ok (.isub, 1) := by decide +kernel
theorem dX12_indexOf_11 : decode cX12_indexOf 11 = .ok (.goto 7, 3) := by decide +kernel
theorem dX12_indexOf_14 : decode cX12_indexOf 14 = .ok (.iload_n 0, 1) := by decide +kernel
theorem dX12_indexOf_15 : decode cX12_indexOf 15 = .ok (.bipush 97, 2) := by decide +kernel
theorem dX12_indexOf_17 : decode cX12_indexOf 17 = .ok (.isub, 1) := by decide +kernel
theorem dX12_indexOf_18 : decode cX12_indexOf 18 = .ok (.ireturn, 1) := by decide +kernel
theorem dX12_lineAt_0 : decode cX12_lineAt 0 = .ok (.bipush 12, 2) := by decide +kernel
theorem dX12_lineAt_2 : decode cX12_lineAt 2 = .ok (.iload_n 1, 1) := by decide +kernel
theorem dX12_lineAt_3 : decode cX12_lineAt 3 = .ok (.imul, 1) := by decide +kernel
theorem dX12_lineAt_4 : decode cX12_lineAt 4 = .ok (.iload_n 2, 1) := by decide +kernel
theorem dX12_lineAt_5 : decode cX12_lineAt 5 = .ok (.iadd, 1) := by decide +kernel
theorem dX12_lineAt_6 : decode cX12_lineAt 6 = .ok (.ireturn, 1) := by decide +kernel
theorem dX12_finds_0 : decode cX12_finds 0 = .ok (.aload_n 0, 1) := by decide +kernel
theorem dX12_finds_1 : decode cX12_finds 1 = .ok (.iconst 0, 1) := by decide +kernel
theorem dX12_finds_2 : decode cX12_finds 2 = .ok (.putfield 66, 3) := by decide +kernel
theorem dX12_finds_5 : decode cX12_finds 5 = .ok (.iconst 0, 1) := by decide +kernel
theorem dX12_finds_6 : decode cX12_finds 6 = .ok (.istore_n 3, 1) := by decide +kernel
theorem dX12_finds_7 : decode cX12_finds 7 = .ok (.aload_n 0, 1) := by decide +kernel
theorem dX12_finds_8 : decode cX12_finds 8 = .ok (.iload_n 1, 1) := by decide +kernel
theorem dX12_finds_9 : decode cX12_finds 9 = .ok (.iload_n 2, 1) := by decide +kernel
theorem dX12_finds_10 : decode cX12_finds 10 = .ok (.invokevirtual 76, 3) := by decide +kernel
theorem dX12_finds_13 : decode cX12_finds 13 = .ok (.istore 4, 2) := by decide +kernel
theorem dX12_finds_15 : decode cX12_finds 15 = .ok (.iconst 0, 1) := by decide +kernel
theorem dX12_finds_16 : decode cX12_finds 16 = .ok (.istore 5, 2) := by decide +kernel
theorem dX12_finds_18 : decode cX12_finds 18 = .ok (.iload 5, 2) := by decide +kernel
theorem dX12_finds_20 : decode cX12_finds 20 = .ok (.aload_n 0, 1) := by decide +kernel
theorem dX12_finds_21 : decode cX12_finds 21 = .ok (.getfield 7, 3) := by decide +kernel
theorem dX12_finds_24 : decode cX12_finds 24 = .ok (.sipush 219, 3) := by decide +kernel
theorem dX12_finds_27 : decode cX12_finds 27 = .ok (.iload 4, 2) := by decide +kernel
theorem dX12_finds_29 : decode cX12_finds 29 = .ok (.iadd, 1) := by decide +kernel
theorem dX12_finds_30 : decode cX12_finds 30 = .ok (.iaload, 1) := by decide +kernel
theorem dX12_finds_31 : decode cX12_finds 31 = .ok (.if_icmp .ge 68, 3) := by decide +kernel
theorem dX12_finds_34 : decode cX12_finds 34 = .ok (.aload_n 0, 1) := by decide +kernel
theorem dX12_finds_35 : decode cX12_finds 35 = .ok (.getfield 7, 3) := by decide +kernel
theorem dX12_finds_38 : decode cX12_finds 38 = .ok (.sipush 243, 3) := by decide +kernel
theorem dX12_finds_41 : decode cX12_finds 41 = .ok (.bipush 30, 2) := by decide +kernel
theorem dX12_finds_43 : decode cX12_finds 43 = .ok (.iload 4, 2) := by decide +kernel
theorem dX12_finds_45 : decode cX12_finds 45 = .ok (.imul, 1) := by decide +kernel
theorem dX12_finds_46 : decode cX12_finds 46 = .ok (.iadd, 1) := by decide +kernel
theorem dX12_finds_47 : decode cX12_finds 47 = .ok (.iload 5, 2) := by decide +kernel
theorem dX12_finds_49 : decode cX12_finds 49 = .ok (.iadd, 1) := by decide +kernel
theorem dX12_finds_50 : decode cX12_finds 50 = .ok (.iaload, 1) := by decide +kernel
theorem dX12_finds_51 : decode cX12_finds 51 = .ok (.istore 6, 2) := by decide +kernel
theorem dX12_finds_53 : decode cX12_finds 53 = .ok (.iload 6, 2) := by decide +kernel
theorem dX12_finds_55 : decode cX12_finds 55 = .ok (.invokestatic 73, 3) := by decide +kernel
theorem dX12_finds_58 : decode cX12_finds 58 = .ok (.ifCond .eq 7, 3) := by decide +kernel
theorem dX12_finds_61 : decode cX12_finds 61 = .ok (.iconst 1, 1) := by decide +kernel
theorem dX12_finds_62 : decode cX12_finds 62 = .ok (.goto 4, 3) := by decide +kernel
theorem dX12_finds_65 : decode cX12_finds 65 = .ok (.iconst 0, 1) := by decide +kernel
theorem dX12_finds_66 : decode cX12_finds 66 = .ok (.istore 7, 2) := by decide +kernel
theorem dX12_finds_68 : decode cX12_finds 68 = .ok (.iload 7, 2) := by decide +kernel
theorem dX12_finds_70 : decode cX12_finds 70 = .ok (.iload_n 3, 1) := by decide +kernel
theorem dX12_finds_71 : decode cX12_finds 71 = .ok (.if_icmp .eq 11, 3) := by decide +kernel
theorem dX12_finds_74 : decode cX12_finds 74 = .ok (.iload 7, 2) := by decide +kernel
theorem dX12_finds_76 : decode cX12_finds 76 = .ok (.istore_n 3, 1) := by decide +kernel
theorem dX12_finds_77 : decode cX12_finds 77 = .ok (.aload_n 0, 1) := by decide +kernel
theorem dX12_finds_78 : decode cX12_finds 78 = .ok (.iload_n 3, 1) := by decide +kernel
theorem dX12_finds_79 : decode cX12_finds 79 = .ok (.invokevirtual 80, 3) := by decide +kernel
theorem dX12_finds_82 : decode cX12_finds 82 = .ok (.aload_n 0, 1) := by decide +kernel
theorem dX12_finds_83 : decode cX12_finds 83 = .ok (.iconst 2, 1) := by decide +kernel
theorem dX12_finds_84 : decode cX12_finds 84 = .ok (.iload 6, 2) := by decide +kernel
theorem dX12_finds_86 : decode cX12_finds 86 = .ok (.invokestatic 84, 3) := by decide +kernel
theorem dX12_finds_89 : decode cX12_finds 89 = .ok (.iadd, 1) := by decide +kernel
theorem dX12_finds_90 : decode cX12_finds 90 = .ok (.invokevirtual 80, 3) := by decide +kernel
theorem dX12_finds_93 : decode cX12_finds 93 = .ok (.iinc 5 1, 3) := by decide +kernel
theorem dX12_finds_96 : decode cX12_finds 96 = .ok (.goto (-78), 3) := by decide +kernel
theorem dX12_finds_99 : decode cX12_finds 99 = .ok (.aload_n 0, 1) := by decide +kernel
theorem dX12_finds_100 : decode cX12_finds 100 = .ok (.getfield 66, 3) := by decide +kernel
theorem dX12_finds_103 : decode cX12_finds 103 = .ok (.istore 5, 2) := by decide +kernel
theorem dX12_finds_105 : decode cX12_finds 105 = .ok (.aload_n 0, 1) := by decide +kernel
theorem dX12_finds_106 : decode cX12_finds 106 = .ok (.iload_n 3, 1) := by decide +kernel
theorem dX12_finds_107 : decode cX12_finds 107 = .ok (.invokevirtual 80, 3) := by decide +kernel
theorem dX12_finds_110 : decode cX12_finds 110 = .ok (.aload_n 0, 1) := by decide +kernel
theorem dX12_finds_111 : decode cX12_finds 111 = .ok (.iconst 2, 1) := by decide +kernel
theorem dX12_finds_112 : decode cX12_finds 112 = .ok (.iload 5, 2) := by decide +kernel
theorem dX12_finds_114 : decode cX12_finds 114 = .ok (.aload_n 0, 1) := by decide +kernel
theorem dX12_finds_115 : decode cX12_finds 115 = .ok (.getfield 7, 3) := by decide +kernel
theorem dX12_finds_118 : decode cX12_finds 118 = .ok (.iconst 0, 1) := by decide +kernel
theorem dX12_finds_119 : decode cX12_finds 119 = .ok (.iaload, 1) := by decide +kernel
theorem dX12_finds_120 : decode cX12_finds 120 = .ok (.iconst 2, 1) := by decide +kernel
theorem dX12_finds_121 : decode cX12_finds 121 = .ok (.isub, 1) := by decide +kernel
theorem dX12_finds_122 : decode cX12_finds 122 = .ok (.irem, 1) := by decide +kernel
theorem dX12_finds_123 : decode cX12_finds 123 = .ok (.iadd, 1) := by decide +kernel
theorem dX12_finds_124 : decode cX12_finds 124 = .ok (.invokevirtual 80, 3) := by decide +kernel
theorem dX12_finds_127 : decode cX12_finds 127 = .ok (.return_, 1) := by decide +kernel
theorem dX12_findsOwn_0 : decode cX12_findsOwn 0 = .ok (.aload_n 0, 1) := by decide +kernel
theorem dX12_findsOwn_1 : decode cX12_findsOwn 1 = .ok (.aload_n 0, 1) := by decide +kernel
theorem dX12_findsOwn_2 : decode cX12_findsOwn 2 = .ok (.getfield 7, 3) := by decide +kernel
theorem dX12_findsOwn_5 : decode cX12_findsOwn 5 = .ok (.bipush 6, 2) := by decide +kernel
theorem dX12_findsOwn_7 : decode cX12_findsOwn 7 = .ok (.iaload, 1) := by decide +kernel
theorem dX12_findsOwn_8 : decode cX12_findsOwn 8 = .ok (.aload_n 0, 1) := by decide +kernel
theorem dX12_findsOwn_9 : decode cX12_findsOwn 9 = .ok (.getfield 7, 3) := by decide +kernel
theorem dX12_findsOwn_12 : decode cX12_findsOwn 12 = .ok (.bipush 27, 2) := by decide +kernel
theorem dX12_findsOwn_14 : decode cX12_findsOwn 14 = .ok (.aload_n 0, 1) := by decide +kernel
theorem dX12_findsOwn_15 : decode cX12_findsOwn 15 = .ok (.getfield 7, 3) := by decide +kernel
theorem dX12_findsOwn_18 : decode cX12_findsOwn 18 = .ok (.bipush 6, 2) := by decide +kernel
theorem dX12_findsOwn_20 : decode cX12_findsOwn 20 = .ok (.iaload, 1) := by decide +kernel
theorem dX12_findsOwn_21 : decode cX12_findsOwn 21 = .ok (.iadd, 1) := by decide +kernel
theorem dX12_findsOwn_22 : decode cX12_findsOwn 22 = .ok (.iaload, 1) := by decide +kernel
theorem dX12_findsOwn_23 : decode cX12_findsOwn 23 = .ok (.invokevirtual 88, 3) := by decide +kernel
theorem dX12_findsOwn_26 : decode cX12_findsOwn 26 = .ok (.return_, 1) := by decide +kernel
theorem dX12_passes_0 : decode cX12_passes 0 = .ok (.aload_n 0, 1) := by decide +kernel
theorem dX12_passes_1 : decode cX12_passes 1 = .ok (.ldc2_w 92, 3) := by decide +kernel
theorem dX12_passes_4 : decode cX12_passes 4 = .ok (.iload_n 3, 1) := by decide +kernel
theorem dX12_passes_5 : decode cX12_passes 5 = .ok (.i2l, 1) := by decide +kernel
theorem dX12_passes_6 : decode cX12_passes 6 = .ok (.lmul, 1) := by decide +kernel
theorem dX12_passes_7 : decode cX12_passes 7 = .ok (.iload_n 1, 1) := by decide +kernel
theorem dX12_passes_8 : decode cX12_passes 8 = .ok (.i2l, 1) := by decide +kernel
theorem dX12_passes_9 : decode cX12_passes 9 = .ok (.lsub, 1) := by decide +kernel
theorem dX12_passes_10 : decode cX12_passes 10 = .ok (.invokevirtual 94, 3) := by decide +kernel
theorem dX12_passes_13 : decode cX12_passes 13 = .ok (.istore 4, 2) := by decide +kernel
theorem dX12_passes_15 : decode cX12_passes 15 = .ok (.iload 4, 2) := by decide +kernel
theorem dX12_passes_17 : decode cX12_passes 17 = .ok (.ifCond .ne 9, 3) := by decide +kernel
theorem dX12_passes_20 : decode cX12_passes 20 = .ok (.aload_n 0, 1) := by decide +kernel
theorem dX12_passes_21 : decode cX12_passes 21 = .ok (.invokevirtual 62, 3) := by decide +kernel
theorem dX12_passes_24 : decode cX12_passes 24 = .ok (.istore 4, 2) := by decide +kernel
theorem dX12_passes_26 : decode cX12_passes 26 = .ok (.iload 4, 2) := by decide +kernel
theorem dX12_passes_28 : decode cX12_passes 28 = .ok (.iload_n 2, 1) := by decide +kernel
theorem dX12_passes_29 : decode cX12_passes 29 = .ok (.iadd, 1) := by decide +kernel
theorem dX12_passes_30 : decode cX12_passes 30 = .ok (.iconst 1, 1) := by decide +kernel
theorem dX12_passes_31 : decode cX12_passes 31 = .ok (.isub, 1) := by decide +kernel
theorem dX12_passes_32 : decode cX12_passes 32 = .ok (.iload_n 2, 1) := by decide +kernel
theorem dX12_passes_33 : decode cX12_passes 33 = .ok (.idiv, 1) := by decide +kernel
theorem dX12_passes_34 : decode cX12_passes 34 = .ok (.ireturn, 1) := by decide +kernel
theorem dX12_ticksOf_0 : decode cX12_ticksOf 0 = .ok (.aload_n 0, 1) := by decide +kernel
theorem dX12_ticksOf_1 : decode cX12_ticksOf 1 = .ok (.iload_n 1, 1) := by decide +kernel
theorem dX12_ticksOf_2 : decode cX12_ticksOf 2 = .ok (.iload_n 2, 1) := by decide +kernel
theorem dX12_ticksOf_3 : decode cX12_ticksOf 3 = .ok (.invokevirtual 88, 3) := by decide +kernel
theorem dX12_ticksOf_6 : decode cX12_ticksOf 6 = .ok (.aload_n 0, 1) := by decide +kernel
theorem dX12_ticksOf_7 : decode cX12_ticksOf 7 = .ok (.getfield 7, 3) := by decide +kernel
theorem dX12_ticksOf_10 : decode cX12_ticksOf 10 = .ok (.bipush 21, 2) := by decide +kernel
theorem dX12_ticksOf_12 : decode cX12_ticksOf 12 = .ok (.iload_n 1, 1) := by decide +kernel
theorem dX12_ticksOf_13 : decode cX12_ticksOf 13 = .ok (.iadd, 1) := by decide +kernel
theorem dX12_ticksOf_14 : decode cX12_ticksOf 14 = .ok (.iaload, 1) := by decide +kernel
theorem dX12_ticksOf_15 : decode cX12_ticksOf 15 = .ok (.istore_n 3, 1) := by decide +kernel
theorem dX12_ticksOf_16 : decode cX12_ticksOf 16 = .ok (.aload_n 0, 1) := by decide +kernel
theorem dX12_ticksOf_17 : decode cX12_ticksOf 17 = .ok (.getfield 7, 3) := by decide +kernel
theorem dX12_ticksOf_20 : decode cX12_ticksOf 20 = .ok (.bipush 23, 2) := by decide +kernel
theorem dX12_ticksOf_22 : decode cX12_ticksOf 22 = .ok (.iload_n 1, 1) := by decide +kernel
theorem dX12_ticksOf_23 : decode cX12_ticksOf 23 = .ok (.iadd, 1) := by decide +kernel
theorem dX12_ticksOf_24 : decode cX12_ticksOf 24 = .ok (.iaload, 1) := by decide +kernel
theorem dX12_ticksOf_25 : decode cX12_ticksOf 25 = .ok (.istore 4, 2) := by decide +kernel
theorem dX12_ticksOf_27 : decode cX12_ticksOf 27 = .ok (.iconst 0, 1) := by decide +kernel
theorem dX12_ticksOf_28 : decode cX12_ticksOf 28 = .ok (.istore 5, 2) := by decide +kernel
theorem dX12_ticksOf_30 : decode cX12_ticksOf 30 = .ok (.iconst 0, 1) := by decide +kernel
theorem dX12_ticksOf_31 : decode cX12_ticksOf 31 = .ok (.istore 6, 2) := by decide +kernel
theorem dX12_ticksOf_33 : decode cX12_ticksOf 33 = .ok (.iload 6, 2) := by decide +kernel
theorem dX12_ticksOf_35 : decode cX12_ticksOf 35 = .ok (.aload_n 0, 1) := by decide +kernel
theorem dX12_ticksOf_36 : decode cX12_ticksOf 36 = .ok (.getfield 66, 3) := by decide +kernel
theorem dX12_ticksOf_39 : decode cX12_ticksOf 39 = .ok (.if_icmp .ge 47, 3) := by decide +kernel
theorem dX12_ticksOf_42 : decode cX12_ticksOf 42 = .ok (.aload_n 0, 1) := by decide +kernel
theorem dX12_ticksOf_43 : decode cX12_ticksOf 43 = .ok (.iload_n 3, 1) := by decide +kernel
theorem dX12_ticksOf_44 : decode cX12_ticksOf 44 = .ok (.iload 4, 2) := by decide +kernel
theorem dX12_ticksOf_46 : decode cX12_ticksOf 46 = .ok (.aload_n 0, 1) := by decide +kernel
theorem dX12_ticksOf_47 : decode cX12_ticksOf 47 = .ok (.getfield 23, 3) := by decide +kernel
theorem dX12_ticksOf_50 : decode cX12_ticksOf 50 = .ok (.iload 6, 2) := by decide +kernel
theorem dX12_ticksOf_52 : decode cX12_ticksOf 52 = .ok (.iaload, 1) := by decide +kernel
theorem dX12_ticksOf_53 : decode cX12_ticksOf 53 = .ok (.invokevirtual 98, 3) := by decide +kernel
theorem dX12_ticksOf_56 : decode cX12_ticksOf 56 = .ok (.istore 7, 2) := by decide +kernel
theorem dX12_ticksOf_58 : decode cX12_ticksOf 58 = .ok (.iload 5, 2) := by decide +kernel
theorem dX12_ticksOf_60 : decode cX12_ticksOf 60 = .ok (.iload 7, 2) := by decide +kernel
theorem dX12_ticksOf_62 : decode cX12_ticksOf 62 = .ok (.iadd, 1) := by decide +kernel
theorem dX12_ticksOf_63 : decode cX12_ticksOf 63 = .ok (.istore 5, 2) := by decide +kernel
theorem dX12_ticksOf_65 : decode cX12_ticksOf 65 = .ok (.aload_n 0, 1) := by decide +kernel
theorem dX12_ticksOf_66 : decode cX12_ticksOf 66 = .ok (.iload_n 3, 1) := by decide +kernel
theorem dX12_ticksOf_67 : decode cX12_ticksOf 67 = .ok (.i2l, 1) := by decide +kernel
theorem dX12_ticksOf_68 : decode cX12_ticksOf 68 = .ok (.iload 7, 2) := by decide +kernel
theorem dX12_ticksOf_70 : decode cX12_ticksOf 70 = .ok (.i2l, 1) := by decide +kernel
theorem dX12_ticksOf_71 : decode cX12_ticksOf 71 = .ok (.iload 4, 2) := by decide +kernel
theorem dX12_ticksOf_73 : decode cX12_ticksOf 73 = .ok (.i2l, 1) := by decide +kernel
theorem dX12_ticksOf_74 : decode cX12_ticksOf 74 = .ok (.lmul, 1) := by decide +kernel
theorem dX12_ticksOf_75 : decode cX12_ticksOf 75 = .ok (.ladd, 1) := by decide +kernel
theorem dX12_ticksOf_76 : decode cX12_ticksOf 76 = .ok (.invokevirtual 94, 3) := by decide +kernel
theorem dX12_ticksOf_79 : decode cX12_ticksOf 79 = .ok (.istore_n 3, 1) := by decide +kernel
theorem dX12_ticksOf_80 : decode cX12_ticksOf 80 = .ok (.iinc 6 1, 3) := by decide +kernel
theorem dX12_ticksOf_83 : decode cX12_ticksOf 83 = .ok (.goto (-50), 3) := by decide +kernel
theorem dX12_ticksOf_86 : decode cX12_ticksOf 86 = .ok (.iload 5, 2) := by decide +kernel
theorem dX12_ticksOf_88 : decode cX12_ticksOf 88 = .ok (.ireturn, 1) := by decide +kernel
theorem dX12_notes_0 : decode cX12_notes 0 = .ok (.aload_n 0, 1) := by decide +kernel
theorem dX12_notes_1 : decode cX12_notes 1 = .ok (.getfield 7, 3) := by decide +kernel
theorem dX12_notes_4 : decode cX12_notes 4 = .ok (.bipush 18, 2) := by decide +kernel
theorem dX12_notes_6 : decode cX12_notes 6 = .ok (.iaload, 1) := by decide +kernel
theorem dX12_notes_7 : decode cX12_notes 7 = .ok (.bipush 40, 2) := by decide +kernel
theorem dX12_notes_9 : decode cX12_notes 9 = .ok (.if_icmp .ne 48, 3) := by decide +kernel
theorem dX12_notes_12 : decode cX12_notes 12 = .ok (.iconst 0, 1) := by decide +kernel
theorem dX12_notes_13 : decode cX12_notes 13 = .ok (.istore_n 3, 1) := by decide +kernel
theorem dX12_notes_14 : decode cX12_notes 14 = .ok (.iload_n 3, 1) := by decide +kernel
theorem dX12_notes_15 : decode cX12_notes 15 = .ok (.bipush 117, 2) := by decide +kernel
theorem dX12_notes_17 : decode cX12_notes 17 = .ok (.if_icmp .ge 29, 3) := by decide +kernel
theorem dX12_notes_20 : decode cX12_notes 20 = .ok (.aload_n 0, 1) := by decide +kernel
theorem dX12_notes_21 : decode cX12_notes 21 = .ok (.getfield 7, 3) := by decide +kernel
theorem dX12_notes_24 : decode cX12_notes 24 = .ok (.bipush 99, 2) := by decide +kernel
theorem dX12_notes_26 : decode cX12_notes 26 = .ok (.iload_n 3, 1) := by decide +kernel
theorem dX12_notes_27 : decode cX12_notes 27 = .ok (.iadd, 1) := by decide +kernel
theorem dX12_notes_28 : decode cX12_notes 28 = .ok (.aload_n 0, 1) := by decide +kernel
theorem dX12_notes_29 : decode cX12_notes 29 = .ok (.getfield 7, 3) := by decide +kernel
theorem dX12_notes_32 : decode cX12_notes 32 = .ok (.bipush 99, 2) := by decide +kernel
theorem dX12_notes_34 : decode cX12_notes 34 = .ok (.iload_n 3, 1) := by decide +kernel
theorem dX12_notes_35 : decode cX12_notes 35 = .ok (.iadd, 1) := by decide +kernel
theorem dX12_notes_36 : decode cX12_notes 36 = .ok (.iconst 3, 1) := by decide +kernel
theorem dX12_notes_37 : decode cX12_notes 37 = .ok (.iadd, 1) := by decide +kernel
theorem dX12_notes_38 : decode cX12_notes 38 = .ok (.iaload, 1) := by decide +kernel
theorem dX12_notes_39 : decode cX12_notes 39 = .ok (.iastore, 1) := by decide +kernel
theorem dX12_notes_40 : decode cX12_notes 40 = .ok (.iinc 3 1, 3) := by decide +kernel
theorem dX12_notes_43 : decode cX12_notes 43 = .ok (.goto (-29), 3) := by decide +kernel
theorem dX12_notes_46 : decode cX12_notes 46 = .ok (.aload_n 0, 1) := by decide +kernel
theorem dX12_notes_47 : decode cX12_notes 47 = .ok (.getfield 7, 3) := by decide +kernel
theorem dX12_notes_50 : decode cX12_notes 50 = .ok (.bipush 18, 2) := by decide +kernel
theorem dX12_notes_52 : decode cX12_notes 52 = .ok (.dup2, 1) := by decide +kernel
theorem dX12_notes_53 : decode cX12_notes 53 = .ok (.iaload, 1) := by decide +kernel
theorem dX12_notes_54 : decode cX12_notes 54 = .ok (.iconst 1, 1) := by decide +kernel
theorem dX12_notes_55 : decode cX12_notes 55 = .ok (.isub, 1) := by decide +kernel
theorem dX12_notes_56 : decode cX12_notes 56 = .ok (.iastore, 1) := by decide +kernel
theorem dX12_notes_57 : decode cX12_notes 57 = .ok (.bipush 99, 2) := by decide +kernel
theorem dX12_notes_59 : decode cX12_notes 59 = .ok (.iconst 3, 1) := by decide +kernel
theorem dX12_notes_60 : decode cX12_notes 60 = .ok (.aload_n 0, 1) := by decide +kernel
theorem dX12_notes_61 : decode cX12_notes 61 = .ok (.getfield 7, 3) := by decide +kernel
theorem dX12_notes_64 : decode cX12_notes 64 = .ok (.bipush 18, 2) := by decide +kernel
theorem dX12_notes_66 : decode cX12_notes 66 = .ok (.iaload, 1) := by decide +kernel
theorem dX12_notes_67 : decode cX12_notes 67 = .ok (.imul, 1) := by decide +kernel
theorem dX12_notes_68 : decode cX12_notes 68 = .ok (.iadd, 1) := by decide +kernel
theorem dX12_notes_69 : decode cX12_notes 69 = .ok (.istore_n 3, 1) := by decide +kernel
theorem dX12_notes_70 : decode cX12_notes 70 = .ok (.aload_n 0, 1) := by decide +kernel
theorem dX12_notes_71 : decode cX12_notes 71 = .ok (.getfield 7, 3) := by decide +kernel
theorem dX12_notes_74 : decode cX12_notes 74 = .ok (.iload_n 3, 1) := by decide +kernel
theorem dX12_notes_75 : decode cX12_notes 75 = .ok (.aload_n 0, 1) := by decide +kernel
theorem dX12_notes_76 : decode cX12_notes 76 = .ok (.getfield 7, 3) := by decide +kernel
theorem dX12_notes_79 : decode cX12_notes 79 = .ok (.iconst 5, 1) := by decide +kernel
theorem dX12_notes_80 : decode cX12_notes 80 = .ok (.iaload, 1) := by decide +kernel
theorem dX12_notes_81 : decode cX12_notes 81 = .ok (.iastore, 1) := by decide +kernel
theorem dX12_notes_82 : decode cX12_notes 82 = .ok (.aload_n 0, 1) := by decide +kernel
theorem dX12_notes_83 : decode cX12_notes 83 = .ok (.getfield 7, 3) := by decide +kernel
theorem dX12_notes_86 : decode cX12_notes 86 = .ok (.iload_n 3, 1) := by decide +kernel
theorem dX12_notes_87 : decode cX12_notes 87 = .ok (.iconst 1, 1) := by decide +kernel
theorem dX12_notes_88 : decode cX12_notes 88 = .ok (.iadd, 1) := by decide +kernel
theorem dX12_notes_89 : decode cX12_notes 89 = .ok (.iload_n 1, 1) := by decide +kernel
theorem dX12_notes_90 : decode cX12_notes 90 = .ok (.iastore, 1) := by decide +kernel
theorem dX12_notes_91 : decode cX12_notes 91 = .ok (.aload_n 0, 1) := by decide +kernel
theorem dX12_notes_92 : decode cX12_notes 92 = .ok (.getfield 7, 3) := by decide +kernel
theorem dX12_notes_95 : decode cX12_notes 95 = .ok (.iload_n 3, 1) := by decide +kernel
theorem dX12_notes_96 : decode cX12_notes 96 = .ok (.iconst 2, 1) := by decide +kernel
theorem dX12_notes_97 : decode cX12_notes 97 = .ok (.iadd, 1) := by decide +kernel
theorem dX12_notes_98 : decode cX12_notes 98 = .ok (.iload_n 2, 1) := by decide +kernel
theorem dX12_notes_99 : decode cX12_notes 99 = .ok (.iastore, 1) := by decide +kernel
theorem dX12_notes_100 : decode cX12_notes 100 = .ok (.aload_n 0, 1) := by decide +kernel
theorem dX12_notes_101 : decode cX12_notes 101 = .ok (.getfield 7, 3) := by decide +kernel
theorem dX12_notes_104 : decode cX12_notes 104 = .ok (.bipush 18, 2) := by decide +kernel
theorem dX12_notes_106 : decode cX12_notes 106 = .ok (.dup2, 1) := by decide +kernel
theorem dX12_notes_107 : decode cX12_notes 107 = .ok (.iaload, 1) := by decide +kernel
theorem dX12_notes_108 : decode cX12_notes 108 = .ok (.iconst 1, 1) := by decide +kernel
theorem dX12_notes_109 : decode cX12_notes 109 = .ok (.iadd, 1) := by decide +kernel
theorem dX12_notes_110 : decode cX12_notes 110 = .ok (.iastore, 1) := by decide +kernel
theorem dX12_notes_111 : decode cX12_notes 111 = .ok (.return_, 1) := by decide +kernel
theorem dX12_sends_0 : decode cX12_sends 0 = .ok (.sipush 2963, 3) := by decide +kernel
theorem dX12_sends_3 : decode cX12_sends 3 = .ok (.iconst 3, 1) := by decide +kernel
theorem dX12_sends_4 : decode cX12_sends 4 = .ok (.aload_n 0, 1) := by decide +kernel
theorem dX12_sends_5 : decode cX12_sends 5 = .ok (.getfield 7, 3) := by decide +kernel
theorem dX12_sends_8 : decode cX12_sends 8 = .ok (.bipush 19, 2) := by decide +kernel
theorem dX12_sends_10 : decode cX12_sends 10 = .ok (.iaload, 1) := by decide +kernel
theorem dX12_sends_11 : decode cX12_sends 11 = .ok (.imul, 1) := by decide +kernel
theorem dX12_sends_12 : decode cX12_sends 12 = .ok (.iadd, 1) := by decide +kernel
theorem dX12_sends_13 : decode cX12_sends 13 = .ok (.istore_n 3, 1) := by decide +kernel
theorem dX12_sends_14 : decode cX12_sends 14 = .ok (.aload_n 0, 1) := by decide +kernel
theorem dX12_sends_15 : decode cX12_sends 15 = .ok (.getfield 7, 3) := by decide +kernel
theorem dX12_sends_18 : decode cX12_sends 18 = .ok (.iload_n 3, 1) := by decide +kernel
theorem dX12_sends_19 : decode cX12_sends 19 = .ok (.aload_n 0, 1) := by decide +kernel
theorem dX12_sends_20 : decode cX12_sends 20 = .ok (.getfield 7, 3) := by decide +kernel
theorem dX12_sends_23 : decode cX12_sends 23 = .ok (.iconst 5, 1) := by decide +kernel
theorem dX12_sends_24 : decode cX12_sends 24 = .ok (.iaload, 1) := by decide +kernel
theorem dX12_sends_25 : decode cX12_sends 25 = .ok (.aload_n 0, 1) := by decide +kernel
theorem dX12_sends_26 : decode cX12_sends 26 = .ok (.getfield 7, 3) := by decide +kernel
theorem dX12_sends_29 : decode cX12_sends 29 = .ok (.iconst 1, 1) := by decide +kernel
theorem dX12_sends_30 : decode cX12_sends 30 = .ok (.iaload, 1) := by decide +kernel
theorem dX12_sends_31 : decode cX12_sends 31 = .ok (.iadd, 1) := by decide +kernel
theorem dX12_sends_32 : decode cX12_sends 32 = .ok (.iastore, 1) := by decide +kernel
theorem dX12_sends_33 : decode cX12_sends 33 = .ok (.aload_n 0, 1) := by decide +kernel
theorem dX12_sends_34 : decode cX12_sends 34 = .ok (.getfield 7, 3) := by decide +kernel
theorem dX12_sends_37 : decode cX12_sends 37 = .ok (.iload_n 3, 1) := by decide +kernel
theorem dX12_sends_38 : decode cX12_sends 38 = .ok (.iconst 1, 1) := by decide +kernel
theorem dX12_sends_39 : decode cX12_sends 39 = .ok (.iadd, 1) := by decide +kernel
theorem dX12_sends_40 : decode cX12_sends 40 = .ok (.iload_n 1, 1) := by decide +kernel
theorem dX12_sends_41 : decode cX12_sends 41 = .ok (.iastore, 1) := by decide +kernel
theorem dX12_sends_42 : decode cX12_sends 42 = .ok (.aload_n 0, 1) := by decide +kernel
theorem dX12_sends_43 : decode cX12_sends 43 = .ok (.getfield 7, 3) := by decide +kernel
theorem dX12_sends_46 : decode cX12_sends 46 = .ok (.iload_n 3, 1) := by decide +kernel
theorem dX12_sends_47 : decode cX12_sends 47 = .ok (.iconst 2, 1) := by decide +kernel
theorem dX12_sends_48 : decode cX12_sends 48 = .ok (.iadd, 1) := by decide +kernel
theorem dX12_sends_49 : decode cX12_sends 49 = .ok (.iload_n 2, 1) := by decide +kernel
theorem dX12_sends_50 : decode cX12_sends 50 = .ok (.iastore, 1) := by decide +kernel
theorem dX12_sends_51 : decode cX12_sends 51 = .ok (.aload_n 0, 1) := by decide +kernel
theorem dX12_sends_52 : decode cX12_sends 52 = .ok (.getfield 7, 3) := by decide +kernel
theorem dX12_sends_55 : decode cX12_sends 55 = .ok (.bipush 19, 2) := by decide +kernel
theorem dX12_sends_57 : decode cX12_sends 57 = .ok (.dup2, 1) := by decide +kernel
theorem dX12_sends_58 : decode cX12_sends 58 = .ok (.iaload, 1) := by decide +kernel
theorem dX12_sends_59 : decode cX12_sends 59 = .ok (.iconst 1, 1) := by decide +kernel
theorem dX12_sends_60 : decode cX12_sends 60 = .ok (.iadd, 1) := by decide +kernel
theorem dX12_sends_61 : decode cX12_sends 61 = .ok (.iastore, 1) := by decide +kernel
theorem dX12_sends_62 : decode cX12_sends 62 = .ok (.return_, 1) := by decide +kernel
theorem dX12_clears_0 : decode cX12_clears 0 = .ok (.aload_n 0, 1) := by decide +kernel
theorem dX12_clears_1 : decode cX12_clears 1 = .ok (.getfield 7, 3) := by decide +kernel
theorem dX12_clears_4 : decode cX12_clears 4 = .ok (.bipush 11, 2) := by decide +kernel
theorem dX12_clears_6 : decode cX12_clears 6 = .ok (.iconst 0, 1) := by decide +kernel
theorem dX12_clears_7 : decode cX12_clears 7 = .ok (.iastore, 1) := by decide +kernel
theorem dX12_clears_8 : decode cX12_clears 8 = .ok (.aload_n 0, 1) := by decide +kernel
theorem dX12_clears_9 : decode cX12_clears 9 = .ok (.getfield 7, 3) := by decide +kernel
theorem dX12_clears_12 : decode cX12_clears 12 = .ok (.bipush 12, 2) := by decide +kernel
theorem dX12_clears_14 : decode cX12_clears 14 = .ok (.iconst 0, 1) := by decide +kernel
theorem dX12_clears_15 : decode cX12_clears 15 = .ok (.iastore, 1) := by decide +kernel
theorem dX12_clears_16 : decode cX12_clears 16 = .ok (.aload_n 0, 1) := by decide +kernel
theorem dX12_clears_17 : decode cX12_clears 17 = .ok (.getfield 7, 3) := by decide +kernel
theorem dX12_clears_20 : decode cX12_clears 20 = .ok (.bipush 13, 2) := by decide +kernel
theorem dX12_clears_22 : decode cX12_clears 22 = .ok (.iconst 0, 1) := by decide +kernel
theorem dX12_clears_23 : decode cX12_clears 23 = .ok (.iastore, 1) := by decide +kernel
theorem dX12_clears_24 : decode cX12_clears 24 = .ok (.aload_n 0, 1) := by decide +kernel
theorem dX12_clears_25 : decode cX12_clears 25 = .ok (.getfield 7, 3) := by decide +kernel
theorem dX12_clears_28 : decode cX12_clears 28 = .ok (.bipush 14, 2) := by decide +kernel
theorem dX12_clears_30 : decode cX12_clears 30 = .ok (.iconst 0, 1) := by decide +kernel
theorem dX12_clears_31 : decode cX12_clears 31 = .ok (.iastore, 1) := by decide +kernel
theorem dX12_clears_32 : decode cX12_clears 32 = .ok (.return_, 1) := by decide +kernel
theorem dX12_ends_0 : decode cX12_ends 0 = .ok (.aload_n 0, 1) := by decide +kernel
theorem dX12_ends_1 : decode cX12_ends 1 = .ok (.getfield 7, 3) := by decide +kernel
theorem dX12_ends_4 : decode cX12_ends 4 = .ok (.bipush 6, 2) := by decide +kernel
theorem dX12_ends_6 : decode cX12_ends 6 = .ok (.iconst (-1), 1) := by decide +kernel
theorem dX12_ends_7 : decode cX12_ends 7 = .ok (.iastore, 1) := by decide +kernel
theorem dX12_ends_8 : decode cX12_ends 8 = .ok (.aload_n 0, 1) := by decide +kernel
theorem dX12_ends_9 : decode cX12_ends 9 = .ok (.getfield 7, 3) := by decide +kernel
theorem dX12_ends_12 : decode cX12_ends 12 = .ok (.bipush 7, 2) := by decide +kernel
theorem dX12_ends_14 : decode cX12_ends 14 = .ok (.iconst 0, 1) := by decide +kernel
theorem dX12_ends_15 : decode cX12_ends 15 = .ok (.iastore, 1) := by decide +kernel
theorem dX12_ends_16 : decode cX12_ends 16 = .ok (.aload_n 0, 1) := by decide +kernel
theorem dX12_ends_17 : decode cX12_ends 17 = .ok (.getfield 7, 3) := by decide +kernel
theorem dX12_ends_20 : decode cX12_ends 20 = .ok (.bipush 9, 2) := by decide +kernel
theorem dX12_ends_22 : decode cX12_ends 22 = .ok (.iconst 0, 1) := by decide +kernel
theorem dX12_ends_23 : decode cX12_ends 23 = .ok (.iastore, 1) := by decide +kernel
theorem dX12_ends_24 : decode cX12_ends 24 = .ok (.aload_n 0, 1) := by decide +kernel
theorem dX12_ends_25 : decode cX12_ends 25 = .ok (.getfield 7, 3) := by decide +kernel
theorem dX12_ends_28 : decode cX12_ends 28 = .ok (.bipush 10, 2) := by decide +kernel
theorem dX12_ends_30 : decode cX12_ends 30 = .ok (.iconst 0, 1) := by decide +kernel
theorem dX12_ends_31 : decode cX12_ends 31 = .ok (.iastore, 1) := by decide +kernel
theorem dX12_ends_32 : decode cX12_ends 32 = .ok (.aload_n 0, 1) := by decide +kernel
theorem dX12_ends_33 : decode cX12_ends 33 = .ok (.getfield 7, 3) := by decide +kernel
theorem dX12_ends_36 : decode cX12_ends 36 = .ok (.bipush 19, 2) := by decide +kernel
theorem dX12_ends_38 : decode cX12_ends 38 = .ok (.iconst 0, 1) := by decide +kernel
theorem dX12_ends_39 : decode cX12_ends 39 = .ok (.iastore, 1) := by decide +kernel
theorem dX12_ends_40 : decode cX12_ends 40 = .ok (.aload_n 0, 1) := by decide +kernel
theorem dX12_ends_41 : decode cX12_ends 41 = .ok (.invokevirtual 102, 3) := by decide +kernel
theorem dX12_ends_44 : decode cX12_ends 44 = .ok (.return_, 1) := by decide +kernel
theorem dX12_begins_0 : decode cX12_begins 0 = .ok (.aload_n 0, 1) := by decide +kernel
theorem dX12_begins_1 : decode cX12_begins 1 = .ok (.getfield 7, 3) := by decide +kernel
theorem dX12_begins_4 : decode cX12_begins 4 = .ok (.bipush 7, 2) := by decide +kernel
theorem dX12_begins_6 : decode cX12_begins 6 = .ok (.iconst 0, 1) := by decide +kernel
theorem dX12_begins_7 : decode cX12_begins 7 = .ok (.iastore, 1) := by decide +kernel
theorem dX12_begins_8 : decode cX12_begins 8 = .ok (.aload_n 0, 1) := by decide +kernel
theorem dX12_begins_9 : decode cX12_begins 9 = .ok (.getfield 7, 3) := by decide +kernel
theorem dX12_begins_12 : decode cX12_begins 12 = .ok (.bipush 9, 2) := by decide +kernel
theorem dX12_begins_14 : decode cX12_begins 14 = .ok (.iconst 0, 1) := by decide +kernel
theorem dX12_begins_15 : decode cX12_begins 15 = .ok (.iastore, 1) := by decide +kernel
theorem dX12_begins_16 : decode cX12_begins 16 = .ok (.return_, 1) := by decide +kernel
theorem dX12_lineDone_0 : decode cX12_lineDone 0 = .ok (.aload_n 0, 1) := by decide +kernel
theorem dX12_lineDone_1 : decode cX12_lineDone 1 = .ok (.getfield 7, 3) := by decide +kernel
theorem dX12_lineDone_4 : decode cX12_lineDone 4 = .ok (.bipush 6, 2) := by decide +kernel
theorem dX12_lineDone_6 : decode cX12_lineDone 6 = .ok (.iaload, 1) := by decide +kernel
theorem dX12_lineDone_7 : decode cX12_lineDone 7 = .ok (.istore_n 1, 1) := by decide +kernel
theorem dX12_lineDone_8 : decode cX12_lineDone 8 = .ok (.aload_n 0, 1) := by decide +kernel
theorem dX12_lineDone_9 : decode cX12_lineDone 9 = .ok (.getfield 7, 3) := by decide +kernel
theorem dX12_lineDone_12 : decode cX12_lineDone 12 = .ok (.bipush 27, 2) := by decide +kernel
theorem dX12_lineDone_14 : decode cX12_lineDone 14 = .ok (.iload_n 1, 1) := by decide +kernel
theorem dX12_lineDone_15 : decode cX12_lineDone 15 = .ok (.iadd, 1) := by decide +kernel
theorem dX12_lineDone_16 : decode cX12_lineDone 16 = .ok (.dup2, 1) := by decide +kernel
theorem dX12_lineDone_17 : decode cX12_lineDone 17 = .ok (.iaload, 1) := by decide +kernel
theorem dX12_lineDone_18 : decode cX12_lineDone 18 = .ok (.iconst 1, 1) := by decide +kernel
theorem dX12_lineDone_19 : decode cX12_lineDone 19 = .ok (.iadd, 1) := by decide +kernel
theorem dX12_lineDone_20 : decode cX12_lineDone 20 = .ok (.iastore, 1) := by decide +kernel
theorem dX12_lineDone_21 : decode cX12_lineDone 21 = .ok (.aload_n 0, 1) := by decide +kernel
theorem dX12_lineDone_22 : decode cX12_lineDone 22 = .ok (.getfield 7, 3) := by decide +kernel
theorem dX12_lineDone_25 : decode cX12_lineDone 25 = .ok (.bipush 10, 2) := by decide +kernel
theorem dX12_lineDone_27 : decode cX12_lineDone 27 = .ok (.iconst 0, 1) := by decide +kernel
theorem dX12_lineDone_28 : decode cX12_lineDone 28 = .ok (.iastore, 1) := by decide +kernel
theorem dX12_lineDone_29 : decode cX12_lineDone 29 = .ok (.aload_n 0, 1) := by decide +kernel
theorem dX12_lineDone_30 : decode cX12_lineDone 30 = .ok (.getfield 7, 3) := by decide +kernel
theorem dX12_lineDone_33 : decode cX12_lineDone 33 = .ok (.bipush 27, 2) := by decide +kernel
theorem dX12_lineDone_35 : decode cX12_lineDone 35 = .ok (.iload_n 1, 1) := by decide +kernel
theorem dX12_lineDone_36 : decode cX12_lineDone 36 = .ok (.iadd, 1) := by decide +kernel
theorem dX12_lineDone_37 : decode cX12_lineDone 37 = .ok (.iaload, 1) := by decide +kernel
theorem dX12_lineDone_38 : decode cX12_lineDone 38 = .ok (.aload_n 0, 1) := by decide +kernel
theorem dX12_lineDone_39 : decode cX12_lineDone 39 = .ok (.getfield 7, 3) := by decide +kernel
theorem dX12_lineDone_42 : decode cX12_lineDone 42 = .ok (.bipush 25, 2) := by decide +kernel
theorem dX12_lineDone_44 : decode cX12_lineDone 44 = .ok (.iload_n 1, 1) := by decide +kernel
theorem dX12_lineDone_45 : decode cX12_lineDone 45 = .ok (.iadd, 1) := by decide +kernel
theorem dX12_lineDone_46 : decode cX12_lineDone 46 = .ok (.iaload, 1) := by decide +kernel
theorem dX12_lineDone_47 : decode cX12_lineDone 47 = .ok (.if_icmp .ge 10, 3) := by decide +kernel
theorem dX12_lineDone_50 : decode cX12_lineDone 50 = .ok (.aload_n 0, 1) := by decide +kernel
theorem dX12_lineDone_51 : decode cX12_lineDone 51 = .ok (.invokevirtual 105, 3) := by decide +kernel
theorem dX12_lineDone_54 : decode cX12_lineDone 54 = .ok (.goto 14, 3) := by decide +kernel
theorem dX12_lineDone_57 : decode cX12_lineDone 57 = .ok (.aload_n 0, 1) := by decide +kernel
theorem dX12_lineDone_58 : decode cX12_lineDone 58 = .ok (.invokevirtual 108, 3) := by decide +kernel
theorem dX12_lineDone_61 : decode cX12_lineDone 61 = .ok (.aload_n 0, 1) := by decide +kernel
theorem dX12_lineDone_62 : decode cX12_lineDone 62 = .ok (.bipush 6, 2) := by decide +kernel
theorem dX12_lineDone_64 : decode cX12_lineDone 64 = .ok (.iload_n 1, 1) := by decide +kernel
theorem dX12_lineDone_65 : decode cX12_lineDone 65 = .ok (.invokevirtual 111, 3) := by decide +kernel
theorem dX12_lineDone_68 : decode cX12_lineDone 68 = .ok (.return_, 1) := by decide +kernel
theorem dX12_lineFailed_0 : decode cX12_lineFailed 0 = .ok (.aload_n 0, 1) := by decide +kernel
theorem dX12_lineFailed_1 : decode cX12_lineFailed 1 = .ok (.getfield 7, 3) := by decide +kernel
theorem dX12_lineFailed_4 : decode cX12_lineFailed 4 = .ok (.bipush 27, 2) := by decide +kernel
theorem dX12_lineFailed_6 : decode cX12_lineFailed 6 = .ok (.aload_n 0, 1) := by decide +kernel
theorem dX12_lineFailed_7 : decode cX12_lineFailed 7 = .ok (.getfield 7, 3) := by decide +kernel
theorem dX12_lineFailed_10 : decode cX12_lineFailed 10 = .ok (.bipush 6, 2) := by decide +kernel
theorem dX12_lineFailed_12 : decode cX12_lineFailed 12 = .ok (.iaload, 1) := by decide +kernel
theorem dX12_lineFailed_13 : decode cX12_lineFailed 13 = .ok (.iadd, 1) := by decide +kernel
theorem dX12_lineFailed_14 : decode cX12_lineFailed 14 = .ok (.iaload, 1) := by decide +kernel
theorem dX12_lineFailed_15 : decode cX12_lineFailed 15 = .ok (.istore_n 1, 1) := by decide +kernel
theorem dX12_lineFailed_16 : decode cX12_lineFailed 16 = .ok (.aload_n 0, 1) := by decide +kernel
theorem dX12_lineFailed_17 : decode cX12_lineFailed 17 = .ok (.getfield 7, 3) := by decide +kernel
theorem dX12_lineFailed_20 : decode cX12_lineFailed 20 = .ok (.bipush 10, 2) := by decide +kernel
theorem dX12_lineFailed_22 : decode cX12_lineFailed 22 = .ok (.iaload, 1) := by decide +kernel
theorem dX12_lineFailed_23 : decode cX12_lineFailed 23 = .ok (.aload_n 0, 1) := by decide +kernel
theorem dX12_lineFailed_24 : decode cX12_lineFailed 24 = .ok (.getfield 7, 3) := by decide +kernel
theorem dX12_lineFailed_27 : decode cX12_lineFailed 27 = .ok (.iconst 4, 1) := by decide +kernel
theorem dX12_lineFailed_28 : decode cX12_lineFailed 28 = .ok (.iaload, 1) := by decide +kernel
theorem dX12_lineFailed_29 : decode cX12_lineFailed 29 = .ok (.if_icmp .ge 27, 3) := by decide +kernel
theorem dX12_lineFailed_32 : decode cX12_lineFailed 32 = .ok (.aload_n 0, 1) := by decide +kernel
theorem dX12_lineFailed_33 : decode cX12_lineFailed 33 = .ok (.getfield 7, 3) := by decide +kernel
theorem dX12_lineFailed_36 : decode cX12_lineFailed 36 = .ok (.bipush 10, 2) := by decide +kernel
theorem dX12_lineFailed_38 : decode cX12_lineFailed 38 = .ok (.dup2, 1) := by decide +kernel
theorem dX12_lineFailed_39 : decode cX12_lineFailed 39 = .ok (.iaload, 1) := by decide +kernel
theorem dX12_lineFailed_40 : decode cX12_lineFailed 40 = .ok (.iconst 1, 1) := by decide +kernel
theorem dX12_lineFailed_41 : decode cX12_lineFailed 41 = .ok (.iadd, 1) := by decide +kernel
theorem dX12_lineFailed_42 : decode cX12_lineFailed 42 = .ok (.iastore, 1) := by decide +kernel
theorem dX12_lineFailed_43 : decode cX12_lineFailed 43 = .ok (.aload_n 0, 1) := by decide +kernel
theorem dX12_lineFailed_44 : decode cX12_lineFailed 44 = .ok (.invokevirtual 105, 3) := by decide +kernel
theorem dX12_lineFailed_47 : decode cX12_lineFailed 47 = .ok (.aload_n 0, 1) := by decide +kernel
theorem dX12_lineFailed_48 : decode cX12_lineFailed 48 = .ok (.iconst 3, 1) := by decide +kernel
theorem dX12_lineFailed_49 : decode cX12_lineFailed 49 = .ok (.iload_n 1, 1) := by decide +kernel
theorem dX12_lineFailed_50 : decode cX12_lineFailed 50 = .ok (.invokevirtual 111, 3) := by decide +kernel
theorem dX12_lineFailed_53 : decode cX12_lineFailed 53 = .ok (.goto 13, 3) := by decide +kernel
theorem dX12_lineFailed_56 : decode cX12_lineFailed 56 = .ok (.aload_n 0, 1) := by decide +kernel
theorem dX12_lineFailed_57 : decode cX12_lineFailed 57 = .ok (.iconst 4, 1) := by decide +kernel
theorem dX12_lineFailed_58 : decode cX12_lineFailed 58 = .ok (.iload_n 1, 1) := by decide +kernel
theorem dX12_lineFailed_59 : decode cX12_lineFailed 59 = .ok (.invokevirtual 111, 3) := by decide +kernel
theorem dX12_lineFailed_62 : decode cX12_lineFailed 62 = .ok (.aload_n 0, 1) := by decide +kernel
theorem dX12_lineFailed_63 : decode cX12_lineFailed 63 = .ok (.invokevirtual 114, 3) := by decide +kernel
theorem dX12_lineFailed_66 : decode cX12_lineFailed 66 = .ok (.return_, 1) := by decide +kernel
theorem dX12_receives_0 : decode cX12_receives 0 = .ok (.aload_n 0, 1) := by decide +kernel
theorem dX12_receives_1 : decode cX12_receives 1 = .ok (.getfield 7, 3) := by decide +kernel
theorem dX12_receives_4 : decode cX12_receives 4 = .ok (.bipush 29, 2) := by decide +kernel
theorem dX12_receives_6 : decode cX12_receives 6 = .ok (.iload_n 1, 1) := by decide +kernel
theorem dX12_receives_7 : decode cX12_receives 7 = .ok (.iadd, 1) := by decide +kernel
theorem dX12_receives_8 : decode cX12_receives 8 = .ok (.iaload, 1) := by decide +kernel
theorem dX12_receives_9 : decode cX12_receives 9 = .ok (.sipush 1000, 3) := by decide +kernel
theorem dX12_receives_12 : decode cX12_receives 12 = .ok (.if_icmp .ne 4, 3) := by decide +kernel
theorem dX12_receives_15 : decode cX12_receives 15 = .ok (.return_, 1) := by decide +kernel
theorem dX12_receives_16 : decode cX12_receives 16 = .ok (.aload_n 0, 1) := by decide +kernel
theorem dX12_receives_17 : decode cX12_receives 17 = .ok (.getfield 7, 3) := by decide +kernel
theorem dX12_receives_20 : decode cX12_receives 20 = .ok (.sipush 963, 3) := by decide +kernel
theorem dX12_receives_23 : decode cX12_receives 23 = .ok (.sipush 1000, 3) := by decide +kernel
theorem dX12_receives_26 : decode cX12_receives 26 = .ok (.iload_n 1, 1) := by decide +kernel
theorem dX12_receives_27 : decode cX12_receives 27 = .ok (.imul, 1) := by decide +kernel
theorem dX12_receives_28 : decode cX12_receives 28 = .ok (.iadd, 1) := by decide +kernel
theorem dX12_receives_29 : decode cX12_receives 29 = .ok (.aload_n 0, 1) := by decide +kernel
theorem dX12_receives_30 : decode cX12_receives 30 = .ok (.getfield 7, 3) := by decide +kernel
theorem dX12_receives_33 : decode cX12_receives 33 = .ok (.bipush 29, 2) := by decide +kernel
theorem dX12_receives_35 : decode cX12_receives 35 = .ok (.iload_n 1, 1) := by decide +kernel
theorem dX12_receives_36 : decode cX12_receives 36 = .ok (.iadd, 1) := by decide +kernel
theorem dX12_receives_37 : decode cX12_receives 37 = .ok (.iaload, 1) := by decide +kernel
theorem dX12_receives_38 : decode cX12_receives 38 = .ok (.iadd, 1) := by decide +kernel
theorem dX12_receives_39 : decode cX12_receives 39 = .ok (.iload_n 2, 1) := by decide +kernel
theorem dX12_receives_40 : decode cX12_receives 40 = .ok (.iastore, 1) := by decide +kernel
theorem dX12_receives_41 : decode cX12_receives 41 = .ok (.aload_n 0, 1) := by decide +kernel
theorem dX12_receives_42 : decode cX12_receives 42 = .ok (.getfield 7, 3) := by decide +kernel
theorem dX12_receives_45 : decode cX12_receives 45 = .ok (.bipush 29, 2) := by decide +kernel
theorem dX12_receives_47 : decode cX12_receives 47 = .ok (.iload_n 1, 1) := by decide +kernel
theorem dX12_receives_48 : decode cX12_receives 48 = .ok (.iadd, 1) := by decide +kernel
theorem dX12_receives_49 : decode cX12_receives 49 = .ok (.dup2, 1) := by decide +kernel
theorem dX12_receives_50 : decode cX12_receives 50 = .ok (.iaload, 1) := by decide +kernel
theorem dX12_receives_51 : decode cX12_receives 51 = .ok (.iconst 1, 1) := by decide +kernel
theorem dX12_receives_52 : decode cX12_receives 52 = .ok (.iadd, 1) := by decide +kernel
theorem dX12_receives_53 : decode cX12_receives 53 = .ok (.iastore, 1) := by decide +kernel
theorem dX12_receives_54 : decode cX12_receives 54 = .ok (.return_, 1) := by decide +kernel
theorem dX12_checks_0 : decode cX12_checks 0 = .ok (.aload_n 0, 1) := by decide +kernel
theorem dX12_checks_1 : decode cX12_checks 1 = .ok (.invokevirtual 117, 3) := by decide +kernel
theorem dX12_checks_4 : decode cX12_checks 4 = .ok (.istore_n 2, 1) := by decide +kernel
theorem dX12_checks_5 : decode cX12_checks 5 = .ok (.iload_n 1, 1) := by decide +kernel
theorem dX12_checks_6 : decode cX12_checks 6 = .ok (.iconst 2, 1) := by decide +kernel
theorem dX12_checks_7 : decode cX12_checks 7 = .ok (.aload_n 0, 1) := by decide +kernel
theorem dX12_checks_8 : decode cX12_checks 8 = .ok (.getfield 7, 3) := by decide +kernel
theorem dX12_checks_11 : decode cX12_checks 11 = .ok (.bipush 12, 2) := by decide +kernel
theorem dX12_checks_13 : decode cX12_checks 13 = .ok (.iaload, 1) := by decide +kernel
theorem dX12_checks_14 : decode cX12_checks 14 = .ok (.aload_n 0, 1) := by decide +kernel
theorem dX12_checks_15 : decode cX12_checks 15 = .ok (.getfield 7, 3) := by decide +kernel
theorem dX12_checks_18 : decode cX12_checks 18 = .ok (.iconst 0, 1) := by decide +kernel
theorem dX12_checks_19 : decode cX12_checks 19 = .ok (.iaload, 1) := by decide +kernel
theorem dX12_checks_20 : decode cX12_checks 20 = .ok (.iconst 2, 1) := by decide +kernel
theorem dX12_checks_21 : decode cX12_checks 21 = .ok (.isub, 1) := by decide +kernel
theorem dX12_checks_22 : decode cX12_checks 22 = .ok (.irem, 1) := by decide +kernel
theorem dX12_checks_23 : decode cX12_checks 23 = .ok (.iadd, 1) := by decide +kernel
theorem dX12_checks_24 : decode cX12_checks 24 = .ok (.if_icmp .ne 7, 3) := by decide +kernel
theorem dX12_checks_27 : decode cX12_checks 27 = .ok (.iconst 1, 1) := by decide +kernel
theorem dX12_checks_28 : decode cX12_checks 28 = .ok (.goto 4, 3) := by decide +kernel
theorem dX12_checks_31 : decode cX12_checks 31 = .ok (.iconst 0, 1) := by decide +kernel
theorem dX12_checks_32 : decode cX12_checks 32 = .ok (.istore_n 3, 1) := by decide +kernel
theorem dX12_checks_33 : decode cX12_checks 33 = .ok (.iload_n 3, 1) := by decide +kernel
theorem dX12_checks_34 : decode cX12_checks 34 = .ok (.ifCond .eq 61, 3) := by decide +kernel
theorem dX12_checks_37 : decode cX12_checks 37 = .ok (.aload_n 0, 1) := by decide +kernel
theorem dX12_checks_38 : decode cX12_checks 38 = .ok (.iconst 1, 1) := by decide +kernel
theorem dX12_checks_39 : decode cX12_checks 39 = .ok (.aload_n 0, 1) := by decide +kernel
theorem dX12_checks_40 : decode cX12_checks 40 = .ok (.getfield 7, 3) := by decide +kernel
theorem dX12_checks_43 : decode cX12_checks 43 = .ok (.bipush 11, 2) := by decide +kernel
theorem dX12_checks_45 : decode cX12_checks 45 = .ok (.iaload, 1) := by decide +kernel
theorem dX12_checks_46 : decode cX12_checks 46 = .ok (.invokevirtual 111, 3) := by decide +kernel
theorem dX12_checks_49 : decode cX12_checks 49 = .ok (.iconst 0, 1) := by decide +kernel
theorem dX12_checks_50 : decode cX12_checks 50 = .ok (.istore 4, 2) := by decide +kernel
theorem dX12_checks_52 : decode cX12_checks 52 = .ok (.iload 4, 2) := by decide +kernel
theorem dX12_checks_54 : decode cX12_checks 54 = .ok (.aload_n 0, 1) := by decide +kernel
theorem dX12_checks_55 : decode cX12_checks 55 = .ok (.getfield 7, 3) := by decide +kernel
theorem dX12_checks_58 : decode cX12_checks 58 = .ok (.bipush 11, 2) := by decide +kernel
theorem dX12_checks_60 : decode cX12_checks 60 = .ok (.iaload, 1) := by decide +kernel
theorem dX12_checks_61 : decode cX12_checks 61 = .ok (.if_icmp .ge 24, 3) := by decide +kernel
theorem dX12_checks_64 : decode cX12_checks 64 = .ok (.aload_n 0, 1) := by decide +kernel
theorem dX12_checks_65 : decode cX12_checks 65 = .ok (.iload_n 2, 1) := by decide +kernel
theorem dX12_checks_66 : decode cX12_checks 66 = .ok (.aload_n 0, 1) := by decide +kernel
theorem dX12_checks_67 : decode cX12_checks 67 = .ok (.getfield 7, 3) := by decide +kernel
theorem dX12_checks_70 : decode cX12_checks 70 = .ok (.bipush 59, 2) := by decide +kernel
theorem dX12_checks_72 : decode cX12_checks 72 = .ok (.iload 4, 2) := by decide +kernel
theorem dX12_checks_74 : decode cX12_checks 74 = .ok (.iadd, 1) := by decide +kernel
theorem dX12_checks_75 : decode cX12_checks 75 = .ok (.iaload, 1) := by decide +kernel
theorem dX12_checks_76 : decode cX12_checks 76 = .ok (.invokevirtual 120, 3) := by decide +kernel
theorem dX12_checks_79 : decode cX12_checks 79 = .ok (.iinc 4 1, 3) := by decide +kernel
theorem dX12_checks_82 : decode cX12_checks 82 = .ok (.goto (-30), 3) := by decide +kernel
theorem dX12_checks_85 : decode cX12_checks 85 = .ok (.aload_n 0, 1) := by decide +kernel
theorem dX12_checks_86 : decode cX12_checks 86 = .ok (.iload_n 2, 1) := by decide +kernel
theorem dX12_checks_87 : decode cX12_checks 87 = .ok (.bipush 47, 2) := by decide +kernel
theorem dX12_checks_89 : decode cX12_checks 89 = .ok (.invokevirtual 120, 3) := by decide +kernel
theorem dX12_checks_92 : decode cX12_checks 92 = .ok (.goto 15, 3) := by decide +kernel
theorem dX12_checks_95 : decode cX12_checks 95 = .ok (.aload_n 0, 1) := by decide +kernel
theorem dX12_checks_96 : decode cX12_checks 96 = .ok (.iconst 2, 1) := by decide +kernel
theorem dX12_checks_97 : decode cX12_checks 97 = .ok (.aload_n 0, 1) := by decide +kernel
theorem dX12_checks_98 : decode cX12_checks 98 = .ok (.getfield 7, 3) := by decide +kernel
theorem dX12_checks_101 : decode cX12_checks 101 = .ok (.bipush 12, 2) := by decide +kernel
theorem dX12_checks_103 : decode cX12_checks 103 = .ok (.iaload, 1) := by decide +kernel
theorem dX12_checks_104 : decode cX12_checks 104 = .ok (.invokevirtual 111, 3) := by decide +kernel
theorem dX12_checks_107 : decode cX12_checks 107 = .ok (.aload_n 0, 1) := by decide +kernel
theorem dX12_checks_108 : decode cX12_checks 108 = .ok (.iload_n 3, 1) := by decide +kernel
theorem dX12_checks_109 : decode cX12_checks 109 = .ok (.ifCond .eq 7, 3) := by decide +kernel
theorem dX12_checks_112 : decode cX12_checks 112 = .ok (.iconst 1, 1) := by decide +kernel
theorem dX12_checks_113 : decode cX12_checks 113 = .ok (.goto 4, 3) := by decide +kernel
theorem dX12_checks_116 : decode cX12_checks 116 = .ok (.iconst 2, 1) := by decide +kernel
theorem dX12_checks_117 : decode cX12_checks 117 = .ok (.iconst 0, 1) := by decide +kernel
theorem dX12_checks_118 : decode cX12_checks 118 = .ok (.invokevirtual 123, 3) := by decide +kernel
theorem dX12_checks_121 : decode cX12_checks 121 = .ok (.aload_n 0, 1) := by decide +kernel
theorem dX12_checks_122 : decode cX12_checks 122 = .ok (.invokevirtual 102, 3) := by decide +kernel
theorem dX12_checks_125 : decode cX12_checks 125 = .ok (.return_, 1) := by decide +kernel
theorem dX12_characterOf_0 : decode cX12_characterOf 0 = .ok (.iload_n 2, 1) := by decide +kernel
theorem dX12_characterOf_1 : decode cX12_characterOf 1 = .ok (.ifCond .eq 14, 3) := by decide +kernel
theorem dX12_characterOf_4 : decode cX12_characterOf 4 = .ok (.ldc 26, 2) := by decide +kernel
theorem dX12_characterOf_6 : decode cX12_characterOf 6 = .ok (.iload_n 1, 1) := by decide +kernel
theorem dX12_characterOf_7 : decode cX12_characterOf 7 = .ok (.iconst 2, 1) := by decide +kernel
theorem dX12_characterOf_8 : decode cX12_characterOf 8 = .ok (.isub, 1) := by decide +kernel
theorem dX12_characterOf_9 : decode cX12_characterOf 9 = .ok (.invokevirtual 126, 3) := by decide +kernel
theorem dX12_characterOf_12 : decode cX12_characterOf 12 = .ok (.goto 9, 3) := by decide +kernel
theorem dX12_characterOf_15 : decode cX12_characterOf 15 = .ok (.bipush 97, 2) := by decide +kernel
theorem dX12_characterOf_17 : decode cX12_characterOf 17 = .ok (.iload_n 1, 1) := by decide +kernel
theorem dX12_characterOf_18 : decode cX12_characterOf 18 = .ok (.iadd, 1) := by decide +kernel
theorem dX12_characterOf_19 : decode cX12_characterOf 19 = .ok (.iconst 2, 1) := by decide +kernel
theorem dX12_characterOf_20 : decode cX12_characterOf 20 = .ok (.isub, 1) := by decide +kernel
theorem dX12_characterOf_21 : decode cX12_characterOf 21 = .ok (.ireturn, 1) := by decide +kernel
theorem dX12_means_0 : decode cX12_means 0 = .ok (.aload_n 0, 1) := by decide +kernel
theorem dX12_means_1 : decode cX12_means 1 = .ok (.getfield 7, 3) := by decide +kernel
theorem dX12_means_4 : decode cX12_means 4 = .ok (.bipush 14, 2) := by decide +kernel
theorem dX12_means_6 : decode cX12_means 6 = .ok (.iaload, 1) := by decide +kernel
theorem dX12_means_7 : decode cX12_means 7 = .ok (.iconst 1, 1) := by decide +kernel
theorem dX12_means_8 : decode cX12_means 8 = .ok (.if_icmp .ne 9, 3) := by decide +kernel
theorem dX12_means_11 : decode cX12_means 11 = .ok (.aload_n 0, 1) := by decide +kernel
theorem dX12_means_12 : decode cX12_means 12 = .ok (.iload_n 1, 1) := by decide +kernel
theorem dX12_means_13 : decode cX12_means 13 = .ok (.invokevirtual 132, 3) := by decide +kernel
theorem dX12_means_16 : decode cX12_means 16 = .ok (.return_, 1) := by decide +kernel
theorem dX12_means_17 : decode cX12_means 17 = .ok (.iload_n 1, 1) := by decide +kernel
theorem dX12_means_18 : decode cX12_means 18 = .ok (.iconst 2, 1) := by decide +kernel
theorem dX12_means_19 : decode cX12_means 19 = .ok (.if_icmp .ge 23, 3) := by decide +kernel
theorem dX12_means_22 : decode cX12_means 22 = .ok (.iload_n 1, 1) := by decide +kernel
theorem dX12_means_23 : decode cX12_means 23 = .ok (.aload_n 0, 1) := by decide +kernel
theorem dX12_means_24 : decode cX12_means 24 = .ok (.getfield 7, 3) := by decide +kernel
theorem dX12_means_27 : decode cX12_means 27 = .ok (.bipush 13, 2) := by decide +kernel
theorem dX12_means_29 : decode cX12_means 29 = .ok (.iaload, 1) := by decide +kernel
theorem dX12_means_30 : decode cX12_means 30 = .ok (.if_icmp .ne 12, 3) := by decide +kernel
theorem dX12_means_33 : decode cX12_means 33 = .ok (.aload_n 0, 1) := by decide +kernel
theorem dX12_means_34 : decode cX12_means 34 = .ok (.getfield 7, 3) := by decide +kernel
theorem dX12_means_37 : decode cX12_means 37 = .ok (.bipush 14, 2) := by decide +kernel
theorem dX12_means_39 : decode cX12_means 39 = .ok (.iconst 1, 1) := by decide +kernel
theorem dX12_means_40 : decode cX12_means 40 = .ok (.iastore, 1) := by decide +kernel
theorem dX12_means_41 : decode cX12_means 41 = .ok (.return_, 1) := by decide +kernel
theorem dX12_means_42 : decode cX12_means 42 = .ok (.iload_n 1, 1) := by decide +kernel
theorem dX12_means_43 : decode cX12_means 43 = .ok (.iconst 2, 1) := by decide +kernel
theorem dX12_means_44 : decode cX12_means 44 = .ok (.if_icmp .ge 14, 3) := by decide +kernel
theorem dX12_means_47 : decode cX12_means 47 = .ok (.aload_n 0, 1) := by decide +kernel
theorem dX12_means_48 : decode cX12_means 48 = .ok (.getfield 7, 3) := by decide +kernel
theorem dX12_means_51 : decode cX12_means 51 = .ok (.bipush 13, 2) := by decide +kernel
theorem dX12_means_53 : decode cX12_means 53 = .ok (.iload_n 1, 1) := by decide +kernel
theorem dX12_means_54 : decode cX12_means 54 = .ok (.iastore, 1) := by decide +kernel
theorem dX12_means_55 : decode cX12_means 55 = .ok (.goto 62, 3) := by decide +kernel
theorem dX12_means_58 : decode cX12_means 58 = .ok (.aload_n 0, 1) := by decide +kernel
theorem dX12_means_59 : decode cX12_means 59 = .ok (.getfield 7, 3) := by decide +kernel
theorem dX12_means_62 : decode cX12_means 62 = .ok (.bipush 11, 2) := by decide +kernel
theorem dX12_means_64 : decode cX12_means 64 = .ok (.iaload, 1) := by decide +kernel
theorem dX12_means_65 : decode cX12_means 65 = .ok (.bipush 40, 2) := by decide +kernel
theorem dX12_means_67 : decode cX12_means 67 = .ok (.if_icmp .ge 50, 3) := by decide +kernel
theorem dX12_means_70 : decode cX12_means 70 = .ok (.aload_n 0, 1) := by decide +kernel
theorem dX12_means_71 : decode cX12_means 71 = .ok (.getfield 7, 3) := by decide +kernel
theorem dX12_means_74 : decode cX12_means 74 = .ok (.bipush 59, 2) := by decide +kernel
theorem dX12_means_76 : decode cX12_means 76 = .ok (.aload_n 0, 1) := by decide +kernel
theorem dX12_means_77 : decode cX12_means 77 = .ok (.getfield 7, 3) := by decide +kernel
theorem dX12_means_80 : decode cX12_means 80 = .ok (.bipush 11, 2) := by decide +kernel
theorem dX12_means_82 : decode cX12_means 82 = .ok (.iaload, 1) := by decide +kernel
theorem dX12_means_83 : decode cX12_means 83 = .ok (.iadd, 1) := by decide +kernel
theorem dX12_means_84 : decode cX12_means 84 = .ok (.aload_n 0, 1) := by decide +kernel
theorem dX12_means_85 : decode cX12_means 85 = .ok (.iload_n 1, 1) := by decide +kernel
theorem dX12_means_86 : decode cX12_means 86 = .ok (.aload_n 0, 1) := by decide +kernel
theorem dX12_means_87 : decode cX12_means 87 = .ok (.getfield 7, 3) := by decide +kernel
theorem dX12_means_90 : decode cX12_means 90 = .ok (.bipush 13, 2) := by decide +kernel
theorem dX12_means_92 : decode cX12_means 92 = .ok (.iaload, 1) := by decide +kernel
theorem dX12_means_93 : decode cX12_means 93 = .ok (.iconst 1, 1) := by decide +kernel
theorem dX12_means_94 : decode cX12_means 94 = .ok (.if_icmp .ne 7, 3) := by decide +kernel
theorem dX12_means_97 : decode cX12_means 97 = .ok (.iconst 1, 1) := by decide +kernel
theorem dX12_means_98 : decode cX12_means 98 = .ok (.goto 4, 3) := by decide +kernel
theorem dX12_means_101 : decode cX12_means 101 = .ok (.iconst 0, 1) := by decide +kernel
theorem dX12_means_102 : decode cX12_means 102 = .ok (.invokevirtual 135, 3) := by decide +kernel
theorem dX12_means_105 : decode cX12_means 105 = .ok (.iastore, 1) := by decide +kernel
theorem dX12_means_106 : decode cX12_means 106 = .ok (.aload_n 0, 1) := by decide +kernel
theorem dX12_means_107 : decode cX12_means 107 = .ok (.getfield 7, 3) := by decide +kernel
theorem dX12_means_110 : decode cX12_means 110 = .ok (.bipush 11, 2) := by decide +kernel
theorem dX12_means_112 : decode cX12_means 112 = .ok (.dup2, 1) := by decide +kernel
theorem dX12_means_113 : decode cX12_means 113 = .ok (.iaload, 1) := by decide +kernel
theorem dX12_means_114 : decode cX12_means 114 = .ok (.iconst 1, 1) := by decide +kernel
theorem dX12_means_115 : decode cX12_means 115 = .ok (.iadd, 1) := by decide +kernel
theorem dX12_means_116 : decode cX12_means 116 = .ok (.iastore, 1) := by decide +kernel
theorem dX12_means_117 : decode cX12_means 117 = .ok (.aload_n 0, 1) := by decide +kernel
theorem dX12_means_118 : decode cX12_means 118 = .ok (.getfield 7, 3) := by decide +kernel
theorem dX12_means_121 : decode cX12_means 121 = .ok (.bipush 12, 2) := by decide +kernel
theorem dX12_means_123 : decode cX12_means 123 = .ok (.dup2, 1) := by decide +kernel
theorem dX12_means_124 : decode cX12_means 124 = .ok (.iaload, 1) := by decide +kernel
theorem dX12_means_125 : decode cX12_means 125 = .ok (.iconst 1, 1) := by decide +kernel
theorem dX12_means_126 : decode cX12_means 126 = .ok (.iadd, 1) := by decide +kernel
theorem dX12_means_127 : decode cX12_means 127 = .ok (.iastore, 1) := by decide +kernel
theorem dX12_means_128 : decode cX12_means 128 = .ok (.return_, 1) := by decide +kernel
theorem dX12_printsAt_0 : decode cX12_printsAt 0 = .ok (.aload_n 0, 1) := by decide +kernel
theorem dX12_printsAt_1 : decode cX12_printsAt 1 = .ok (.invokevirtual 117, 3) := by decide +kernel
theorem dX12_printsAt_4 : decode cX12_printsAt 4 = .ok (.istore_n 2, 1) := by decide +kernel
theorem dX12_printsAt_5 : decode cX12_printsAt 5 = .ok (.aload_n 0, 1) := by decide +kernel
theorem dX12_printsAt_6 : decode cX12_printsAt 6 = .ok (.getfield 7, 3) := by decide +kernel
theorem dX12_printsAt_9 : decode cX12_printsAt 9 = .ok (.bipush 21, 2) := by decide +kernel
theorem dX12_printsAt_11 : decode cX12_printsAt 11 = .ok (.iload_n 2, 1) := by decide +kernel
theorem dX12_printsAt_12 : decode cX12_printsAt 12 = .ok (.iadd, 1) := by decide +kernel
theorem dX12_printsAt_13 : decode cX12_printsAt 13 = .ok (.iaload, 1) := by decide +kernel
theorem dX12_printsAt_14 : decode cX12_printsAt 14 = .ok (.sipush 500, 3) := by decide +kernel
theorem dX12_printsAt_17 : decode cX12_printsAt 17 = .ok (.iadd, 1) := by decide +kernel
theorem dX12_printsAt_18 : decode cX12_printsAt 18 = .ok (.sipush 1000, 3) := by decide +kernel
theorem dX12_printsAt_21 : decode cX12_printsAt 21 = .ok (.idiv, 1) := by decide +kernel
theorem dX12_printsAt_22 : decode cX12_printsAt 22 = .ok (.istore_n 3, 1) := by decide +kernel
theorem dX12_printsAt_23 : decode cX12_printsAt 23 = .ok (.iload_n 3, 1) := by decide +kernel
theorem dX12_printsAt_24 : decode cX12_printsAt 24 = .ok (.aload_n 0, 1) := by decide +kernel
theorem dX12_printsAt_25 : decode cX12_printsAt 25 = .ok (.getfield 7, 3) := by decide +kernel
theorem dX12_printsAt_28 : decode cX12_printsAt 28 = .ok (.iconst 0, 1) := by decide +kernel
theorem dX12_printsAt_29 : decode cX12_printsAt 29 = .ok (.iaload, 1) := by decide +kernel
theorem dX12_printsAt_30 : decode cX12_printsAt 30 = .ok (.irem, 1) := by decide +kernel
theorem dX12_printsAt_31 : decode cX12_printsAt 31 = .ok (.istore 4, 2) := by decide +kernel
theorem dX12_printsAt_33 : decode cX12_printsAt 33 = .ok (.aload_n 0, 1) := by decide +kernel
theorem dX12_printsAt_34 : decode cX12_printsAt 34 = .ok (.getfield 7, 3) := by decide +kernel
theorem dX12_printsAt_37 : decode cX12_printsAt 37 = .ok (.bipush 21, 2) := by decide +kernel
theorem dX12_printsAt_39 : decode cX12_printsAt 39 = .ok (.iload_n 2, 1) := by decide +kernel
theorem dX12_printsAt_40 : decode cX12_printsAt 40 = .ok (.iadd, 1) := by decide +kernel
theorem dX12_printsAt_41 : decode cX12_printsAt 41 = .ok (.iaload, 1) := by decide +kernel
theorem dX12_printsAt_42 : decode cX12_printsAt 42 = .ok (.sipush 1000, 3) := by decide +kernel
theorem dX12_printsAt_45 : decode cX12_printsAt 45 = .ok (.iload_n 3, 1) := by decide +kernel
theorem dX12_printsAt_46 : decode cX12_printsAt 46 = .ok (.imul, 1) := by decide +kernel
theorem dX12_printsAt_47 : decode cX12_printsAt 47 = .ok (.isub, 1) := by decide +kernel
theorem dX12_printsAt_48 : decode cX12_printsAt 48 = .ok (.istore 5, 2) := by decide +kernel
theorem dX12_printsAt_50 : decode cX12_printsAt 50 = .ok (.aload_n 0, 1) := by decide +kernel
theorem dX12_printsAt_51 : decode cX12_printsAt 51 = .ok (.getfield 7, 3) := by decide +kernel
theorem dX12_printsAt_54 : decode cX12_printsAt 54 = .ok (.iconst 2, 1) := by decide +kernel
theorem dX12_printsAt_55 : decode cX12_printsAt 55 = .ok (.iaload, 1) := by decide +kernel
theorem dX12_printsAt_56 : decode cX12_printsAt 56 = .ok (.istore 6, 2) := by decide +kernel
theorem dX12_printsAt_58 : decode cX12_printsAt 58 = .ok (.iload 5, 2) := by decide +kernel
theorem dX12_printsAt_60 : decode cX12_printsAt 60 = .ok (.iload 6, 2) := by decide +kernel
theorem dX12_printsAt_62 : decode cX12_printsAt 62 = .ok (.ineg, 1) := by decide +kernel
theorem dX12_printsAt_63 : decode cX12_printsAt 63 = .ok (.if_icmp .ge 9, 3) := by decide +kernel
theorem dX12_printsAt_66 : decode cX12_printsAt 66 = .ok (.iload 6, 2) := by decide +kernel
theorem dX12_printsAt_68 : decode cX12_printsAt 68 = .ok (.ineg, 1) := by decide +kernel
theorem dX12_printsAt_69 : decode cX12_printsAt 69 = .ok (.goto 17, 3) := by decide +kernel
theorem dX12_printsAt_72 : decode cX12_printsAt 72 = .ok (.iload 5, 2) := by decide +kernel
theorem dX12_printsAt_74 : decode cX12_printsAt 74 = .ok (.iload 6, 2) := by decide +kernel
theorem dX12_printsAt_76 : decode cX12_printsAt 76 = .ok (.if_icmp .le 8, 3) := by decide +kernel
theorem dX12_printsAt_79 : decode cX12_printsAt 79 = .ok (.iload 6, 2) := by decide +kernel
theorem dX12_printsAt_81 : decode cX12_printsAt 81 = .ok (.goto 5, 3) := by decide +kernel
theorem dX12_printsAt_84 : decode cX12_printsAt 84 = .ok (.iload 5, 2) := by decide +kernel
theorem dX12_printsAt_86 : decode cX12_printsAt 86 = .ok (.istore 7, 2) := by decide +kernel
theorem dX12_printsAt_88 : decode cX12_printsAt 88 = .ok (.aload_n 0, 1) := by decide +kernel
theorem dX12_printsAt_89 : decode cX12_printsAt 89 = .ok (.getfield 7, 3) := by decide +kernel
theorem dX12_printsAt_92 : decode cX12_printsAt 92 = .ok (.bipush 21, 2) := by decide +kernel
theorem dX12_printsAt_94 : decode cX12_printsAt 94 = .ok (.iload_n 2, 1) := by decide +kernel
theorem dX12_printsAt_95 : decode cX12_printsAt 95 = .ok (.iadd, 1) := by decide +kernel
theorem dX12_printsAt_96 : decode cX12_printsAt 96 = .ok (.aload_n 0, 1) := by decide +kernel
theorem dX12_printsAt_97 : decode cX12_printsAt 97 = .ok (.aload_n 0, 1) := by decide +kernel
theorem dX12_printsAt_98 : decode cX12_printsAt 98 = .ok (.getfield 7, 3) := by decide +kernel
theorem dX12_printsAt_101 : decode cX12_printsAt 101 = .ok (.bipush 21, 2) := by decide +kernel
theorem dX12_printsAt_103 : decode cX12_printsAt 103 = .ok (.iload_n 2, 1) := by decide +kernel
theorem dX12_printsAt_104 : decode cX12_printsAt 104 = .ok (.iadd, 1) := by decide +kernel
theorem dX12_printsAt_105 : decode cX12_printsAt 105 = .ok (.iaload, 1) := by decide +kernel
theorem dX12_printsAt_106 : decode cX12_printsAt 106 = .ok (.i2l, 1) := by decide +kernel
theorem dX12_printsAt_107 : decode cX12_printsAt 107 = .ok (.iload 7, 2) := by decide +kernel
theorem dX12_printsAt_109 : decode cX12_printsAt 109 = .ok (.i2l, 1) := by decide +kernel
theorem dX12_printsAt_110 : decode cX12_printsAt 110 = .ok (.lsub, 1) := by decide +kernel
theorem dX12_printsAt_111 : decode cX12_printsAt 111 = .ok (.invokevirtual 94, 3) := by decide +kernel
theorem dX12_printsAt_114 : decode cX12_printsAt 114 = .ok (.iastore, 1) := by decide +kernel
theorem dX12_printsAt_115 : decode cX12_printsAt 115 = .ok (.iload 5, 2) := by decide +kernel
theorem dX12_printsAt_117 : decode cX12_printsAt 117 = .ok (.ifCond .ge 9, 3) := by decide +kernel
theorem dX12_printsAt_120 : decode cX12_printsAt 120 = .ok (.iload 5, 2) := by decide +kernel
theorem dX12_printsAt_122 : decode cX12_printsAt 122 = .ok (.ineg, 1) := by decide +kernel
theorem dX12_printsAt_123 : decode cX12_printsAt 123 = .ok (.goto 5, 3) := by decide +kernel
theorem dX12_printsAt_126 : decode cX12_printsAt 126 = .ok (.iload 5, 2) := by decide +kernel
theorem dX12_printsAt_128 : decode cX12_printsAt 128 = .ok (.istore 8, 2) := by decide +kernel
theorem dX12_printsAt_130 : decode cX12_printsAt 130 = .ok (.aload_n 0, 1) := by decide +kernel
theorem dX12_printsAt_131 : decode cX12_printsAt 131 = .ok (.getfield 7, 3) := by decide +kernel
theorem dX12_printsAt_134 : decode cX12_printsAt 134 = .ok (.bipush 31, 2) := by decide +kernel
theorem dX12_printsAt_136 : decode cX12_printsAt 136 = .ok (.iload_n 2, 1) := by decide +kernel
theorem dX12_printsAt_137 : decode cX12_printsAt 137 = .ok (.iadd, 1) := by decide +kernel
theorem dX12_printsAt_138 : decode cX12_printsAt 138 = .ok (.dup2, 1) := by decide +kernel
theorem dX12_printsAt_139 : decode cX12_printsAt 139 = .ok (.iaload, 1) := by decide +kernel
theorem dX12_printsAt_140 : decode cX12_printsAt 140 = .ok (.iconst 1, 1) := by decide +kernel
theorem dX12_printsAt_141 : decode cX12_printsAt 141 = .ok (.iadd, 1) := by decide +kernel
theorem dX12_printsAt_142 : decode cX12_printsAt 142 = .ok (.iastore, 1) := by decide +kernel
theorem dX12_printsAt_143 : decode cX12_printsAt 143 = .ok (.aload_n 0, 1) := by decide +kernel
theorem dX12_printsAt_144 : decode cX12_printsAt 144 = .ok (.getfield 7, 3) := by decide +kernel
theorem dX12_printsAt_147 : decode cX12_printsAt 147 = .ok (.bipush 37, 2) := by decide +kernel
theorem dX12_printsAt_149 : decode cX12_printsAt 149 = .ok (.iload_n 2, 1) := by decide +kernel
theorem dX12_printsAt_150 : decode cX12_printsAt 150 = .ok (.iadd, 1) := by decide +kernel
theorem dX12_printsAt_151 : decode cX12_printsAt 151 = .ok (.dup2, 1) := by decide +kernel
theorem dX12_printsAt_152 : decode cX12_printsAt 152 = .ok (.iaload, 1) := by decide +kernel
theorem dX12_printsAt_153 : decode cX12_printsAt 153 = .ok (.iload 5, 2) := by decide +kernel
theorem dX12_printsAt_155 : decode cX12_printsAt 155 = .ok (.iadd, 1) := by decide +kernel
theorem dX12_printsAt_156 : decode cX12_printsAt 156 = .ok (.iastore, 1) := by decide +kernel
theorem dX12_printsAt_157 : decode cX12_printsAt 157 = .ok (.iload 8, 2) := by decide +kernel
theorem dX12_printsAt_159 : decode cX12_printsAt 159 = .ok (.aload_n 0, 1) := by decide +kernel
theorem dX12_printsAt_160 : decode cX12_printsAt 160 = .ok (.getfield 7, 3) := by decide +kernel
theorem dX12_printsAt_163 : decode cX12_printsAt 163 = .ok (.bipush 35, 2) := by decide +kernel
theorem dX12_printsAt_165 : decode cX12_printsAt 165 = .ok (.iload_n 2, 1) := by decide +kernel
theorem dX12_printsAt_166 : decode cX12_printsAt 166 = .ok (.iadd, 1) := by decide +kernel
theorem dX12_printsAt_167 : decode cX12_printsAt 167 = .ok (.iaload, 1) := by decide +kernel
theorem dX12_printsAt_168 : decode cX12_printsAt 168 = .ok (.if_icmp .le 14, 3) := by decide +kernel
theorem dX12_printsAt_171 : decode cX12_printsAt 171 = .ok (.aload_n 0, 1) := by decide +kernel
theorem dX12_printsAt_172 : decode cX12_printsAt 172 = .ok (.getfield 7, 3) := by decide +kernel
theorem dX12_printsAt_175 : decode cX12_printsAt 175 = .ok (.bipush 35, 2) := by decide +kernel
theorem dX12_printsAt_177 : decode cX12_printsAt 177 = .ok (.iload_n 2, 1) := by decide +kernel
theorem dX12_printsAt_178 : decode cX12_printsAt 178 = .ok (.iadd, 1) := by decide +kernel
theorem dX12_printsAt_179 : decode cX12_printsAt 179 = .ok (.iload 8, 2) := by decide +kernel
theorem dX12_printsAt_181 : decode cX12_printsAt 181 = .ok (.iastore, 1) := by decide +kernel
theorem dX12_printsAt_182 : decode cX12_printsAt 182 = .ok (.iload 8, 2) := by decide +kernel
theorem dX12_printsAt_184 : decode cX12_printsAt 184 = .ok (.aload_n 0, 1) := by decide +kernel
theorem dX12_printsAt_185 : decode cX12_printsAt 185 = .ok (.getfield 139, 3) := by decide +kernel
theorem dX12_printsAt_188 : decode cX12_printsAt 188 = .ok (.if_icmp .le 9, 3) := by decide +kernel
theorem dX12_printsAt_191 : decode cX12_printsAt 191 = .ok (.aload_n 0, 1) := by decide +kernel
theorem dX12_printsAt_192 : decode cX12_printsAt 192 = .ok (.iload 8, 2) := by decide +kernel
theorem dX12_printsAt_194 : decode cX12_printsAt 194 = .ok (.putfield 139, 3) := by decide +kernel
theorem dX12_printsAt_197 : decode cX12_printsAt 197 = .ok (.iload 4, 2) := by decide +kernel
theorem dX12_printsAt_199 : decode cX12_printsAt 199 = .ok (.iload_n 1, 1) := by decide +kernel
theorem dX12_printsAt_200 : decode cX12_printsAt 200 = .ok (.if_icmp .eq 16, 3) := by decide +kernel
theorem dX12_printsAt_203 : decode cX12_printsAt 203 = .ok (.aload_n 0, 1) := by decide +kernel
theorem dX12_printsAt_204 : decode cX12_printsAt 204 = .ok (.getfield 7, 3) := by decide +kernel
theorem dX12_printsAt_207 : decode cX12_printsAt 207 = .ok (.bipush 33, 2) := by decide +kernel
theorem dX12_printsAt_209 : decode cX12_printsAt 209 = .ok (.iload_n 2, 1) := by decide +kernel
theorem dX12_printsAt_210 : decode cX12_printsAt 210 = .ok (.iadd, 1) := by decide +kernel
theorem dX12_printsAt_211 : decode cX12_printsAt 211 = .ok (.dup2, 1) := by decide +kernel
theorem dX12_printsAt_212 : decode cX12_printsAt 212 = .ok (.iaload, 1) := by decide +kernel
theorem dX12_printsAt_213 : decode cX12_printsAt 213 = .ok (.iconst 1, 1) := by decide +kernel
theorem dX12_printsAt_214 : decode cX12_printsAt 214 = .ok (.iadd, 1) := by decide +kernel
theorem dX12_printsAt_215 : decode cX12_printsAt 215 = .ok (.iastore, 1) := by decide +kernel
theorem dX12_printsAt_216 : decode cX12_printsAt 216 = .ok (.aload_n 0, 1) := by decide +kernel
theorem dX12_printsAt_217 : decode cX12_printsAt 217 = .ok (.getfield 7, 3) := by decide +kernel
theorem dX12_printsAt_220 : decode cX12_printsAt 220 = .ok (.bipush 15, 2) := by decide +kernel
theorem dX12_printsAt_222 : decode cX12_printsAt 222 = .ok (.aload_n 0, 1) := by decide +kernel
theorem dX12_printsAt_223 : decode cX12_printsAt 223 = .ok (.getfield 7, 3) := by decide +kernel
theorem dX12_printsAt_226 : decode cX12_printsAt 226 = .ok (.iconst 5, 1) := by decide +kernel
theorem dX12_printsAt_227 : decode cX12_printsAt 227 = .ok (.iaload, 1) := by decide +kernel
theorem dX12_printsAt_228 : decode cX12_printsAt 228 = .ok (.iastore, 1) := by decide +kernel
theorem dX12_printsAt_229 : decode cX12_printsAt 229 = .ok (.aload_n 0, 1) := by decide +kernel
theorem dX12_printsAt_230 : decode cX12_printsAt 230 = .ok (.iload 4, 2) := by decide +kernel
theorem dX12_printsAt_232 : decode cX12_printsAt 232 = .ok (.invokevirtual 142, 3) := by decide +kernel
theorem dX12_printsAt_235 : decode cX12_printsAt 235 = .ok (.return_, 1) := by decide +kernel
theorem dX12_answers_0 : decode cX12_answers 0 = .ok (.aload_n 0, 1) := by decide +kernel
theorem dX12_answers_1 : decode cX12_answers 1 = .ok (.getfield 7, 3) := by decide +kernel
theorem dX12_answers_4 : decode cX12_answers 4 = .ok (.bipush 7, 2) := by decide +kernel
theorem dX12_answers_6 : decode cX12_answers 6 = .ok (.iaload, 1) := by decide +kernel
theorem dX12_answers_7 : decode cX12_answers 7 = .ok (.ifCond .ne 4, 3) := by decide +kernel
theorem dX12_answers_10 : decode cX12_answers 10 = .ok (.return_, 1) := by decide +kernel
theorem dX12_answers_11 : decode cX12_answers 11 = .ok (.iload_n 1, 1) := by decide +kernel
theorem dX12_answers_12 : decode cX12_answers 12 = .ok (.ifCond .eq 10, 3) := by decide +kernel
theorem dX12_answers_15 : decode cX12_answers 15 = .ok (.aload_n 0, 1) := by decide +kernel
theorem dX12_answers_16 : decode cX12_answers 16 = .ok (.invokevirtual 114, 3) := by decide +kernel
theorem dX12_answers_19 : decode cX12_answers 19 = .ok (.goto 7, 3) := by decide +kernel
theorem dX12_answers_22 : decode cX12_answers 22 = .ok (.aload_n 0, 1) := by decide +kernel
theorem dX12_answers_23 : decode cX12_answers 23 = .ok (.invokevirtual 145, 3) := by decide +kernel
theorem dX12_answers_26 : decode cX12_answers 26 = .ok (.return_, 1) := by decide +kernel
theorem dX12_breaks_0 : decode cX12_breaks 0 = .ok (.aload_n 0, 1) := by decide +kernel
theorem dX12_breaks_1 : decode cX12_breaks 1 = .ok (.getfield 7, 3) := by decide +kernel
theorem dX12_breaks_4 : decode cX12_breaks 4 = .ok (.bipush 27, 2) := by decide +kernel
theorem dX12_breaks_6 : decode cX12_breaks 6 = .ok (.aload_n 0, 1) := by decide +kernel
theorem dX12_breaks_7 : decode cX12_breaks 7 = .ok (.getfield 7, 3) := by decide +kernel
theorem dX12_breaks_10 : decode cX12_breaks 10 = .ok (.bipush 6, 2) := by decide +kernel
theorem dX12_breaks_12 : decode cX12_breaks 12 = .ok (.iaload, 1) := by decide +kernel
theorem dX12_breaks_13 : decode cX12_breaks 13 = .ok (.iadd, 1) := by decide +kernel
theorem dX12_breaks_14 : decode cX12_breaks 14 = .ok (.iaload, 1) := by decide +kernel
theorem dX12_breaks_15 : decode cX12_breaks 15 = .ok (.istore_n 1, 1) := by decide +kernel
theorem dX12_breaks_16 : decode cX12_breaks 16 = .ok (.aload_n 0, 1) := by decide +kernel
theorem dX12_breaks_17 : decode cX12_breaks 17 = .ok (.invokevirtual 108, 3) := by decide +kernel
theorem dX12_breaks_20 : decode cX12_breaks 20 = .ok (.aload_n 0, 1) := by decide +kernel
theorem dX12_breaks_21 : decode cX12_breaks 21 = .ok (.iconst 5, 1) := by decide +kernel
theorem dX12_breaks_22 : decode cX12_breaks 22 = .ok (.iload_n 1, 1) := by decide +kernel
theorem dX12_breaks_23 : decode cX12_breaks 23 = .ok (.invokevirtual 111, 3) := by decide +kernel
theorem dX12_breaks_26 : decode cX12_breaks 26 = .ok (.return_, 1) := by decide +kernel
theorem dX12_arrives_0 : decode cX12_arrives 0 = .ok (.aload_n 0, 1) := by decide +kernel
theorem dX12_arrives_1 : decode cX12_arrives 1 = .ok (.getfield 7, 3) := by decide +kernel
theorem dX12_arrives_4 : decode cX12_arrives 4 = .ok (.bipush 19, 2) := by decide +kernel
theorem dX12_arrives_6 : decode cX12_arrives 6 = .ok (.iaload, 1) := by decide +kernel
theorem dX12_arrives_7 : decode cX12_arrives 7 = .ok (.ifCond .le 152, 3) := by decide +kernel
theorem dX12_arrives_10 : decode cX12_arrives 10 = .ok (.aload_n 0, 1) := by decide +kernel
theorem dX12_arrives_11 : decode cX12_arrives 11 = .ok (.getfield 7, 3) := by decide +kernel
theorem dX12_arrives_14 : decode cX12_arrives 14 = .ok (.sipush 2963, 3) := by decide +kernel
theorem dX12_arrives_17 : decode cX12_arrives 17 = .ok (.iaload, 1) := by decide +kernel
theorem dX12_arrives_18 : decode cX12_arrives 18 = .ok (.aload_n 0, 1) := by decide +kernel
theorem dX12_arrives_19 : decode cX12_arrives 19 = .ok (.getfield 7, 3) := by decide +kernel
theorem dX12_arrives_22 : decode cX12_arrives 22 = .ok (.iconst 5, 1) := by decide +kernel
theorem dX12_arrives_23 : decode cX12_arrives 23 = .ok (.iaload, 1) := by decide +kernel
theorem dX12_arrives_24 : decode cX12_arrives 24 = .ok (.if_icmp .ne 135, 3) := by decide +kernel
theorem dX12_arrives_27 : decode cX12_arrives 27 = .ok (.aload_n 0, 1) := by decide +kernel
theorem dX12_arrives_28 : decode cX12_arrives 28 = .ok (.getfield 7, 3) := by decide +kernel
theorem dX12_arrives_31 : decode cX12_arrives 31 = .ok (.sipush 2964, 3) := by decide +kernel
theorem dX12_arrives_34 : decode cX12_arrives 34 = .ok (.iaload, 1) := by decide +kernel
theorem dX12_arrives_35 : decode cX12_arrives 35 = .ok (.istore_n 1, 1) := by decide +kernel
theorem dX12_arrives_36 : decode cX12_arrives 36 = .ok (.aload_n 0, 1) := by decide +kernel
theorem dX12_arrives_37 : decode cX12_arrives 37 = .ok (.getfield 7, 3) := by decide +kernel
theorem dX12_arrives_40 : decode cX12_arrives 40 = .ok (.sipush 2965, 3) := by decide +kernel
theorem dX12_arrives_43 : decode cX12_arrives 43 = .ok (.iaload, 1) := by decide +kernel
theorem dX12_arrives_44 : decode cX12_arrives 44 = .ok (.istore_n 2, 1) := by decide +kernel
theorem dX12_arrives_45 : decode cX12_arrives 45 = .ok (.aload_n 0, 1) := by decide +kernel
theorem dX12_arrives_46 : decode cX12_arrives 46 = .ok (.getfield 7, 3) := by decide +kernel
theorem dX12_arrives_49 : decode cX12_arrives 49 = .ok (.bipush 19, 2) := by decide +kernel
theorem dX12_arrives_51 : decode cX12_arrives 51 = .ok (.dup2, 1) := by decide +kernel
theorem dX12_arrives_52 : decode cX12_arrives 52 = .ok (.iaload, 1) := by decide +kernel
theorem dX12_arrives_53 : decode cX12_arrives 53 = .ok (.iconst 1, 1) := by decide +kernel
theorem dX12_arrives_54 : decode cX12_arrives 54 = .ok (.isub, 1) := by decide +kernel
theorem dX12_arrives_55 : decode cX12_arrives 55 = .ok (.iastore, 1) := by decide +kernel
theorem dX12_arrives_56 : decode cX12_arrives 56 = .ok (.iconst 0, 1) := by decide +kernel
theorem dX12_arrives_57 : decode cX12_arrives 57 = .ok (.istore_n 3, 1) := by decide +kernel
theorem dX12_arrives_58 : decode cX12_arrives 58 = .ok (.iload_n 3, 1) := by decide +kernel
theorem dX12_arrives_59 : decode cX12_arrives 59 = .ok (.iconst 3, 1) := by decide +kernel
theorem dX12_arrives_60 : decode cX12_arrives 60 = .ok (.aload_n 0, 1) := by decide +kernel
theorem dX12_arrives_61 : decode cX12_arrives 61 = .ok (.getfield 7, 3) := by decide +kernel
theorem dX12_arrives_64 : decode cX12_arrives 64 = .ok (.bipush 19, 2) := by decide +kernel
theorem dX12_arrives_66 : decode cX12_arrives 66 = .ok (.iaload, 1) := by decide +kernel
theorem dX12_arrives_67 : decode cX12_arrives 67 = .ok (.imul, 1) := by decide +kernel
theorem dX12_arrives_68 : decode cX12_arrives 68 = .ok (.if_icmp .ge 31, 3) := by decide +kernel
theorem dX12_arrives_71 : decode cX12_arrives 71 = .ok (.aload_n 0, 1) := by decide +kernel
theorem dX12_arrives_72 : decode cX12_arrives 72 = .ok (.getfield 7, 3) := by decide +kernel
theorem dX12_arrives_75 : decode cX12_arrives 75 = .ok (.sipush 2963, 3) := by decide +kernel
theorem dX12_arrives_78 : decode cX12_arrives 78 = .ok (.iload_n 3, 1) := by decide +kernel
theorem dX12_arrives_79 : decode cX12_arrives 79 = .ok (.iadd, 1) := by decide +kernel
theorem dX12_arrives_80 : decode cX12_arrives 80 = .ok (.aload_n 0, 1) := by decide +kernel
theorem dX12_arrives_81 : decode cX12_arrives 81 = .ok (.getfield 7, 3) := by decide +kernel
theorem dX12_arrives_84 : decode cX12_arrives 84 = .ok (.sipush 2963, 3) := by decide +kernel
theorem dX12_arrives_87 : decode cX12_arrives 87 = .ok (.iload_n 3, 1) := by decide +kernel
theorem dX12_arrives_88 : decode cX12_arrives 88 = .ok (.iadd, 1) := by decide +kernel
theorem dX12_arrives_89 : decode cX12_arrives 89 = .ok (.iconst 3, 1) := by decide +kernel
theorem dX12_arrives_90 : decode cX12_arrives 90 = .ok (.iadd, 1) := by decide +kernel
theorem dX12_arrives_91 : decode cX12_arrives 91 = .ok (.iaload, 1) := by decide +kernel
theorem dX12_arrives_92 : decode cX12_arrives 92 = .ok (.iastore, 1) := by decide +kernel
theorem dX12_arrives_93 : decode cX12_arrives 93 = .ok (.iinc 3 1, 3) := by decide +kernel
theorem dX12_arrives_96 : decode cX12_arrives 96 = .ok (.goto (-38), 3) := by decide +kernel
theorem dX12_arrives_99 : decode cX12_arrives 99 = .ok (.iload_n 1, 1) := by decide +kernel
theorem dX12_arrives_100 : decode cX12_arrives 100 = .ok (.tableswitch 52 0 2 #[28, 36, 44], 28) := by decide +kernel
theorem dX12_arrives_128 : decode cX12_arrives 128 = .ok (.aload_n 0, 1) := by decide +kernel
theorem dX12_arrives_129 : decode cX12_arrives 129 = .ok (.iload_n 2, 1) := by decide +kernel
theorem dX12_arrives_130 : decode cX12_arrives 130 = .ok (.invokevirtual 148, 3) := by decide +kernel
theorem dX12_arrives_133 : decode cX12_arrives 133 = .ok (.goto 23, 3) := by decide +kernel
theorem dX12_arrives_136 : decode cX12_arrives 136 = .ok (.aload_n 0, 1) := by decide +kernel
theorem dX12_arrives_137 : decode cX12_arrives 137 = .ok (.iconst 1, 1) := by decide +kernel
theorem dX12_arrives_138 : decode cX12_arrives 138 = .ok (.invokevirtual 151, 3) := by decide +kernel
theorem dX12_arrives_141 : decode cX12_arrives 141 = .ok (.goto 15, 3) := by decide +kernel
theorem dX12_arrives_144 : decode cX12_arrives 144 = .ok (.aload_n 0, 1) := by decide +kernel
theorem dX12_arrives_145 : decode cX12_arrives 145 = .ok (.iconst 0, 1) := by decide +kernel
theorem dX12_arrives_146 : decode cX12_arrives 146 = .ok (.invokevirtual 151, 3) := by decide +kernel
theorem dX12_arrives_149 : decode cX12_arrives 149 = .ok (.goto 7, 3) := by decide +kernel
theorem dX12_arrives_152 : decode cX12_arrives 152 = .ok (.aload_n 0, 1) := by decide +kernel
theorem dX12_arrives_153 : decode cX12_arrives 153 = .ok (.invokevirtual 155, 3) := by decide +kernel
theorem dX12_arrives_156 : decode cX12_arrives 156 = .ok (.goto (-156), 3) := by decide +kernel
theorem dX12_arrives_159 : decode cX12_arrives 159 = .ok (.return_, 1) := by decide +kernel
theorem dX12_isLost_0 : decode cX12_isLost 0 = .ok (.iconst 0, 1) := by decide +kernel
theorem dX12_isLost_1 : decode cX12_isLost 1 = .ok (.istore_n 2, 1) := by decide +kernel
theorem dX12_isLost_2 : decode cX12_isLost 2 = .ok (.iload_n 2, 1) := by decide +kernel
theorem dX12_isLost_3 : decode cX12_isLost 3 = .ok (.aload_n 0, 1) := by decide +kernel
theorem dX12_isLost_4 : decode cX12_isLost 4 = .ok (.getfield 7, 3) := by decide +kernel
theorem dX12_isLost_7 : decode cX12_isLost 7 = .ok (.bipush 20, 2) := by decide +kernel
theorem dX12_isLost_9 : decode cX12_isLost 9 = .ok (.iaload, 1) := by decide +kernel
theorem dX12_isLost_10 : decode cX12_isLost 10 = .ok (.if_icmp .ge 24, 3) := by decide +kernel
theorem dX12_isLost_13 : decode cX12_isLost 13 = .ok (.aload_n 0, 1) := by decide +kernel
theorem dX12_isLost_14 : decode cX12_isLost 14 = .ok (.getfield 7, 3) := by decide +kernel
theorem dX12_isLost_17 : decode cX12_isLost 17 = .ok (.bipush 39, 2) := by decide +kernel
theorem dX12_isLost_19 : decode cX12_isLost 19 = .ok (.iload_n 2, 1) := by decide +kernel
theorem dX12_isLost_20 : decode cX12_isLost 20 = .ok (.iadd, 1) := by decide +kernel
theorem dX12_isLost_21 : decode cX12_isLost 21 = .ok (.iaload, 1) := by decide +kernel
theorem dX12_isLost_22 : decode cX12_isLost 22 = .ok (.iload_n 1, 1) := by decide +kernel
theorem dX12_isLost_23 : decode cX12_isLost 23 = .ok (.if_icmp .ne 5, 3) := by decide +kernel
theorem dX12_isLost_26 : decode cX12_isLost 26 = .ok (.iconst 1, 1) := by decide +kernel
theorem dX12_isLost_27 : decode cX12_isLost 27 = .ok (.ireturn, 1) := by decide +kernel
theorem dX12_isLost_28 : decode cX12_isLost 28 = .ok (.iinc 2 1, 3) := by decide +kernel
theorem dX12_isLost_31 : decode cX12_isLost 31 = .ok (.goto (-29), 3) := by decide +kernel
theorem dX12_isLost_34 : decode cX12_isLost 34 = .ok (.iconst 0, 1) := by decide +kernel
theorem dX12_isLost_35 : decode cX12_isLost 35 = .ok (.ireturn, 1) := by decide +kernel
theorem dX12_looksForNext_0 : decode cX12_looksForNext 0 = .ok (.aload_n 0, 1) := by decide +kernel
theorem dX12_looksForNext_1 : decode cX12_looksForNext 1 = .ok (.invokevirtual 158, 3) := by decide +kernel
theorem dX12_looksForNext_4 : decode cX12_looksForNext 4 = .ok (.ifCond .eq 14, 3) := by decide +kernel
theorem dX12_looksForNext_7 : decode cX12_looksForNext 7 = .ok (.aload_n 0, 1) := by decide +kernel
theorem dX12_looksForNext_8 : decode cX12_looksForNext 8 = .ok (.getfield 7, 3) := by decide +kernel
theorem dX12_looksForNext_11 : decode cX12_looksForNext 11 = .ok (.bipush 7, 2) := by decide +kernel
theorem dX12_looksForNext_13 : decode cX12_looksForNext 13 = .ok (.iaload, 1) := by decide +kernel
theorem dX12_looksForNext_14 : decode cX12_looksForNext 14 = .ok (.iconst 1, 1) := by decide +kernel
theorem dX12_looksForNext_15 : decode cX12_looksForNext 15 = .ok (.if_icmp .ne 4, 3) := by decide +kernel
theorem dX12_looksForNext_18 : decode cX12_looksForNext 18 = .ok (.return_, 1) := by decide +kernel
theorem dX12_looksForNext_19 : decode cX12_looksForNext 19 = .ok (.aload_n 0, 1) := by decide +kernel
theorem dX12_looksForNext_20 : decode cX12_looksForNext 20 = .ok (.getfield 7, 3) := by decide +kernel
theorem dX12_looksForNext_23 : decode cX12_looksForNext 23 = .ok (.bipush 6, 2) := by decide +kernel
theorem dX12_looksForNext_25 : decode cX12_looksForNext 25 = .ok (.iaload, 1) := by decide +kernel
theorem dX12_looksForNext_26 : decode cX12_looksForNext 26 = .ok (.istore_n 1, 1) := by decide +kernel
theorem dX12_looksForNext_27 : decode cX12_looksForNext 27 = .ok (.aload_n 0, 1) := by decide +kernel
theorem dX12_looksForNext_28 : decode cX12_looksForNext 28 = .ok (.invokevirtual 162, 3) := by decide +kernel
theorem dX12_looksForNext_31 : decode cX12_looksForNext 31 = .ok (.aload_n 0, 1) := by decide +kernel
theorem dX12_looksForNext_32 : decode cX12_looksForNext 32 = .ok (.getfield 23, 3) := by decide +kernel
theorem dX12_looksForNext_35 : decode cX12_looksForNext 35 = .ok (.aload_n 0, 1) := by decide +kernel
theorem dX12_looksForNext_36 : decode cX12_looksForNext 36 = .ok (.getfield 7, 3) := by decide +kernel
theorem dX12_looksForNext_39 : decode cX12_looksForNext 39 = .ok (.bipush 9, 2) := by decide +kernel
theorem dX12_looksForNext_41 : decode cX12_looksForNext 41 = .ok (.iaload, 1) := by decide +kernel
theorem dX12_looksForNext_42 : decode cX12_looksForNext 42 = .ok (.iaload, 1) := by decide +kernel
theorem dX12_looksForNext_43 : decode cX12_looksForNext 43 = .ok (.istore_n 2, 1) := by decide +kernel
theorem dX12_looksForNext_44 : decode cX12_looksForNext 44 = .ok (.aload_n 0, 1) := by decide +kernel
theorem dX12_looksForNext_45 : decode cX12_looksForNext 45 = .ok (.aload_n 0, 1) := by decide +kernel
theorem dX12_looksForNext_46 : decode cX12_looksForNext 46 = .ok (.getfield 7, 3) := by decide +kernel
theorem dX12_looksForNext_49 : decode cX12_looksForNext 49 = .ok (.bipush 21, 2) := by decide +kernel
theorem dX12_looksForNext_51 : decode cX12_looksForNext 51 = .ok (.iload_n 1, 1) := by decide +kernel
theorem dX12_looksForNext_52 : decode cX12_looksForNext 52 = .ok (.iadd, 1) := by decide +kernel
theorem dX12_looksForNext_53 : decode cX12_looksForNext 53 = .ok (.iaload, 1) := by decide +kernel
theorem dX12_looksForNext_54 : decode cX12_looksForNext 54 = .ok (.i2l, 1) := by decide +kernel
theorem dX12_looksForNext_55 : decode cX12_looksForNext 55 = .ok (.ldc2_w 92, 3) := by decide +kernel
theorem dX12_looksForNext_58 : decode cX12_looksForNext 58 = .ok (.iload_n 2, 1) := by decide +kernel
theorem dX12_looksForNext_59 : decode cX12_looksForNext 59 = .ok (.i2l, 1) := by decide +kernel
theorem dX12_looksForNext_60 : decode cX12_looksForNext 60 = .ok (.lmul, 1) := by decide +kernel
theorem dX12_looksForNext_61 : decode cX12_looksForNext 61 = .ok (.lsub, 1) := by decide +kernel
theorem dX12_looksForNext_62 : decode cX12_looksForNext 62 = .ok (.invokevirtual 94, 3) := by decide +kernel
theorem dX12_looksForNext_65 : decode cX12_looksForNext 65 = .ok (.aload_n 0, 1) := by decide +kernel
theorem dX12_looksForNext_66 : decode cX12_looksForNext 66 = .ok (.getfield 7, 3) := by decide +kernel
theorem dX12_looksForNext_69 : decode cX12_looksForNext 69 = .ok (.bipush 23, 2) := by decide +kernel
theorem dX12_looksForNext_71 : decode cX12_looksForNext 71 = .ok (.iload_n 1, 1) := by decide +kernel
theorem dX12_looksForNext_72 : decode cX12_looksForNext 72 = .ok (.iadd, 1) := by decide +kernel
theorem dX12_looksForNext_73 : decode cX12_looksForNext 73 = .ok (.iaload, 1) := by decide +kernel
theorem dX12_looksForNext_74 : decode cX12_looksForNext 74 = .ok (.if_icmp .lt 4, 3) := by decide +kernel
theorem dX12_looksForNext_77 : decode cX12_looksForNext 77 = .ok (.return_, 1) := by decide +kernel
theorem dX12_looksForNext_78 : decode cX12_looksForNext 78 = .ok (.aload_n 0, 1) := by decide +kernel
theorem dX12_looksForNext_79 : decode cX12_looksForNext 79 = .ok (.getfield 7, 3) := by decide +kernel
theorem dX12_looksForNext_82 : decode cX12_looksForNext 82 = .ok (.bipush 16, 2) := by decide +kernel
theorem dX12_looksForNext_84 : decode cX12_looksForNext 84 = .ok (.dup2, 1) := by decide +kernel
theorem dX12_looksForNext_85 : decode cX12_looksForNext 85 = .ok (.iaload, 1) := by decide +kernel
theorem dX12_looksForNext_86 : decode cX12_looksForNext 86 = .ok (.iconst 1, 1) := by decide +kernel
theorem dX12_looksForNext_87 : decode cX12_looksForNext 87 = .ok (.iadd, 1) := by decide +kernel
theorem dX12_looksForNext_88 : decode cX12_looksForNext 88 = .ok (.iastore, 1) := by decide +kernel
theorem dX12_looksForNext_89 : decode cX12_looksForNext 89 = .ok (.aload_n 0, 1) := by decide +kernel
theorem dX12_looksForNext_90 : decode cX12_looksForNext 90 = .ok (.aload_n 0, 1) := by decide +kernel
theorem dX12_looksForNext_91 : decode cX12_looksForNext 91 = .ok (.getfield 7, 3) := by decide +kernel
theorem dX12_looksForNext_94 : decode cX12_looksForNext 94 = .ok (.bipush 16, 2) := by decide +kernel
theorem dX12_looksForNext_96 : decode cX12_looksForNext 96 = .ok (.iaload, 1) := by decide +kernel
theorem dX12_looksForNext_97 : decode cX12_looksForNext 97 = .ok (.invokevirtual 165, 3) := by decide +kernel
theorem dX12_looksForNext_100 : decode cX12_looksForNext 100 = .ok (.ifCond .eq 17, 3) := by decide +kernel
theorem dX12_looksForNext_103 : decode cX12_looksForNext 103 = .ok (.aload_n 0, 1) := by decide +kernel
theorem dX12_looksForNext_104 : decode cX12_looksForNext 104 = .ok (.getfield 7, 3) := by decide +kernel
theorem dX12_looksForNext_107 : decode cX12_looksForNext 107 = .ok (.bipush 17, 2) := by decide +kernel
theorem dX12_looksForNext_109 : decode cX12_looksForNext 109 = .ok (.dup2, 1) := by decide +kernel
theorem dX12_looksForNext_110 : decode cX12_looksForNext 110 = .ok (.iaload, 1) := by decide +kernel
theorem dX12_looksForNext_111 : decode cX12_looksForNext 111 = .ok (.iconst 1, 1) := by decide +kernel
theorem dX12_looksForNext_112 : decode cX12_looksForNext 112 = .ok (.iadd, 1) := by decide +kernel
theorem dX12_looksForNext_113 : decode cX12_looksForNext 113 = .ok (.iastore, 1) := by decide +kernel
theorem dX12_looksForNext_114 : decode cX12_looksForNext 114 = .ok (.goto 9, 3) := by decide +kernel
theorem dX12_looksForNext_117 : decode cX12_looksForNext 117 = .ok (.aload_n 0, 1) := by decide +kernel
theorem dX12_looksForNext_118 : decode cX12_looksForNext 118 = .ok (.iconst 0, 1) := by decide +kernel
theorem dX12_looksForNext_119 : decode cX12_looksForNext 119 = .ok (.iload_n 2, 1) := by decide +kernel
theorem dX12_looksForNext_120 : decode cX12_looksForNext 120 = .ok (.invokevirtual 123, 3) := by decide +kernel
theorem dX12_looksForNext_123 : decode cX12_looksForNext 123 = .ok (.aload_n 0, 1) := by decide +kernel
theorem dX12_looksForNext_124 : decode cX12_looksForNext 124 = .ok (.getfield 7, 3) := by decide +kernel
theorem dX12_looksForNext_127 : decode cX12_looksForNext 127 = .ok (.bipush 9, 2) := by decide +kernel
theorem dX12_looksForNext_129 : decode cX12_looksForNext 129 = .ok (.dup2, 1) := by decide +kernel
theorem dX12_looksForNext_130 : decode cX12_looksForNext 130 = .ok (.iaload, 1) := by decide +kernel
theorem dX12_looksForNext_131 : decode cX12_looksForNext 131 = .ok (.iconst 1, 1) := by decide +kernel
theorem dX12_looksForNext_132 : decode cX12_looksForNext 132 = .ok (.iadd, 1) := by decide +kernel
theorem dX12_looksForNext_133 : decode cX12_looksForNext 133 = .ok (.iastore, 1) := by decide +kernel
theorem dX12_looksForNext_134 : decode cX12_looksForNext 134 = .ok (.aload_n 0, 1) := by decide +kernel
theorem dX12_looksForNext_135 : decode cX12_looksForNext 135 = .ok (.getfield 7, 3) := by decide +kernel
theorem dX12_looksForNext_138 : decode cX12_looksForNext 138 = .ok (.bipush 9, 2) := by decide +kernel
theorem dX12_looksForNext_140 : decode cX12_looksForNext 140 = .ok (.iaload, 1) := by decide +kernel
theorem dX12_looksForNext_141 : decode cX12_looksForNext 141 = .ok (.aload_n 0, 1) := by decide +kernel
theorem dX12_looksForNext_142 : decode cX12_looksForNext 142 = .ok (.getfield 66, 3) := by decide +kernel
theorem dX12_looksForNext_145 : decode cX12_looksForNext 145 = .ok (.if_icmp .ne 40, 3) := by decide +kernel
theorem dX12_looksForNext_148 : decode cX12_looksForNext 148 = .ok (.aload_n 0, 1) := by decide +kernel
theorem dX12_looksForNext_149 : decode cX12_looksForNext 149 = .ok (.getfield 7, 3) := by decide +kernel
theorem dX12_looksForNext_152 : decode cX12_looksForNext 152 = .ok (.bipush 7, 2) := by decide +kernel
theorem dX12_looksForNext_154 : decode cX12_looksForNext 154 = .ok (.iconst 1, 1) := by decide +kernel
theorem dX12_looksForNext_155 : decode cX12_looksForNext 155 = .ok (.iastore, 1) := by decide +kernel
theorem dX12_looksForNext_156 : decode cX12_looksForNext 156 = .ok (.aload_n 0, 1) := by decide +kernel
theorem dX12_looksForNext_157 : decode cX12_looksForNext 157 = .ok (.getfield 7, 3) := by decide +kernel
theorem dX12_looksForNext_160 : decode cX12_looksForNext 160 = .ok (.bipush 8, 2) := by decide +kernel
theorem dX12_looksForNext_162 : decode cX12_looksForNext 162 = .ok (.aload_n 0, 1) := by decide +kernel
theorem dX12_looksForNext_163 : decode cX12_looksForNext 163 = .ok (.getfield 7, 3) := by decide +kernel
theorem dX12_looksForNext_166 : decode cX12_looksForNext 166 = .ok (.iconst 5, 1) := by decide +kernel
theorem dX12_looksForNext_167 : decode cX12_looksForNext 167 = .ok (.iaload, 1) := by decide +kernel
theorem dX12_looksForNext_168 : decode cX12_looksForNext 168 = .ok (.iconst 2, 1) := by decide +kernel
theorem dX12_looksForNext_169 : decode cX12_looksForNext 169 = .ok (.aload_n 0, 1) := by decide +kernel
theorem dX12_looksForNext_170 : decode cX12_looksForNext 170 = .ok (.getfield 7, 3) := by decide +kernel
theorem dX12_looksForNext_173 : decode cX12_looksForNext 173 = .ok (.iconst 1, 1) := by decide +kernel
theorem dX12_looksForNext_174 : decode cX12_looksForNext 174 = .ok (.iaload, 1) := by decide +kernel
theorem dX12_looksForNext_175 : decode cX12_looksForNext 175 = .ok (.imul, 1) := by decide +kernel
theorem dX12_looksForNext_176 : decode cX12_looksForNext 176 = .ok (.iadd, 1) := by decide +kernel
theorem dX12_looksForNext_177 : decode cX12_looksForNext 177 = .ok (.aload_n 0, 1) := by decide +kernel
theorem dX12_looksForNext_178 : decode cX12_looksForNext 178 = .ok (.getfield 7, 3) := by decide +kernel
theorem dX12_looksForNext_181 : decode cX12_looksForNext 181 = .ok (.iconst 3, 1) := by decide +kernel
theorem dX12_looksForNext_182 : decode cX12_looksForNext 182 = .ok (.iaload, 1) := by decide +kernel
theorem dX12_looksForNext_183 : decode cX12_looksForNext 183 = .ok (.iadd, 1) := by decide +kernel
theorem dX12_looksForNext_184 : decode cX12_looksForNext 184 = .ok (.iastore, 1) := by decide +kernel
theorem dX12_looksForNext_185 : decode cX12_looksForNext 185 = .ok (.return_, 1) := by decide +kernel
theorem dX12_ticks_0 : decode cX12_ticks 0 = .ok (.aload_n 0, 1) := by decide +kernel
theorem dX12_ticks_1 : decode cX12_ticks 1 = .ok (.getfield 7, 3) := by decide +kernel
theorem dX12_ticks_4 : decode cX12_ticks 4 = .ok (.iconst 5, 1) := by decide +kernel
theorem dX12_ticks_5 : decode cX12_ticks 5 = .ok (.dup2, 1) := by decide +kernel
theorem dX12_ticks_6 : decode cX12_ticks 6 = .ok (.iaload, 1) := by decide +kernel
theorem dX12_ticks_7 : decode cX12_ticks 7 = .ok (.iconst 1, 1) := by decide +kernel
theorem dX12_ticks_8 : decode cX12_ticks 8 = .ok (.iadd, 1) := by decide +kernel
theorem dX12_ticks_9 : decode cX12_ticks 9 = .ok (.iastore, 1) := by decide +kernel
theorem dX12_ticks_10 : decode cX12_ticks 10 = .ok (.iconst 0, 1) := by decide +kernel
theorem dX12_ticks_11 : decode cX12_ticks 11 = .ok (.istore_n 1, 1) := by decide +kernel
theorem dX12_ticks_12 : decode cX12_ticks 12 = .ok (.iload_n 1, 1) := by decide +kernel
theorem dX12_ticks_13 : decode cX12_ticks 13 = .ok (.iconst 2, 1) := by decide +kernel
theorem dX12_ticks_14 : decode cX12_ticks 14 = .ok (.if_icmp .ge 43, 3) := by decide +kernel
theorem dX12_ticks_17 : decode cX12_ticks 17 = .ok (.aload_n 0, 1) := by decide +kernel
theorem dX12_ticks_18 : decode cX12_ticks 18 = .ok (.getfield 7, 3) := by decide +kernel
theorem dX12_ticks_21 : decode cX12_ticks 21 = .ok (.bipush 21, 2) := by decide +kernel
theorem dX12_ticks_23 : decode cX12_ticks 23 = .ok (.iload_n 1, 1) := by decide +kernel
theorem dX12_ticks_24 : decode cX12_ticks 24 = .ok (.iadd, 1) := by decide +kernel
theorem dX12_ticks_25 : decode cX12_ticks 25 = .ok (.aload_n 0, 1) := by decide +kernel
theorem dX12_ticks_26 : decode cX12_ticks 26 = .ok (.aload_n 0, 1) := by decide +kernel
theorem dX12_ticks_27 : decode cX12_ticks 27 = .ok (.getfield 7, 3) := by decide +kernel
theorem dX12_ticks_30 : decode cX12_ticks 30 = .ok (.bipush 21, 2) := by decide +kernel
theorem dX12_ticks_32 : decode cX12_ticks 32 = .ok (.iload_n 1, 1) := by decide +kernel
theorem dX12_ticks_33 : decode cX12_ticks 33 = .ok (.iadd, 1) := by decide +kernel
theorem dX12_ticks_34 : decode cX12_ticks 34 = .ok (.iaload, 1) := by decide +kernel
theorem dX12_ticks_35 : decode cX12_ticks 35 = .ok (.i2l, 1) := by decide +kernel
theorem dX12_ticks_36 : decode cX12_ticks 36 = .ok (.aload_n 0, 1) := by decide +kernel
theorem dX12_ticks_37 : decode cX12_ticks 37 = .ok (.getfield 7, 3) := by decide +kernel
theorem dX12_ticks_40 : decode cX12_ticks 40 = .ok (.bipush 23, 2) := by decide +kernel
theorem dX12_ticks_42 : decode cX12_ticks 42 = .ok (.iload_n 1, 1) := by decide +kernel
theorem dX12_ticks_43 : decode cX12_ticks 43 = .ok (.iadd, 1) := by decide +kernel
theorem dX12_ticks_44 : decode cX12_ticks 44 = .ok (.iaload, 1) := by decide +kernel
theorem dX12_ticks_45 : decode cX12_ticks 45 = .ok (.i2l, 1) := by decide +kernel
theorem dX12_ticks_46 : decode cX12_ticks 46 = .ok (.ladd, 1) := by decide +kernel
theorem dX12_ticks_47 : decode cX12_ticks 47 = .ok (.invokevirtual 94, 3) := by decide +kernel
theorem dX12_ticks_50 : decode cX12_ticks 50 = .ok (.iastore, 1) := by decide +kernel
theorem dX12_ticks_51 : decode cX12_ticks 51 = .ok (.iinc 1 1, 3) := by decide +kernel
theorem dX12_ticks_54 : decode cX12_ticks 54 = .ok (.goto (-42), 3) := by decide +kernel
theorem dX12_ticks_57 : decode cX12_ticks 57 = .ok (.aload_n 0, 1) := by decide +kernel
theorem dX12_ticks_58 : decode cX12_ticks 58 = .ok (.invokevirtual 168, 3) := by decide +kernel
theorem dX12_ticks_61 : decode cX12_ticks 61 = .ok (.aload_n 0, 1) := by decide +kernel
theorem dX12_ticks_62 : decode cX12_ticks 62 = .ok (.invokevirtual 171, 3) := by decide +kernel
theorem dX12_ticks_65 : decode cX12_ticks 65 = .ok (.aload_n 0, 1) := by decide +kernel
theorem dX12_ticks_66 : decode cX12_ticks 66 = .ok (.invokevirtual 158, 3) := by decide +kernel
theorem dX12_ticks_69 : decode cX12_ticks 69 = .ok (.ifCond .eq 34, 3) := by decide +kernel
theorem dX12_ticks_72 : decode cX12_ticks 72 = .ok (.aload_n 0, 1) := by decide +kernel
theorem dX12_ticks_73 : decode cX12_ticks 73 = .ok (.getfield 7, 3) := by decide +kernel
theorem dX12_ticks_76 : decode cX12_ticks 76 = .ok (.bipush 7, 2) := by decide +kernel
theorem dX12_ticks_78 : decode cX12_ticks 78 = .ok (.iaload, 1) := by decide +kernel
theorem dX12_ticks_79 : decode cX12_ticks 79 = .ok (.iconst 1, 1) := by decide +kernel
theorem dX12_ticks_80 : decode cX12_ticks 80 = .ok (.if_icmp .ne 23, 3) := by decide +kernel
theorem dX12_ticks_83 : decode cX12_ticks 83 = .ok (.aload_n 0, 1) := by decide +kernel
theorem dX12_ticks_84 : decode cX12_ticks 84 = .ok (.getfield 7, 3) := by decide +kernel
theorem dX12_ticks_87 : decode cX12_ticks 87 = .ok (.iconst 5, 1) := by decide +kernel
theorem dX12_ticks_88 : decode cX12_ticks 88 = .ok (.iaload, 1) := by decide +kernel
theorem dX12_ticks_89 : decode cX12_ticks 89 = .ok (.aload_n 0, 1) := by decide +kernel
theorem dX12_ticks_90 : decode cX12_ticks 90 = .ok (.getfield 7, 3) := by decide +kernel
theorem dX12_ticks_93 : decode cX12_ticks 93 = .ok (.bipush 8, 2) := by decide +kernel
theorem dX12_ticks_95 : decode cX12_ticks 95 = .ok (.iaload, 1) := by decide +kernel
theorem dX12_ticks_96 : decode cX12_ticks 96 = .ok (.if_icmp .lt 7, 3) := by decide +kernel
theorem dX12_ticks_99 : decode cX12_ticks 99 = .ok (.aload_n 0, 1) := by decide +kernel
theorem dX12_ticks_100 : decode cX12_ticks 100 = .ok (.invokevirtual 145, 3) := by decide +kernel
theorem dX12_ticks_103 : decode cX12_ticks 103 = .ok (.aload_n 0, 1) := by decide +kernel
theorem dX12_ticks_104 : decode cX12_ticks 104 = .ok (.invokevirtual 158, 3) := by decide +kernel
theorem dX12_ticks_107 : decode cX12_ticks 107 = .ok (.ifCond .eq 30, 3) := by decide +kernel
theorem dX12_ticks_110 : decode cX12_ticks 110 = .ok (.aload_n 0, 1) := by decide +kernel
theorem dX12_ticks_111 : decode cX12_ticks 111 = .ok (.getfield 7, 3) := by decide +kernel
theorem dX12_ticks_114 : decode cX12_ticks 114 = .ok (.iconst 5, 1) := by decide +kernel
theorem dX12_ticks_115 : decode cX12_ticks 115 = .ok (.iaload, 1) := by decide +kernel
theorem dX12_ticks_116 : decode cX12_ticks 116 = .ok (.aload_n 0, 1) := by decide +kernel
theorem dX12_ticks_117 : decode cX12_ticks 117 = .ok (.getfield 7, 3) := by decide +kernel
theorem dX12_ticks_120 : decode cX12_ticks 120 = .ok (.bipush 15, 2) := by decide +kernel
theorem dX12_ticks_122 : decode cX12_ticks 122 = .ok (.iaload, 1) := by decide +kernel
theorem dX12_ticks_123 : decode cX12_ticks 123 = .ok (.isub, 1) := by decide +kernel
theorem dX12_ticks_124 : decode cX12_ticks 124 = .ok (.aload_n 0, 1) := by decide +kernel
theorem dX12_ticks_125 : decode cX12_ticks 125 = .ok (.getfield 7, 3) := by decide +kernel
theorem dX12_ticks_128 : decode cX12_ticks 128 = .ok (.iconst 3, 1) := by decide +kernel
theorem dX12_ticks_129 : decode cX12_ticks 129 = .ok (.iaload, 1) := by decide +kernel
theorem dX12_ticks_130 : decode cX12_ticks 130 = .ok (.if_icmp .lt 7, 3) := by decide +kernel
theorem dX12_ticks_133 : decode cX12_ticks 133 = .ok (.aload_n 0, 1) := by decide +kernel
theorem dX12_ticks_134 : decode cX12_ticks 134 = .ok (.invokevirtual 102, 3) := by decide +kernel
theorem dX12_ticks_137 : decode cX12_ticks 137 = .ok (.return_, 1) := by decide +kernel
theorem dX12_positions_0 : decode cX12_positions 0 = .ok (.aload_n 0, 1) := by decide +kernel
theorem dX12_positions_1 : decode cX12_positions 1 = .ok (.iconst 0, 1) := by decide +kernel
theorem dX12_positions_2 : decode cX12_positions 2 = .ok (.putfield 47, 3) := by decide +kernel
theorem dX12_positions_5 : decode cX12_positions 5 = .ok (.aload_n 0, 1) := by decide +kernel
theorem dX12_positions_6 : decode cX12_positions 6 = .ok (.getfield 7, 3) := by decide +kernel
theorem dX12_positions_9 : decode cX12_positions 9 = .ok (.iconst 0, 1) := by decide +kernel
theorem dX12_positions_10 : decode cX12_positions 10 = .ok (.iaload, 1) := by decide +kernel
theorem dX12_positions_11 : decode cX12_positions 11 = .ok (.ireturn, 1) := by decide +kernel
theorem dX12_time_0 : decode cX12_time 0 = .ok (.aload_n 0, 1) := by decide +kernel
theorem dX12_time_1 : decode cX12_time 1 = .ok (.iconst 0, 1) := by decide +kernel
theorem dX12_time_2 : decode cX12_time 2 = .ok (.putfield 47, 3) := by decide +kernel
theorem dX12_time_5 : decode cX12_time 5 = .ok (.aload_n 0, 1) := by decide +kernel
theorem dX12_time_6 : decode cX12_time 6 = .ok (.getfield 7, 3) := by decide +kernel
theorem dX12_time_9 : decode cX12_time 9 = .ok (.iconst 5, 1) := by decide +kernel
theorem dX12_time_10 : decode cX12_time 10 = .ok (.iaload, 1) := by decide +kernel
theorem dX12_time_11 : decode cX12_time 11 = .ok (.ireturn, 1) := by decide +kernel
theorem dX12_ofOffice_0 : decode cX12_ofOffice 0 = .ok (.aload_n 0, 1) := by decide +kernel
theorem dX12_ofOffice_1 : decode cX12_ofOffice 1 = .ok (.iconst 0, 1) := by decide +kernel
theorem dX12_ofOffice_2 : decode cX12_ofOffice 2 = .ok (.putfield 47, 3) := by decide +kernel
theorem dX12_ofOffice_5 : decode cX12_ofOffice 5 = .ok (.iload_n 1, 1) := by decide +kernel
theorem dX12_ofOffice_6 : decode cX12_ofOffice 6 = .ok (.invokestatic 54, 3) := by decide +kernel
theorem dX12_ofOffice_9 : decode cX12_ofOffice 9 = .ok (.ifCond .eq 14, 3) := by decide +kernel
theorem dX12_ofOffice_12 : decode cX12_ofOffice 12 = .ok (.aload_n 0, 1) := by decide +kernel
theorem dX12_ofOffice_13 : decode cX12_ofOffice 13 = .ok (.getfield 7, 3) := by decide +kernel
theorem dX12_ofOffice_16 : decode cX12_ofOffice 16 = .ok (.iload_n 2, 1) := by decide +kernel
theorem dX12_ofOffice_17 : decode cX12_ofOffice 17 = .ok (.iload_n 1, 1) := by decide +kernel
theorem dX12_ofOffice_18 : decode cX12_ofOffice 18 = .ok (.iadd, 1) := by decide +kernel
theorem dX12_ofOffice_19 : decode cX12_ofOffice 19 = .ok (.iaload, 1) := by decide +kernel
theorem dX12_ofOffice_20 : decode cX12_ofOffice 20 = .ok (.goto 8, 3) := by decide +kernel
theorem dX12_ofOffice_23 : decode cX12_ofOffice 23 = .ok (.aload_n 0, 1) := by decide +kernel
theorem dX12_ofOffice_24 : decode cX12_ofOffice 24 = .ok (.iconst 1, 1) := by decide +kernel
theorem dX12_ofOffice_25 : decode cX12_ofOffice 25 = .ok (.invokevirtual 174, 3) := by decide +kernel
theorem dX12_ofOffice_28 : decode cX12_ofOffice 28 = .ok (.ireturn, 1) := by decide +kernel
theorem dX12_phase_0 : decode cX12_phase 0 = .ok (.aload_n 0, 1) := by decide +kernel
theorem dX12_phase_1 : decode cX12_phase 1 = .ok (.iload_n 1, 1) := by decide +kernel
theorem dX12_phase_2 : decode cX12_phase 2 = .ok (.bipush 21, 2) := by decide +kernel
theorem dX12_phase_4 : decode cX12_phase 4 = .ok (.invokevirtual 177, 3) := by decide +kernel
theorem dX12_phase_7 : decode cX12_phase 7 = .ok (.ireturn, 1) := by decide +kernel
theorem dX12_rate_0 : decode cX12_rate 0 = .ok (.aload_n 0, 1) := by decide +kernel
theorem dX12_rate_1 : decode cX12_rate 1 = .ok (.iload_n 1, 1) := by decide +kernel
theorem dX12_rate_2 : decode cX12_rate 2 = .ok (.bipush 23, 2) := by decide +kernel
theorem dX12_rate_4 : decode cX12_rate 4 = .ok (.invokevirtual 177, 3) := by decide +kernel
theorem dX12_rate_7 : decode cX12_rate 7 = .ok (.ireturn, 1) := by decide +kernel
theorem dX12_facing_0 : decode cX12_facing 0 = .ok (.aload_n 0, 1) := by decide +kernel
theorem dX12_facing_1 : decode cX12_facing 1 = .ok (.iconst 0, 1) := by decide +kernel
theorem dX12_facing_2 : decode cX12_facing 2 = .ok (.putfield 47, 3) := by decide +kernel
theorem dX12_facing_5 : decode cX12_facing 5 = .ok (.iload_n 1, 1) := by decide +kernel
theorem dX12_facing_6 : decode cX12_facing 6 = .ok (.invokestatic 54, 3) := by decide +kernel
theorem dX12_facing_9 : decode cX12_facing 9 = .ok (.ifCond .ne 9, 3) := by decide +kernel
theorem dX12_facing_12 : decode cX12_facing 12 = .ok (.aload_n 0, 1) := by decide +kernel
theorem dX12_facing_13 : decode cX12_facing 13 = .ok (.iconst 1, 1) := by decide +kernel
theorem dX12_facing_14 : decode cX12_facing 14 = .ok (.invokevirtual 174, 3) := by decide +kernel
theorem dX12_facing_17 : decode cX12_facing 17 = .ok (.ireturn, 1) := by decide +kernel
theorem dX12_facing_18 : decode cX12_facing 18 = .ok (.aload_n 0, 1) := by decide +kernel
theorem dX12_facing_19 : decode cX12_facing 19 = .ok (.getfield 7, 3) := by decide +kernel
theorem dX12_facing_22 : decode cX12_facing 22 = .ok (.bipush 21, 2) := by decide +kernel
theorem dX12_facing_24 : decode cX12_facing 24 = .ok (.iload_n 1, 1) := by decide +kernel
theorem dX12_facing_25 : decode cX12_facing 25 = .ok (.iadd, 1) := by decide +kernel
theorem dX12_facing_26 : decode cX12_facing 26 = .ok (.iaload, 1) := by decide +kernel
theorem dX12_facing_27 : decode cX12_facing 27 = .ok (.sipush 500, 3) := by decide +kernel
theorem dX12_facing_30 : decode cX12_facing 30 = .ok (.iadd, 1) := by decide +kernel
theorem dX12_facing_31 : decode cX12_facing 31 = .ok (.sipush 1000, 3) := by decide +kernel
theorem dX12_facing_34 : decode cX12_facing 34 = .ok (.idiv, 1) := by decide +kernel
theorem dX12_facing_35 : decode cX12_facing 35 = .ok (.aload_n 0, 1) := by decide +kernel
theorem dX12_facing_36 : decode cX12_facing 36 = .ok (.getfield 7, 3) := by decide +kernel
theorem dX12_facing_39 : decode cX12_facing 39 = .ok (.iconst 0, 1) := by decide +kernel
theorem dX12_facing_40 : decode cX12_facing 40 = .ok (.iaload, 1) := by decide +kernel
theorem dX12_facing_41 : decode cX12_facing 41 = .ok (.irem, 1) := by decide +kernel
theorem dX12_facing_42 : decode cX12_facing 42 = .ok (.ireturn, 1) := by decide +kernel
theorem dX12_character_0 : decode cX12_character 0 = .ok (.aload_n 0, 1) := by decide +kernel
theorem dX12_character_1 : decode cX12_character 1 = .ok (.iconst 0, 1) := by decide +kernel
theorem dX12_character_2 : decode cX12_character 2 = .ok (.putfield 47, 3) := by decide +kernel
theorem dX12_character_5 : decode cX12_character 5 = .ok (.iload_n 1, 1) := by decide +kernel
theorem dX12_character_6 : decode cX12_character 6 = .ok (.i2l, 1) := by decide +kernel
theorem dX12_character_7 : decode cX12_character 7 = .ok (.ldc2_w 180, 3) := by decide +kernel
theorem dX12_character_10 : decode cX12_character 10 = .ok (.aload_n 0, 1) := by decide +kernel
theorem dX12_character_11 : decode cX12_character 11 = .ok (.getfield 7, 3) := by decide +kernel
theorem dX12_character_14 : decode cX12_character 14 = .ok (.iconst 0, 1) := by decide +kernel
theorem dX12_character_15 : decode cX12_character 15 = .ok (.iaload, 1) := by decide +kernel
theorem dX12_character_16 : decode cX12_character 16 = .ok (.iconst 1, 1) := by decide +kernel
theorem dX12_character_17 : decode cX12_character 17 = .ok (.isub, 1) := by decide +kernel
theorem dX12_character_18 : decode cX12_character 18 = .ok (.i2l, 1) := by decide +kernel
theorem dX12_character_19 : decode cX12_character 19 = .ok (.invokestatic 58, 3) := by decide +kernel
theorem dX12_character_22 : decode cX12_character 22 = .ok (.ifCond .ne 10, 3) := by decide +kernel
theorem dX12_character_25 : decode cX12_character 25 = .ok (.aload_n 0, 1) := by decide +kernel
theorem dX12_character_26 : decode cX12_character 26 = .ok (.iconst 1, 1) := by decide +kernel
theorem dX12_character_27 : decode cX12_character 27 = .ok (.invokevirtual 174, 3) := by decide +kernel
theorem dX12_character_30 : decode cX12_character 30 = .ok (.i2c, 1) := by decide +kernel
theorem dX12_character_31 : decode cX12_character 31 = .ok (.ireturn, 1) := by decide +kernel
theorem dX12_character_32 : decode cX12_character 32 = .ok (.aload_n 0, 1) := by decide +kernel
theorem dX12_character_33 : decode cX12_character 33 = .ok (.iload_n 1, 1) := by decide +kernel
theorem dX12_character_34 : decode cX12_character 34 = .ok (.iload_n 2, 1) := by decide +kernel
theorem dX12_character_35 : decode cX12_character 35 = .ok (.invokevirtual 135, 3) := by decide +kernel
theorem dX12_character_38 : decode cX12_character 38 = .ok (.i2c, 1) := by decide +kernel
theorem dX12_character_39 : decode cX12_character 39 = .ok (.ireturn, 1) := by decide +kernel
theorem dX12_lead_0 : decode cX12_lead 0 = .ok (.aload_n 0, 1) := by decide +kernel
theorem dX12_lead_1 : decode cX12_lead 1 = .ok (.iconst 0, 1) := by decide +kernel
theorem dX12_lead_2 : decode cX12_lead 2 = .ok (.putfield 47, 3) := by decide +kernel
theorem dX12_lead_5 : decode cX12_lead 5 = .ok (.aload_n 0, 1) := by decide +kernel
theorem dX12_lead_6 : decode cX12_lead 6 = .ok (.aload_n 0, 1) := by decide +kernel
theorem dX12_lead_7 : decode cX12_lead 7 = .ok (.getfield 7, 3) := by decide +kernel
theorem dX12_lead_10 : decode cX12_lead 10 = .ok (.bipush 22, 2) := by decide +kernel
theorem dX12_lead_12 : decode cX12_lead 12 = .ok (.iaload, 1) := by decide +kernel
theorem dX12_lead_13 : decode cX12_lead 13 = .ok (.i2l, 1) := by decide +kernel
theorem dX12_lead_14 : decode cX12_lead 14 = .ok (.aload_n 0, 1) := by decide +kernel
theorem dX12_lead_15 : decode cX12_lead 15 = .ok (.getfield 7, 3) := by decide +kernel
theorem dX12_lead_18 : decode cX12_lead 18 = .ok (.iconst 1, 1) := by decide +kernel
theorem dX12_lead_19 : decode cX12_lead 19 = .ok (.iaload, 1) := by decide +kernel
theorem dX12_lead_20 : decode cX12_lead 20 = .ok (.i2l, 1) := by decide +kernel
theorem dX12_lead_21 : decode cX12_lead 21 = .ok (.aload_n 0, 1) := by decide +kernel
theorem dX12_lead_22 : decode cX12_lead 22 = .ok (.getfield 7, 3) := by decide +kernel
theorem dX12_lead_25 : decode cX12_lead 25 = .ok (.bipush 24, 2) := by decide +kernel
theorem dX12_lead_27 : decode cX12_lead 27 = .ok (.iaload, 1) := by decide +kernel
theorem dX12_lead_28 : decode cX12_lead 28 = .ok (.i2l, 1) := by decide +kernel
theorem dX12_lead_29 : decode cX12_lead 29 = .ok (.lmul, 1) := by decide +kernel
theorem dX12_lead_30 : decode cX12_lead 30 = .ok (.ladd, 1) := by decide +kernel
theorem dX12_lead_31 : decode cX12_lead 31 = .ok (.aload_n 0, 1) := by decide +kernel
theorem dX12_lead_32 : decode cX12_lead 32 = .ok (.getfield 7, 3) := by decide +kernel
theorem dX12_lead_35 : decode cX12_lead 35 = .ok (.bipush 21, 2) := by decide +kernel
theorem dX12_lead_37 : decode cX12_lead 37 = .ok (.iaload, 1) := by decide +kernel
theorem dX12_lead_38 : decode cX12_lead 38 = .ok (.i2l, 1) := by decide +kernel
theorem dX12_lead_39 : decode cX12_lead 39 = .ok (.lsub, 1) := by decide +kernel
theorem dX12_lead_40 : decode cX12_lead 40 = .ok (.invokevirtual 94, 3) := by decide +kernel
theorem dX12_lead_43 : decode cX12_lead 43 = .ok (.istore_n 1, 1) := by decide +kernel
theorem dX12_lead_44 : decode cX12_lead 44 = .ok (.iload_n 1, 1) := by decide +kernel
theorem dX12_lead_45 : decode cX12_lead 45 = .ok (.aload_n 0, 1) := by decide +kernel
theorem dX12_lead_46 : decode cX12_lead 46 = .ok (.invokevirtual 62, 3) := by decide +kernel
theorem dX12_lead_49 : decode cX12_lead 49 = .ok (.iconst 2, 1) := by decide +kernel
theorem dX12_lead_50 : decode cX12_lead 50 = .ok (.idiv, 1) := by decide +kernel
theorem dX12_lead_51 : decode cX12_lead 51 = .ok (.if_icmp .lt 12, 3) := by decide +kernel
theorem dX12_lead_54 : decode cX12_lead 54 = .ok (.iload_n 1, 1) := by decide +kernel
theorem dX12_lead_55 : decode cX12_lead 55 = .ok (.aload_n 0, 1) := by decide +kernel
theorem dX12_lead_56 : decode cX12_lead 56 = .ok (.invokevirtual 62, 3) := by decide +kernel
theorem dX12_lead_59 : decode cX12_lead 59 = .ok (.isub, 1) := by decide +kernel
theorem dX12_lead_60 : decode cX12_lead 60 = .ok (.goto 4, 3) := by decide +kernel
theorem dX12_lead_63 : decode cX12_lead 63 = .ok (.iload_n 1, 1) := by decide +kernel
theorem dX12_lead_64 : decode cX12_lead 64 = .ok (.ireturn, 1) := by decide +kernel
theorem dX12_lineCount_0 : decode cX12_lineCount 0 = .ok (.aload_n 0, 1) := by decide +kernel
theorem dX12_lineCount_1 : decode cX12_lineCount 1 = .ok (.iload_n 1, 1) := by decide +kernel
theorem dX12_lineCount_2 : decode cX12_lineCount 2 = .ok (.bipush 25, 2) := by decide +kernel
theorem dX12_lineCount_4 : decode cX12_lineCount 4 = .ok (.invokevirtual 177, 3) := by decide +kernel
theorem dX12_lineCount_7 : decode cX12_lineCount 7 = .ok (.ireturn, 1) := by decide +kernel
theorem dX12_linesDone_0 : decode cX12_linesDone 0 = .ok (.aload_n 0, 1) := by decide +kernel
theorem dX12_linesDone_1 : decode cX12_linesDone 1 = .ok (.iload_n 1, 1) := by decide +kernel
theorem dX12_linesDone_2 : decode cX12_linesDone 2 = .ok (.bipush 27, 2) := by decide +kernel
theorem dX12_linesDone_4 : decode cX12_linesDone 4 = .ok (.invokevirtual 177, 3) := by decide +kernel
theorem dX12_linesDone_7 : decode cX12_linesDone 7 = .ok (.ireturn, 1) := by decide +kernel
theorem dX12_lineLength_0 : decode cX12_lineLength 0 = .ok (.aload_n 0, 1) := by decide +kernel
theorem dX12_lineLength_1 : decode cX12_lineLength 1 = .ok (.iconst 0, 1) := by decide +kernel
theorem dX12_lineLength_2 : decode cX12_lineLength 2 = .ok (.putfield 47, 3) := by decide +kernel
theorem dX12_lineLength_5 : decode cX12_lineLength 5 = .ok (.aload_n 0, 1) := by decide +kernel
theorem dX12_lineLength_6 : decode cX12_lineLength 6 = .ok (.iload_n 1, 1) := by decide +kernel
theorem dX12_lineLength_7 : decode cX12_lineLength 7 = .ok (.iload_n 2, 1) := by decide +kernel
theorem dX12_lineLength_8 : decode cX12_lineLength 8 = .ok (.invokevirtual 182, 3) := by decide +kernel
theorem dX12_lineLength_11 : decode cX12_lineLength 11 = .ok (.ifCond .ne 9, 3) := by decide +kernel
theorem dX12_lineLength_14 : decode cX12_lineLength 14 = .ok (.aload_n 0, 1) := by decide +kernel
theorem dX12_lineLength_15 : decode cX12_lineLength 15 = .ok (.iconst 1, 1) := by decide +kernel
theorem dX12_lineLength_16 : decode cX12_lineLength 16 = .ok (.invokevirtual 174, 3) := by decide +kernel
theorem dX12_lineLength_19 : decode cX12_lineLength 19 = .ok (.ireturn, 1) := by decide +kernel
theorem dX12_lineLength_20 : decode cX12_lineLength 20 = .ok (.aload_n 0, 1) := by decide +kernel
theorem dX12_lineLength_21 : decode cX12_lineLength 21 = .ok (.getfield 7, 3) := by decide +kernel
theorem dX12_lineLength_24 : decode cX12_lineLength 24 = .ok (.sipush 219, 3) := by decide +kernel
theorem dX12_lineLength_27 : decode cX12_lineLength 27 = .ok (.aload_n 0, 1) := by decide +kernel
theorem dX12_lineLength_28 : decode cX12_lineLength 28 = .ok (.iload_n 1, 1) := by decide +kernel
theorem dX12_lineLength_29 : decode cX12_lineLength 29 = .ok (.iload_n 2, 1) := by decide +kernel
theorem dX12_lineLength_30 : decode cX12_lineLength 30 = .ok (.invokevirtual 76, 3) := by decide +kernel
theorem dX12_lineLength_33 : decode cX12_lineLength 33 = .ok (.iadd, 1) := by decide +kernel
theorem dX12_lineLength_34 : decode cX12_lineLength 34 = .ok (.iaload, 1) := by decide +kernel
theorem dX12_lineLength_35 : decode cX12_lineLength 35 = .ok (.ireturn, 1) := by decide +kernel
theorem dX12_pulsesOf_0 : decode cX12_pulsesOf 0 = .ok (.aload_n 0, 1) := by decide +kernel
theorem dX12_pulsesOf_1 : decode cX12_pulsesOf 1 = .ok (.iconst 0, 1) := by decide +kernel
theorem dX12_pulsesOf_2 : decode cX12_pulsesOf 2 = .ok (.putfield 47, 3) := by decide +kernel
theorem dX12_pulsesOf_5 : decode cX12_pulsesOf 5 = .ok (.aload_n 0, 1) := by decide +kernel
theorem dX12_pulsesOf_6 : decode cX12_pulsesOf 6 = .ok (.iload_n 1, 1) := by decide +kernel
theorem dX12_pulsesOf_7 : decode cX12_pulsesOf 7 = .ok (.iload_n 2, 1) := by decide +kernel
theorem dX12_pulsesOf_8 : decode cX12_pulsesOf 8 = .ok (.invokevirtual 182, 3) := by decide +kernel
theorem dX12_pulsesOf_11 : decode cX12_pulsesOf 11 = .ok (.ifCond .ne 9, 3) := by decide +kernel
theorem dX12_pulsesOf_14 : decode cX12_pulsesOf 14 = .ok (.aload_n 0, 1) := by decide +kernel
theorem dX12_pulsesOf_15 : decode cX12_pulsesOf 15 = .ok (.iconst 1, 1) := by decide +kernel
theorem dX12_pulsesOf_16 : decode cX12_pulsesOf 16 = .ok (.invokevirtual 174, 3) := by decide +kernel
theorem dX12_pulsesOf_19 : decode cX12_pulsesOf 19 = .ok (.ireturn, 1) := by decide +kernel
theorem dX12_pulsesOf_20 : decode cX12_pulsesOf 20 = .ok (.aload_n 0, 1) := by decide +kernel
theorem dX12_pulsesOf_21 : decode cX12_pulsesOf 21 = .ok (.iload_n 1, 1) := by decide +kernel
theorem dX12_pulsesOf_22 : decode cX12_pulsesOf 22 = .ok (.iload_n 2, 1) := by decide +kernel
theorem dX12_pulsesOf_23 : decode cX12_pulsesOf 23 = .ok (.invokevirtual 88, 3) := by decide +kernel
theorem dX12_pulsesOf_26 : decode cX12_pulsesOf 26 = .ok (.aload_n 0, 1) := by decide +kernel
theorem dX12_pulsesOf_27 : decode cX12_pulsesOf 27 = .ok (.getfield 66, 3) := by decide +kernel
theorem dX12_pulsesOf_30 : decode cX12_pulsesOf 30 = .ok (.ireturn, 1) := by decide +kernel
theorem dX12_pulseOf_0 : decode cX12_pulseOf 0 = .ok (.aload_n 0, 1) := by decide +kernel
theorem dX12_pulseOf_1 : decode cX12_pulseOf 1 = .ok (.iconst 0, 1) := by decide +kernel
theorem dX12_pulseOf_2 : decode cX12_pulseOf 2 = .ok (.putfield 47, 3) := by decide +kernel
theorem dX12_pulseOf_5 : decode cX12_pulseOf 5 = .ok (.aload_n 0, 1) := by decide +kernel
theorem dX12_pulseOf_6 : decode cX12_pulseOf 6 = .ok (.iload_n 1, 1) := by decide +kernel
theorem dX12_pulseOf_7 : decode cX12_pulseOf 7 = .ok (.iload_n 2, 1) := by decide +kernel
theorem dX12_pulseOf_8 : decode cX12_pulseOf 8 = .ok (.invokevirtual 182, 3) := by decide +kernel
theorem dX12_pulseOf_11 : decode cX12_pulseOf 11 = .ok (.ifCond .ne 9, 3) := by decide +kernel
theorem dX12_pulseOf_14 : decode cX12_pulseOf 14 = .ok (.aload_n 0, 1) := by decide +kernel
theorem dX12_pulseOf_15 : decode cX12_pulseOf 15 = .ok (.iconst 1, 1) := by decide +kernel
theorem dX12_pulseOf_16 : decode cX12_pulseOf 16 = .ok (.invokevirtual 174, 3) := by decide +kernel
theorem dX12_pulseOf_19 : decode cX12_pulseOf 19 = .ok (.ireturn, 1) := by decide +kernel
theorem dX12_pulseOf_20 : decode cX12_pulseOf 20 = .ok (.aload_n 0, 1) := by decide +kernel
theorem dX12_pulseOf_21 : decode cX12_pulseOf 21 = .ok (.iload_n 1, 1) := by decide +kernel
theorem dX12_pulseOf_22 : decode cX12_pulseOf 22 = .ok (.iload_n 2, 1) := by decide +kernel
theorem dX12_pulseOf_23 : decode cX12_pulseOf 23 = .ok (.invokevirtual 88, 3) := by decide +kernel
theorem dX12_pulseOf_26 : decode cX12_pulseOf 26 = .ok (.iload_n 3, 1) := by decide +kernel
theorem dX12_pulseOf_27 : decode cX12_pulseOf 27 = .ok (.i2l, 1) := by decide +kernel
theorem dX12_pulseOf_28 : decode cX12_pulseOf 28 = .ok (.lconst 0, 1) := by decide +kernel
theorem dX12_pulseOf_29 : decode cX12_pulseOf 29 = .ok (.aload_n 0, 1) := by decide +kernel
theorem dX12_pulseOf_30 : decode cX12_pulseOf 30 = .ok (.getfield 66, 3) := by decide +kernel
theorem dX12_pulseOf_33 : decode cX12_pulseOf 33 = .ok (.iconst 1, 1) := by decide +kernel
theorem dX12_pulseOf_34 : decode cX12_pulseOf 34 = .ok (.isub, 1) := by decide +kernel
theorem dX12_pulseOf_35 : decode cX12_pulseOf 35 = .ok (.i2l, 1) := by decide +kernel
theorem dX12_pulseOf_36 : decode cX12_pulseOf 36 = .ok (.invokestatic 58, 3) := by decide +kernel
theorem dX12_pulseOf_39 : decode cX12_pulseOf 39 = .ok (.ifCond .eq 12, 3) := by decide +kernel
theorem dX12_pulseOf_42 : decode cX12_pulseOf 42 = .ok (.aload_n 0, 1) := by decide +kernel
theorem dX12_pulseOf_43 : decode cX12_pulseOf 43 = .ok (.getfield 23, 3) := by decide +kernel
theorem dX12_pulseOf_46 : decode cX12_pulseOf 46 = .ok (.iload_n 3, 1) := by decide +kernel
theorem dX12_pulseOf_47 : decode cX12_pulseOf 47 = .ok (.iaload, 1) := by decide +kernel
theorem dX12_pulseOf_48 : decode cX12_pulseOf 48 = .ok (.goto 8, 3) := by decide +kernel
theorem dX12_pulseOf_51 : decode cX12_pulseOf 51 = .ok (.aload_n 0, 1) := by decide +kernel
theorem dX12_pulseOf_52 : decode cX12_pulseOf 52 = .ok (.iconst 1, 1) := by decide +kernel
theorem dX12_pulseOf_53 : decode cX12_pulseOf 53 = .ok (.invokevirtual 174, 3) := by decide +kernel
theorem dX12_pulseOf_56 : decode cX12_pulseOf 56 = .ok (.ireturn, 1) := by decide +kernel
theorem dX12_ticksFor_0 : decode cX12_ticksFor 0 = .ok (.aload_n 0, 1) := by decide +kernel
theorem dX12_ticksFor_1 : decode cX12_ticksFor 1 = .ok (.iconst 0, 1) := by decide +kernel
theorem dX12_ticksFor_2 : decode cX12_ticksFor 2 = .ok (.putfield 47, 3) := by decide +kernel
theorem dX12_ticksFor_5 : decode cX12_ticksFor 5 = .ok (.aload_n 0, 1) := by decide +kernel
theorem dX12_ticksFor_6 : decode cX12_ticksFor 6 = .ok (.iload_n 1, 1) := by decide +kernel
theorem dX12_ticksFor_7 : decode cX12_ticksFor 7 = .ok (.iload_n 2, 1) := by decide +kernel
theorem dX12_ticksFor_8 : decode cX12_ticksFor 8 = .ok (.invokevirtual 182, 3) := by decide +kernel
theorem dX12_ticksFor_11 : decode cX12_ticksFor 11 = .ok (.ifCond .ne 9, 3) := by decide +kernel
theorem dX12_ticksFor_14 : decode cX12_ticksFor 14 = .ok (.aload_n 0, 1) := by decide +kernel
theorem dX12_ticksFor_15 : decode cX12_ticksFor 15 = .ok (.iconst 1, 1) := by decide +kernel
theorem dX12_ticksFor_16 : decode cX12_ticksFor 16 = .ok (.invokevirtual 174, 3) := by decide +kernel
theorem dX12_ticksFor_19 : decode cX12_ticksFor 19 = .ok (.ireturn, 1) := by decide +kernel
theorem dX12_ticksFor_20 : decode cX12_ticksFor 20 = .ok (.aload_n 0, 1) := by decide +kernel
theorem dX12_ticksFor_21 : decode cX12_ticksFor 21 = .ok (.iload_n 1, 1) := by decide +kernel
theorem dX12_ticksFor_22 : decode cX12_ticksFor 22 = .ok (.iload_n 2, 1) := by decide +kernel
theorem dX12_ticksFor_23 : decode cX12_ticksFor 23 = .ok (.invokevirtual 186, 3) := by decide +kernel
theorem dX12_ticksFor_26 : decode cX12_ticksFor 26 = .ok (.ireturn, 1) := by decide +kernel
theorem dX12_slowestLine_0 : decode cX12_slowestLine 0 = .ok (.aload_n 0, 1) := by decide +kernel
theorem dX12_slowestLine_1 : decode cX12_slowestLine 1 = .ok (.iconst 0, 1) := by decide +kernel
theorem dX12_slowestLine_2 : decode cX12_slowestLine 2 = .ok (.putfield 47, 3) := by decide +kernel
theorem dX12_slowestLine_5 : decode cX12_slowestLine 5 = .ok (.iload_n 1, 1) := by decide +kernel
theorem dX12_slowestLine_6 : decode cX12_slowestLine 6 = .ok (.invokestatic 54, 3) := by decide +kernel
theorem dX12_slowestLine_9 : decode cX12_slowestLine 9 = .ok (.ifCond .ne 9, 3) := by decide +kernel
theorem dX12_slowestLine_12 : decode cX12_slowestLine 12 = .ok (.aload_n 0, 1) := by decide +kernel
theorem dX12_slowestLine_13 : decode cX12_slowestLine 13 = .ok (.iconst 1, 1) := by decide +kernel
theorem dX12_slowestLine_14 : decode cX12_slowestLine 14 = .ok (.invokevirtual 174, 3) := by decide +kernel
theorem dX12_slowestLine_17 : decode cX12_slowestLine 17 = .ok (.ireturn, 1) := by decide +kernel
theorem dX12_slowestLine_18 : decode cX12_slowestLine 18 = .ok (.iconst (-1), 1) := by decide +kernel
theorem dX12_slowestLine_19 : decode cX12_slowestLine 19 = .ok (.istore_n 2, 1) := by decide +kernel
theorem dX12_slowestLine_20 : decode cX12_slowestLine 20 = .ok (.iconst 0, 1) := by decide +kernel
theorem dX12_slowestLine_21 : decode cX12_slowestLine 21 = .ok (.istore_n 3, 1) := by decide +kernel
theorem dX12_slowestLine_22 : decode cX12_slowestLine 22 = .ok (.iconst 0, 1) := by decide +kernel
theorem dX12_slowestLine_23 : decode cX12_slowestLine 23 = .ok (.istore 4, 2) := by decide +kernel
theorem dX12_slowestLine_25 : decode cX12_slowestLine 25 = .ok (.iload 4, 2) := by decide +kernel
theorem dX12_slowestLine_27 : decode cX12_slowestLine 27 = .ok (.aload_n 0, 1) := by decide +kernel
theorem dX12_slowestLine_28 : decode cX12_slowestLine 28 = .ok (.getfield 7, 3) := by decide +kernel
theorem dX12_slowestLine_31 : decode cX12_slowestLine 31 = .ok (.bipush 25, 2) := by decide +kernel
theorem dX12_slowestLine_33 : decode cX12_slowestLine 33 = .ok (.iload_n 1, 1) := by decide +kernel
theorem dX12_slowestLine_34 : decode cX12_slowestLine 34 = .ok (.iadd, 1) := by decide +kernel
theorem dX12_slowestLine_35 : decode cX12_slowestLine 35 = .ok (.iaload, 1) := by decide +kernel
theorem dX12_slowestLine_36 : decode cX12_slowestLine 36 = .ok (.if_icmp .ge 38, 3) := by decide +kernel
theorem dX12_slowestLine_39 : decode cX12_slowestLine 39 = .ok (.aload_n 0, 1) := by decide +kernel
theorem dX12_slowestLine_40 : decode cX12_slowestLine 40 = .ok (.iload_n 1, 1) := by decide +kernel
theorem dX12_slowestLine_41 : decode cX12_slowestLine 41 = .ok (.iload 4, 2) := by decide +kernel
theorem dX12_slowestLine_43 : decode cX12_slowestLine 43 = .ok (.invokevirtual 186, 3) := by decide +kernel
theorem dX12_slowestLine_46 : decode cX12_slowestLine 46 = .ok (.istore 5, 2) := by decide +kernel
theorem dX12_slowestLine_48 : decode cX12_slowestLine 48 = .ok (.iload_n 2, 1) := by decide +kernel
theorem dX12_slowestLine_49 : decode cX12_slowestLine 49 = .ok (.iconst (-1), 1) := by decide +kernel
theorem dX12_slowestLine_50 : decode cX12_slowestLine 50 = .ok (.if_icmp .eq 12, 3) := by decide +kernel
theorem dX12_slowestLine_53 : decode cX12_slowestLine 53 = .ok (.iload 5, 2) := by decide +kernel
theorem dX12_slowestLine_55 : decode cX12_slowestLine 55 = .ok (.iload_n 3, 1) := by decide +kernel
theorem dX12_slowestLine_56 : decode cX12_slowestLine 56 = .ok (.if_icmp .gt 6, 3) := by decide +kernel
theorem dX12_slowestLine_59 : decode cX12_slowestLine 59 = .ok (.goto 9, 3) := by decide +kernel
theorem dX12_slowestLine_62 : decode cX12_slowestLine 62 = .ok (.iload 4, 2) := by decide +kernel
theorem dX12_slowestLine_64 : decode cX12_slowestLine 64 = .ok (.istore_n 2, 1) := by decide +kernel
theorem dX12_slowestLine_65 : decode cX12_slowestLine 65 = .ok (.iload 5, 2) := by decide +kernel
theorem dX12_slowestLine_67 : decode cX12_slowestLine 67 = .ok (.istore_n 3, 1) := by decide +kernel
theorem dX12_slowestLine_68 : decode cX12_slowestLine 68 = .ok (.iinc 4 1, 3) := by decide +kernel
theorem dX12_slowestLine_71 : decode cX12_slowestLine 71 = .ok (.goto (-46), 3) := by decide +kernel
theorem dX12_slowestLine_74 : decode cX12_slowestLine 74 = .ok (.iload_n 2, 1) := by decide +kernel
theorem dX12_slowestLine_75 : decode cX12_slowestLine 75 = .ok (.ireturn, 1) := by decide +kernel
theorem dX12_sender_0 : decode cX12_sender 0 = .ok (.aload_n 0, 1) := by decide +kernel
theorem dX12_sender_1 : decode cX12_sender 1 = .ok (.iconst 0, 1) := by decide +kernel
theorem dX12_sender_2 : decode cX12_sender 2 = .ok (.putfield 47, 3) := by decide +kernel
theorem dX12_sender_5 : decode cX12_sender 5 = .ok (.aload_n 0, 1) := by decide +kernel
theorem dX12_sender_6 : decode cX12_sender 6 = .ok (.getfield 7, 3) := by decide +kernel
theorem dX12_sender_9 : decode cX12_sender 9 = .ok (.bipush 6, 2) := by decide +kernel
theorem dX12_sender_11 : decode cX12_sender 11 = .ok (.iaload, 1) := by decide +kernel
theorem dX12_sender_12 : decode cX12_sender 12 = .ok (.ireturn, 1) := by decide +kernel
theorem dX12_isWaiting_0 : decode cX12_isWaiting 0 = .ok (.aload_n 0, 1) := by decide +kernel
theorem dX12_isWaiting_1 : decode cX12_isWaiting 1 = .ok (.iconst 0, 1) := by decide +kernel
theorem dX12_isWaiting_2 : decode cX12_isWaiting 2 = .ok (.putfield 47, 3) := by decide +kernel
theorem dX12_isWaiting_5 : decode cX12_isWaiting 5 = .ok (.aload_n 0, 1) := by decide +kernel
theorem dX12_isWaiting_6 : decode cX12_isWaiting 6 = .ok (.invokevirtual 158, 3) := by decide +kernel
theorem dX12_isWaiting_9 : decode cX12_isWaiting 9 = .ok (.ifCond .eq 18, 3) := by decide +kernel
theorem dX12_isWaiting_12 : decode cX12_isWaiting 12 = .ok (.aload_n 0, 1) := by decide +kernel
theorem dX12_isWaiting_13 : decode cX12_isWaiting 13 = .ok (.getfield 7, 3) := by decide +kernel
theorem dX12_isWaiting_16 : decode cX12_isWaiting 16 = .ok (.bipush 7, 2) := by decide +kernel
theorem dX12_isWaiting_18 : decode cX12_isWaiting 18 = .ok (.iaload, 1) := by decide +kernel
theorem dX12_isWaiting_19 : decode cX12_isWaiting 19 = .ok (.iconst 1, 1) := by decide +kernel
theorem dX12_isWaiting_20 : decode cX12_isWaiting 20 = .ok (.if_icmp .ne 7, 3) := by decide +kernel
theorem dX12_isWaiting_23 : decode cX12_isWaiting 23 = .ok (.iconst 1, 1) := by decide +kernel
theorem dX12_isWaiting_24 : decode cX12_isWaiting 24 = .ok (.goto 4, 3) := by decide +kernel
theorem dX12_isWaiting_27 : decode cX12_isWaiting 27 = .ok (.iconst 0, 1) := by decide +kernel
theorem dX12_isWaiting_28 : decode cX12_isWaiting 28 = .ok (.ireturn, 1) := by decide +kernel
theorem dX12_sentOfLine_0 : decode cX12_sentOfLine 0 = .ok (.aload_n 0, 1) := by decide +kernel
theorem dX12_sentOfLine_1 : decode cX12_sentOfLine 1 = .ok (.iconst 0, 1) := by decide +kernel
theorem dX12_sentOfLine_2 : decode cX12_sentOfLine 2 = .ok (.putfield 47, 3) := by decide +kernel
theorem dX12_sentOfLine_5 : decode cX12_sentOfLine 5 = .ok (.aload_n 0, 1) := by decide +kernel
theorem dX12_sentOfLine_6 : decode cX12_sentOfLine 6 = .ok (.invokevirtual 158, 3) := by decide +kernel
theorem dX12_sentOfLine_9 : decode cX12_sentOfLine 9 = .ok (.ifCond .eq 13, 3) := by decide +kernel
theorem dX12_sentOfLine_12 : decode cX12_sentOfLine 12 = .ok (.aload_n 0, 1) := by decide +kernel
theorem dX12_sentOfLine_13 : decode cX12_sentOfLine 13 = .ok (.getfield 7, 3) := by decide +kernel
theorem dX12_sentOfLine_16 : decode cX12_sentOfLine 16 = .ok (.bipush 9, 2) := by decide +kernel
theorem dX12_sentOfLine_18 : decode cX12_sentOfLine 18 = .ok (.iaload, 1) := by decide +kernel
theorem dX12_sentOfLine_19 : decode cX12_sentOfLine 19 = .ok (.goto 4, 3) := by decide +kernel
theorem dX12_sentOfLine_22 : decode cX12_sentOfLine 22 = .ok (.iconst 0, 1) := by decide +kernel
theorem dX12_sentOfLine_23 : decode cX12_sentOfLine 23 = .ok (.ireturn, 1) := by decide +kernel
theorem dX12_repetition_0 : decode cX12_repetition 0 = .ok (.aload_n 0, 1) := by decide +kernel
theorem dX12_repetition_1 : decode cX12_repetition 1 = .ok (.iconst 0, 1) := by decide +kernel
theorem dX12_repetition_2 : decode cX12_repetition 2 = .ok (.putfield 47, 3) := by decide +kernel
theorem dX12_repetition_5 : decode cX12_repetition 5 = .ok (.aload_n 0, 1) := by decide +kernel
theorem dX12_repetition_6 : decode cX12_repetition 6 = .ok (.invokevirtual 158, 3) := by decide +kernel
theorem dX12_repetition_9 : decode cX12_repetition 9 = .ok (.ifCond .eq 13, 3) := by decide +kernel
theorem dX12_repetition_12 : decode cX12_repetition 12 = .ok (.aload_n 0, 1) := by decide +kernel
theorem dX12_repetition_13 : decode cX12_repetition 13 = .ok (.getfield 7, 3) := by decide +kernel
theorem dX12_repetition_16 : decode cX12_repetition 16 = .ok (.bipush 10, 2) := by decide +kernel
theorem dX12_repetition_18 : decode cX12_repetition 18 = .ok (.iaload, 1) := by decide +kernel
theorem dX12_repetition_19 : decode cX12_repetition 19 = .ok (.goto 4, 3) := by decide +kernel
theorem dX12_repetition_22 : decode cX12_repetition 22 = .ok (.iconst 0, 1) := by decide +kernel
theorem dX12_repetition_23 : decode cX12_repetition 23 = .ok (.ireturn, 1) := by decide +kernel
theorem dX12_underWay_0 : decode cX12_underWay 0 = .ok (.aload_n 0, 1) := by decide +kernel
theorem dX12_underWay_1 : decode cX12_underWay 1 = .ok (.iconst 0, 1) := by decide +kernel
theorem dX12_underWay_2 : decode cX12_underWay 2 = .ok (.putfield 47, 3) := by decide +kernel
theorem dX12_underWay_5 : decode cX12_underWay 5 = .ok (.aload_n 0, 1) := by decide +kernel
theorem dX12_underWay_6 : decode cX12_underWay 6 = .ok (.getfield 7, 3) := by decide +kernel
theorem dX12_underWay_9 : decode cX12_underWay 9 = .ok (.bipush 19, 2) := by decide +kernel
theorem dX12_underWay_11 : decode cX12_underWay 11 = .ok (.iaload, 1) := by decide +kernel
theorem dX12_underWay_12 : decode cX12_underWay 12 = .ok (.ireturn, 1) := by decide +kernel
theorem dX12_nextPulseIn_0 : decode cX12_nextPulseIn 0 = .ok (.aload_n 0, 1) := by decide +kernel
theorem dX12_nextPulseIn_1 : decode cX12_nextPulseIn 1 = .ok (.iconst 0, 1) := by decide +kernel
theorem dX12_nextPulseIn_2 : decode cX12_nextPulseIn 2 = .ok (.putfield 47, 3) := by decide +kernel
theorem dX12_nextPulseIn_5 : decode cX12_nextPulseIn 5 = .ok (.aload_n 0, 1) := by decide +kernel
theorem dX12_nextPulseIn_6 : decode cX12_nextPulseIn 6 = .ok (.invokevirtual 158, 3) := by decide +kernel
theorem dX12_nextPulseIn_9 : decode cX12_nextPulseIn 9 = .ok (.ifCond .eq 14, 3) := by decide +kernel
theorem dX12_nextPulseIn_12 : decode cX12_nextPulseIn 12 = .ok (.aload_n 0, 1) := by decide +kernel
theorem dX12_nextPulseIn_13 : decode cX12_nextPulseIn 13 = .ok (.getfield 7, 3) := by decide +kernel
theorem dX12_nextPulseIn_16 : decode cX12_nextPulseIn 16 = .ok (.bipush 7, 2) := by decide +kernel
theorem dX12_nextPulseIn_18 : decode cX12_nextPulseIn 18 = .ok (.iaload, 1) := by decide +kernel
theorem dX12_nextPulseIn_19 : decode cX12_nextPulseIn 19 = .ok (.iconst 1, 1) := by decide +kernel
theorem dX12_nextPulseIn_20 : decode cX12_nextPulseIn 20 = .ok (.if_icmp .ne 5, 3) := by decide +kernel
theorem dX12_nextPulseIn_23 : decode cX12_nextPulseIn 23 = .ok (.iconst (-1), 1) := by decide +kernel
theorem dX12_nextPulseIn_24 : decode cX12_nextPulseIn 24 = .ok (.ireturn, 1) := by decide +kernel
theorem dX12_nextPulseIn_25 : decode cX12_nextPulseIn 25 = .ok (.aload_n 0, 1) := by decide +kernel
theorem dX12_nextPulseIn_26 : decode cX12_nextPulseIn 26 = .ok (.invokevirtual 162, 3) := by decide +kernel
theorem dX12_nextPulseIn_29 : decode cX12_nextPulseIn 29 = .ok (.aload_n 0, 1) := by decide +kernel
theorem dX12_nextPulseIn_30 : decode cX12_nextPulseIn 30 = .ok (.getfield 7, 3) := by decide +kernel
theorem dX12_nextPulseIn_33 : decode cX12_nextPulseIn 33 = .ok (.bipush 6, 2) := by decide +kernel
theorem dX12_nextPulseIn_35 : decode cX12_nextPulseIn 35 = .ok (.iaload, 1) := by decide +kernel
theorem dX12_nextPulseIn_36 : decode cX12_nextPulseIn 36 = .ok (.istore_n 1, 1) := by decide +kernel
theorem dX12_nextPulseIn_37 : decode cX12_nextPulseIn 37 = .ok (.aload_n 0, 1) := by decide +kernel
theorem dX12_nextPulseIn_38 : decode cX12_nextPulseIn 38 = .ok (.aload_n 0, 1) := by decide +kernel
theorem dX12_nextPulseIn_39 : decode cX12_nextPulseIn 39 = .ok (.getfield 7, 3) := by decide +kernel
theorem dX12_nextPulseIn_42 : decode cX12_nextPulseIn 42 = .ok (.bipush 21, 2) := by decide +kernel
theorem dX12_nextPulseIn_44 : decode cX12_nextPulseIn 44 = .ok (.iload_n 1, 1) := by decide +kernel
theorem dX12_nextPulseIn_45 : decode cX12_nextPulseIn 45 = .ok (.iadd, 1) := by decide +kernel
theorem dX12_nextPulseIn_46 : decode cX12_nextPulseIn 46 = .ok (.iaload, 1) := by decide +kernel
theorem dX12_nextPulseIn_47 : decode cX12_nextPulseIn 47 = .ok (.aload_n 0, 1) := by decide +kernel
theorem dX12_nextPulseIn_48 : decode cX12_nextPulseIn 48 = .ok (.getfield 7, 3) := by decide +kernel
theorem dX12_nextPulseIn_51 : decode cX12_nextPulseIn 51 = .ok (.bipush 23, 2) := by decide +kernel
theorem dX12_nextPulseIn_53 : decode cX12_nextPulseIn 53 = .ok (.iload_n 1, 1) := by decide +kernel
theorem dX12_nextPulseIn_54 : decode cX12_nextPulseIn 54 = .ok (.iadd, 1) := by decide +kernel
theorem dX12_nextPulseIn_55 : decode cX12_nextPulseIn 55 = .ok (.iaload, 1) := by decide +kernel
theorem dX12_nextPulseIn_56 : decode cX12_nextPulseIn 56 = .ok (.aload_n 0, 1) := by decide +kernel
theorem dX12_nextPulseIn_57 : decode cX12_nextPulseIn 57 = .ok (.getfield 23, 3) := by decide +kernel
theorem dX12_nextPulseIn_60 : decode cX12_nextPulseIn 60 = .ok (.aload_n 0, 1) := by decide +kernel
theorem dX12_nextPulseIn_61 : decode cX12_nextPulseIn 61 = .ok (.getfield 7, 3) := by decide +kernel
theorem dX12_nextPulseIn_64 : decode cX12_nextPulseIn 64 = .ok (.bipush 9, 2) := by decide +kernel
theorem dX12_nextPulseIn_66 : decode cX12_nextPulseIn 66 = .ok (.iaload, 1) := by decide +kernel
theorem dX12_nextPulseIn_67 : decode cX12_nextPulseIn 67 = .ok (.iaload, 1) := by decide +kernel
theorem dX12_nextPulseIn_68 : decode cX12_nextPulseIn 68 = .ok (.invokevirtual 98, 3) := by decide +kernel
theorem dX12_nextPulseIn_71 : decode cX12_nextPulseIn 71 = .ok (.ireturn, 1) := by decide +kernel
theorem dX12_silence_0 : decode cX12_silence 0 = .ok (.aload_n 0, 1) := by decide +kernel
theorem dX12_silence_1 : decode cX12_silence 1 = .ok (.iconst 0, 1) := by decide +kernel
theorem dX12_silence_2 : decode cX12_silence 2 = .ok (.putfield 47, 3) := by decide +kernel
theorem dX12_silence_5 : decode cX12_silence 5 = .ok (.aload_n 0, 1) := by decide +kernel
theorem dX12_silence_6 : decode cX12_silence 6 = .ok (.invokevirtual 158, 3) := by decide +kernel
theorem dX12_silence_9 : decode cX12_silence 9 = .ok (.ifCond .eq 20, 3) := by decide +kernel
theorem dX12_silence_12 : decode cX12_silence 12 = .ok (.aload_n 0, 1) := by decide +kernel
theorem dX12_silence_13 : decode cX12_silence 13 = .ok (.getfield 7, 3) := by decide +kernel
theorem dX12_silence_16 : decode cX12_silence 16 = .ok (.iconst 5, 1) := by decide +kernel
theorem dX12_silence_17 : decode cX12_silence 17 = .ok (.iaload, 1) := by decide +kernel
theorem dX12_silence_18 : decode cX12_silence 18 = .ok (.aload_n 0, 1) := by decide +kernel
theorem dX12_silence_19 : decode cX12_silence 19 = .ok (.getfield 7, 3) := by decide +kernel
theorem dX12_silence_22 : decode cX12_silence 22 = .ok (.bipush 15, 2) := by decide +kernel
theorem dX12_silence_24 : decode cX12_silence 24 = .ok (.iaload, 1) := by decide +kernel
theorem dX12_silence_25 : decode cX12_silence 25 = .ok (.isub, 1) := by decide +kernel
theorem dX12_silence_26 : decode cX12_silence 26 = .ok (.goto 4, 3) := by decide +kernel
theorem dX12_silence_29 : decode cX12_silence 29 = .ok (.iconst 0, 1) := by decide +kernel
theorem dX12_silence_30 : decode cX12_silence 30 = .ok (.ireturn, 1) := by decide +kernel
theorem dX12_bufferMany_0 : decode cX12_bufferMany 0 = .ok (.aload_n 0, 1) := by decide +kernel
theorem dX12_bufferMany_1 : decode cX12_bufferMany 1 = .ok (.invokevirtual 158, 3) := by decide +kernel
theorem dX12_bufferMany_4 : decode cX12_bufferMany 4 = .ok (.ifCond .eq 13, 3) := by decide +kernel
theorem dX12_bufferMany_7 : decode cX12_bufferMany 7 = .ok (.aload_n 0, 1) := by decide +kernel
theorem dX12_bufferMany_8 : decode cX12_bufferMany 8 = .ok (.getfield 7, 3) := by decide +kernel
theorem dX12_bufferMany_11 : decode cX12_bufferMany 11 = .ok (.bipush 11, 2) := by decide +kernel
theorem dX12_bufferMany_13 : decode cX12_bufferMany 13 = .ok (.iaload, 1) := by decide +kernel
theorem dX12_bufferMany_14 : decode cX12_bufferMany 14 = .ok (.goto 4, 3) := by decide +kernel
theorem dX12_bufferMany_17 : decode cX12_bufferMany 17 = .ok (.iconst 0, 1) := by decide +kernel
theorem dX12_bufferMany_18 : decode cX12_bufferMany 18 = .ok (.ireturn, 1) := by decide +kernel
theorem dX12_bufferLength_0 : decode cX12_bufferLength 0 = .ok (.aload_n 0, 1) := by decide +kernel
theorem dX12_bufferLength_1 : decode cX12_bufferLength 1 = .ok (.iconst 0, 1) := by decide +kernel
theorem dX12_bufferLength_2 : decode cX12_bufferLength 2 = .ok (.putfield 47, 3) := by decide +kernel
theorem dX12_bufferLength_5 : decode cX12_bufferLength 5 = .ok (.aload_n 0, 1) := by decide +kernel
theorem dX12_bufferLength_6 : decode cX12_bufferLength 6 = .ok (.invokevirtual 189, 3) := by decide +kernel
theorem dX12_bufferLength_9 : decode cX12_bufferLength 9 = .ok (.ireturn, 1) := by decide +kernel
theorem dX12_bufferCharacter_0 : decode cX12_bufferCharacter 0 = .ok (.aload_n 0, 1) := by decide +kernel
theorem dX12_bufferCharacter_1 : decode cX12_bufferCharacter 1 = .ok (.iconst 0, 1) := by decide +kernel
theorem dX12_bufferCharacter_2 : decode cX12_bufferCharacter 2 = .ok (.putfield 47, 3) := by decide +kernel
theorem dX12_bufferCharacter_5 : decode cX12_bufferCharacter 5 = .ok (.iload_n 1, 1) := by decide +kernel
theorem dX12_bufferCharacter_6 : decode cX12_bufferCharacter 6 = .ok (.i2l, 1) := by decide +kernel
theorem dX12_bufferCharacter_7 : decode cX12_bufferCharacter 7 = .ok (.lconst 0, 1) := by decide +kernel
theorem dX12_bufferCharacter_8 : decode cX12_bufferCharacter 8 = .ok (.aload_n 0, 1) := by decide +kernel
theorem dX12_bufferCharacter_9 : decode cX12_bufferCharacter 9 = .ok (.invokevirtual 189, 3) := by decide +kernel
theorem dX12_bufferCharacter_12 : decode cX12_bufferCharacter 12 = .ok (.iconst 1, 1) := by decide +kernel
theorem dX12_bufferCharacter_13 : decode cX12_bufferCharacter 13 = .ok (.isub, 1) := by decide +kernel
theorem dX12_bufferCharacter_14 : decode cX12_bufferCharacter 14 = .ok (.i2l, 1) := by decide +kernel
theorem dX12_bufferCharacter_15 : decode cX12_bufferCharacter 15 = .ok (.invokestatic 58, 3) := by decide +kernel
theorem dX12_bufferCharacter_18 : decode cX12_bufferCharacter 18 = .ok (.ifCond .ne 10, 3) := by decide +kernel
theorem dX12_bufferCharacter_21 : decode cX12_bufferCharacter 21 = .ok (.aload_n 0, 1) := by decide +kernel
theorem dX12_bufferCharacter_22 : decode cX12_bufferCharacter 22 = .ok (.iconst 1, 1) := by decide +kernel
theorem dX12_bufferCharacter_23 : decode cX12_bufferCharacter 23 = .ok (.invokevirtual 174, 3) := by decide +kernel
theorem dX12_bufferCharacter_26 : decode cX12_bufferCharacter 26 = .ok (.i2c, 1) := by decide +kernel
theorem dX12_bufferCharacter_27 : decode cX12_bufferCharacter 27 = .ok (.ireturn, 1) := by decide +kernel
theorem dX12_bufferCharacter_28 : decode cX12_bufferCharacter 28 = .ok (.aload_n 0, 1) := by decide +kernel
theorem dX12_bufferCharacter_29 : decode cX12_bufferCharacter 29 = .ok (.getfield 7, 3) := by decide +kernel
theorem dX12_bufferCharacter_32 : decode cX12_bufferCharacter 32 = .ok (.bipush 59, 2) := by decide +kernel
theorem dX12_bufferCharacter_34 : decode cX12_bufferCharacter 34 = .ok (.iload_n 1, 1) := by decide +kernel
theorem dX12_bufferCharacter_35 : decode cX12_bufferCharacter 35 = .ok (.iadd, 1) := by decide +kernel
theorem dX12_bufferCharacter_36 : decode cX12_bufferCharacter 36 = .ok (.iaload, 1) := by decide +kernel
theorem dX12_bufferCharacter_37 : decode cX12_bufferCharacter 37 = .ok (.i2c, 1) := by decide +kernel
theorem dX12_bufferCharacter_38 : decode cX12_bufferCharacter 38 = .ok (.ireturn, 1) := by decide +kernel
theorem dX12_receivedLength_0 : decode cX12_receivedLength 0 = .ok (.aload_n 0, 1) := by decide +kernel
theorem dX12_receivedLength_1 : decode cX12_receivedLength 1 = .ok (.iload_n 1, 1) := by decide +kernel
theorem dX12_receivedLength_2 : decode cX12_receivedLength 2 = .ok (.bipush 29, 2) := by decide +kernel
theorem dX12_receivedLength_4 : decode cX12_receivedLength 4 = .ok (.invokevirtual 177, 3) := by decide +kernel
theorem dX12_receivedLength_7 : decode cX12_receivedLength 7 = .ok (.ireturn, 1) := by decide +kernel
theorem dX12_receivedCharacter_0 : decode cX12_receivedCharacter 0 = .ok (.aload_n 0, 1) := by decide +kernel
theorem dX12_receivedCharacter_1 : decode cX12_receivedCharacter 1 = .ok (.iconst 0, 1) := by decide +kernel
theorem dX12_receivedCharacter_2 : decode cX12_receivedCharacter 2 = .ok (.putfield 47, 3) := by decide +kernel
theorem dX12_receivedCharacter_5 : decode cX12_receivedCharacter 5 = .ok (.iload_n 1, 1) := by decide +kernel
theorem dX12_receivedCharacter_6 : decode cX12_receivedCharacter 6 = .ok (.invokestatic 54, 3) := by decide +kernel
theorem dX12_receivedCharacter_9 : decode cX12_receivedCharacter 9 = .ok (.ifCond .eq 24, 3) := by decide +kernel
theorem dX12_receivedCharacter_12 : decode cX12_receivedCharacter 12 = .ok (.iload_n 2, 1) := by decide +kernel
theorem dX12_receivedCharacter_13 : decode cX12_receivedCharacter 13 = .ok (.i2l, 1) := by decide +kernel
theorem dX12_receivedCharacter_14 : decode cX12_receivedCharacter 14 = .ok (.lconst 0, 1) := by decide +kernel
theorem dX12_receivedCharacter_15 : decode cX12_receivedCharacter 15 = .ok (.aload_n 0, 1) := by decide +kernel
theorem dX12_receivedCharacter_16 : decode cX12_receivedCharacter 16 = .ok (.getfield 7, 3) := by decide +kernel
theorem dX12_receivedCharacter_19 : decode cX12_receivedCharacter 19 = .ok (.bipush 29, 2) := by decide +kernel
theorem dX12_receivedCharacter_21 : decode cX12_receivedCharacter 21 = .ok (.iload_n 1, 1) := by decide +kernel
theorem dX12_receivedCharacter_22 : decode cX12_receivedCharacter 22 = .ok (.iadd, 1) := by decide +kernel
theorem dX12_receivedCharacter_23 : decode cX12_receivedCharacter 23 = .ok (.iaload, 1) := by decide +kernel
theorem dX12_receivedCharacter_24 : decode cX12_receivedCharacter 24 = .ok (.iconst 1, 1) := by decide +kernel
theorem dX12_receivedCharacter_25 : decode cX12_receivedCharacter 25 = .ok (.isub, 1) := by decide +kernel
theorem dX12_receivedCharacter_26 : decode cX12_receivedCharacter 26 = .ok (.i2l, 1) := by decide +kernel
theorem dX12_receivedCharacter_27 : decode cX12_receivedCharacter 27 = .ok (.invokestatic 58, 3) := by decide +kernel
theorem dX12_receivedCharacter_30 : decode cX12_receivedCharacter 30 = .ok (.ifCond .ne 10, 3) := by decide +kernel
theorem dX12_receivedCharacter_33 : decode cX12_receivedCharacter 33 = .ok (.aload_n 0, 1) := by decide +kernel
theorem dX12_receivedCharacter_34 : decode cX12_receivedCharacter 34 = .ok (.iconst 1, 1) := by decide +kernel
theorem dX12_receivedCharacter_35 : decode cX12_receivedCharacter 35 = .ok (.invokevirtual 174, 3) := by decide +kernel
theorem dX12_receivedCharacter_38 : decode cX12_receivedCharacter 38 = .ok (.i2c, 1) := by decide +kernel
theorem dX12_receivedCharacter_39 : decode cX12_receivedCharacter 39 = .ok (.ireturn, 1) := by decide +kernel
theorem dX12_receivedCharacter_40 : decode cX12_receivedCharacter 40 = .ok (.aload_n 0, 1) := by decide +kernel
theorem dX12_receivedCharacter_41 : decode cX12_receivedCharacter 41 = .ok (.getfield 7, 3) := by decide +kernel
theorem dX12_receivedCharacter_44 : decode cX12_receivedCharacter 44 = .ok (.sipush 963, 3) := by decide +kernel
theorem dX12_receivedCharacter_47 : decode cX12_receivedCharacter 47 = .ok (.sipush 1000, 3) := by decide +kernel
theorem dX12_receivedCharacter_50 : decode cX12_receivedCharacter 50 = .ok (.iload_n 1, 1) := by decide +kernel
theorem dX12_receivedCharacter_51 : decode cX12_receivedCharacter 51 = .ok (.imul, 1) := by decide +kernel
theorem dX12_receivedCharacter_52 : decode cX12_receivedCharacter 52 = .ok (.iadd, 1) := by decide +kernel
theorem dX12_receivedCharacter_53 : decode cX12_receivedCharacter 53 = .ok (.iload_n 2, 1) := by decide +kernel
theorem dX12_receivedCharacter_54 : decode cX12_receivedCharacter 54 = .ok (.iadd, 1) := by decide +kernel
theorem dX12_receivedCharacter_55 : decode cX12_receivedCharacter 55 = .ok (.iaload, 1) := by decide +kernel
theorem dX12_receivedCharacter_56 : decode cX12_receivedCharacter 56 = .ok (.i2c, 1) := by decide +kernel
theorem dX12_receivedCharacter_57 : decode cX12_receivedCharacter 57 = .ok (.ireturn, 1) := by decide +kernel
theorem dX12_pulses_0 : decode cX12_pulses 0 = .ok (.aload_n 0, 1) := by decide +kernel
theorem dX12_pulses_1 : decode cX12_pulses 1 = .ok (.iconst 0, 1) := by decide +kernel
theorem dX12_pulses_2 : decode cX12_pulses 2 = .ok (.putfield 47, 3) := by decide +kernel
theorem dX12_pulses_5 : decode cX12_pulses 5 = .ok (.aload_n 0, 1) := by decide +kernel
theorem dX12_pulses_6 : decode cX12_pulses 6 = .ok (.getfield 7, 3) := by decide +kernel
theorem dX12_pulses_9 : decode cX12_pulses 9 = .ok (.bipush 16, 2) := by decide +kernel
theorem dX12_pulses_11 : decode cX12_pulses 11 = .ok (.iaload, 1) := by decide +kernel
theorem dX12_pulses_12 : decode cX12_pulses 12 = .ok (.ireturn, 1) := by decide +kernel
theorem dX12_lostPulses_0 : decode cX12_lostPulses 0 = .ok (.aload_n 0, 1) := by decide +kernel
theorem dX12_lostPulses_1 : decode cX12_lostPulses 1 = .ok (.iconst 0, 1) := by decide +kernel
theorem dX12_lostPulses_2 : decode cX12_lostPulses 2 = .ok (.putfield 47, 3) := by decide +kernel
theorem dX12_lostPulses_5 : decode cX12_lostPulses 5 = .ok (.aload_n 0, 1) := by decide +kernel
theorem dX12_lostPulses_6 : decode cX12_lostPulses 6 = .ok (.getfield 7, 3) := by decide +kernel
theorem dX12_lostPulses_9 : decode cX12_lostPulses 9 = .ok (.bipush 17, 2) := by decide +kernel
theorem dX12_lostPulses_11 : decode cX12_lostPulses 11 = .ok (.iaload, 1) := by decide +kernel
theorem dX12_lostPulses_12 : decode cX12_lostPulses 12 = .ok (.ireturn, 1) := by decide +kernel
theorem dX12_prints_0 : decode cX12_prints 0 = .ok (.aload_n 0, 1) := by decide +kernel
theorem dX12_prints_1 : decode cX12_prints 1 = .ok (.iload_n 1, 1) := by decide +kernel
theorem dX12_prints_2 : decode cX12_prints 2 = .ok (.bipush 31, 2) := by decide +kernel
theorem dX12_prints_4 : decode cX12_prints 4 = .ok (.invokevirtual 177, 3) := by decide +kernel
theorem dX12_prints_7 : decode cX12_prints 7 = .ok (.ireturn, 1) := by decide +kernel
theorem dX12_misprints_0 : decode cX12_misprints 0 = .ok (.aload_n 0, 1) := by decide +kernel
theorem dX12_misprints_1 : decode cX12_misprints 1 = .ok (.iload_n 1, 1) := by decide +kernel
theorem dX12_misprints_2 : decode cX12_misprints 2 = .ok (.bipush 33, 2) := by decide +kernel
theorem dX12_misprints_4 : decode cX12_misprints 4 = .ok (.invokevirtual 177, 3) := by decide +kernel
theorem dX12_misprints_7 : decode cX12_misprints 7 = .ok (.ireturn, 1) := by decide +kernel
theorem dX12_worstOffset_0 : decode cX12_worstOffset 0 = .ok (.aload_n 0, 1) := by decide +kernel
theorem dX12_worstOffset_1 : decode cX12_worstOffset 1 = .ok (.iload_n 1, 1) := by decide +kernel
theorem dX12_worstOffset_2 : decode cX12_worstOffset 2 = .ok (.bipush 35, 2) := by decide +kernel
theorem dX12_worstOffset_4 : decode cX12_worstOffset 4 = .ok (.invokevirtual 177, 3) := by decide +kernel
theorem dX12_worstOffset_7 : decode cX12_worstOffset 7 = .ok (.ireturn, 1) := by decide +kernel
theorem dX12_meanOffset_0 : decode cX12_meanOffset 0 = .ok (.aload_n 0, 1) := by decide +kernel
theorem dX12_meanOffset_1 : decode cX12_meanOffset 1 = .ok (.iconst 0, 1) := by decide +kernel
theorem dX12_meanOffset_2 : decode cX12_meanOffset 2 = .ok (.putfield 47, 3) := by decide +kernel
theorem dX12_meanOffset_5 : decode cX12_meanOffset 5 = .ok (.iload_n 1, 1) := by decide +kernel
theorem dX12_meanOffset_6 : decode cX12_meanOffset 6 = .ok (.invokestatic 54, 3) := by decide +kernel
theorem dX12_meanOffset_9 : decode cX12_meanOffset 9 = .ok (.ifCond .ne 11, 3) := by decide +kernel
theorem dX12_meanOffset_12 : decode cX12_meanOffset 12 = .ok (.aload_n 0, 1) := by decide +kernel
theorem dX12_meanOffset_13 : decode cX12_meanOffset 13 = .ok (.iconst 1, 1) := by decide +kernel
theorem dX12_meanOffset_14 : decode cX12_meanOffset 14 = .ok (.invokevirtual 174, 3) := by decide +kernel
theorem dX12_meanOffset_17 : decode cX12_meanOffset 17 = .ok (.pop, 1) := by decide +kernel
theorem dX12_meanOffset_18 : decode cX12_meanOffset 18 = .ok (.dconst 0, 1) := by decide +kernel
theorem dX12_meanOffset_19 : decode cX12_meanOffset 19 = .ok (.dreturn, 1) := by decide +kernel
theorem dX12_meanOffset_20 : decode cX12_meanOffset 20 = .ok (.aload_n 0, 1) := by decide +kernel
theorem dX12_meanOffset_21 : decode cX12_meanOffset 21 = .ok (.getfield 7, 3) := by decide +kernel
theorem dX12_meanOffset_24 : decode cX12_meanOffset 24 = .ok (.bipush 31, 2) := by decide +kernel
theorem dX12_meanOffset_26 : decode cX12_meanOffset 26 = .ok (.iload_n 1, 1) := by decide +kernel
theorem dX12_meanOffset_27 : decode cX12_meanOffset 27 = .ok (.iadd, 1) := by decide +kernel
theorem dX12_meanOffset_28 : decode cX12_meanOffset 28 = .ok (.iaload, 1) := by decide +kernel
theorem dX12_meanOffset_29 : decode cX12_meanOffset 29 = .ok (.ifCond .ne 5, 3) := by decide +kernel
theorem dX12_meanOffset_32 : decode cX12_meanOffset 32 = .ok (.dconst 0, 1) := by decide +kernel
theorem dX12_meanOffset_33 : decode cX12_meanOffset 33 = .ok (.dreturn, 1) := by decide +kernel
theorem dX12_meanOffset_34 : decode cX12_meanOffset 34 = .ok (.aload_n 0, 1) := by decide +kernel
theorem dX12_meanOffset_35 : decode cX12_meanOffset 35 = .ok (.getfield 7, 3) := by decide +kernel
theorem dX12_meanOffset_38 : decode cX12_meanOffset 38 = .ok (.bipush 37, 2) := by decide +kernel
theorem dX12_meanOffset_40 : decode cX12_meanOffset 40 = .ok (.iload_n 1, 1) := by decide +kernel
theorem dX12_meanOffset_41 : decode cX12_meanOffset 41 = .ok (.iadd, 1) := by decide +kernel
theorem dX12_meanOffset_42 : decode cX12_meanOffset 42 = .ok (.iaload, 1) := by decide +kernel
theorem dX12_meanOffset_43 : decode cX12_meanOffset 43 = .ok (.i2d, 1) := by decide +kernel
theorem dX12_meanOffset_44 : decode cX12_meanOffset 44 = .ok (.aload_n 0, 1) := by decide +kernel
theorem dX12_meanOffset_45 : decode cX12_meanOffset 45 = .ok (.getfield 7, 3) := by decide +kernel
theorem dX12_meanOffset_48 : decode cX12_meanOffset 48 = .ok (.bipush 31, 2) := by decide +kernel
theorem dX12_meanOffset_50 : decode cX12_meanOffset 50 = .ok (.iload_n 1, 1) := by decide +kernel
theorem dX12_meanOffset_51 : decode cX12_meanOffset 51 = .ok (.iadd, 1) := by decide +kernel
theorem dX12_meanOffset_52 : decode cX12_meanOffset 52 = .ok (.iaload, 1) := by decide +kernel
theorem dX12_meanOffset_53 : decode cX12_meanOffset 53 = .ok (.i2d, 1) := by decide +kernel
theorem dX12_meanOffset_54 : decode cX12_meanOffset 54 = .ok (.ddiv, 1) := by decide +kernel
theorem dX12_meanOffset_55 : decode cX12_meanOffset 55 = .ok (.dreturn, 1) := by decide +kernel
theorem dX12_eventCount_0 : decode cX12_eventCount 0 = .ok (.aload_n 0, 1) := by decide +kernel
theorem dX12_eventCount_1 : decode cX12_eventCount 1 = .ok (.iconst 0, 1) := by decide +kernel
theorem dX12_eventCount_2 : decode cX12_eventCount 2 = .ok (.putfield 47, 3) := by decide +kernel
theorem dX12_eventCount_5 : decode cX12_eventCount 5 = .ok (.aload_n 0, 1) := by decide +kernel
theorem dX12_eventCount_6 : decode cX12_eventCount 6 = .ok (.getfield 7, 3) := by decide +kernel
theorem dX12_eventCount_9 : decode cX12_eventCount 9 = .ok (.bipush 18, 2) := by decide +kernel
theorem dX12_eventCount_11 : decode cX12_eventCount 11 = .ok (.iaload, 1) := by decide +kernel
theorem dX12_eventCount_12 : decode cX12_eventCount 12 = .ok (.ireturn, 1) := by decide +kernel
theorem dX12_event_0 : decode cX12_event 0 = .ok (.aload_n 0, 1) := by decide +kernel
theorem dX12_event_1 : decode cX12_event 1 = .ok (.iconst 0, 1) := by decide +kernel
theorem dX12_event_2 : decode cX12_event 2 = .ok (.putfield 47, 3) := by decide +kernel
theorem dX12_event_5 : decode cX12_event 5 = .ok (.iload_n 1, 1) := by decide +kernel
theorem dX12_event_6 : decode cX12_event 6 = .ok (.i2l, 1) := by decide +kernel
theorem dX12_event_7 : decode cX12_event 7 = .ok (.lconst 0, 1) := by decide +kernel
theorem dX12_event_8 : decode cX12_event 8 = .ok (.aload_n 0, 1) := by decide +kernel
theorem dX12_event_9 : decode cX12_event 9 = .ok (.getfield 7, 3) := by decide +kernel
theorem dX12_event_12 : decode cX12_event 12 = .ok (.bipush 18, 2) := by decide +kernel
theorem dX12_event_14 : decode cX12_event 14 = .ok (.iaload, 1) := by decide +kernel
theorem dX12_event_15 : decode cX12_event 15 = .ok (.iconst 1, 1) := by decide +kernel
theorem dX12_event_16 : decode cX12_event 16 = .ok (.isub, 1) := by decide +kernel
theorem dX12_event_17 : decode cX12_event 17 = .ok (.i2l, 1) := by decide +kernel
theorem dX12_event_18 : decode cX12_event 18 = .ok (.invokestatic 58, 3) := by decide +kernel
theorem dX12_event_21 : decode cX12_event 21 = .ok (.ifCond .ne 9, 3) := by decide +kernel
theorem dX12_event_24 : decode cX12_event 24 = .ok (.aload_n 0, 1) := by decide +kernel
theorem dX12_event_25 : decode cX12_event 25 = .ok (.iconst 1, 1) := by decide +kernel
theorem dX12_event_26 : decode cX12_event 26 = .ok (.invokevirtual 174, 3) := by decide +kernel
theorem dX12_event_29 : decode cX12_event 29 = .ok (.ireturn, 1) := by decide +kernel
theorem dX12_event_30 : decode cX12_event 30 = .ok (.iload_n 2, 1) := by decide +kernel
theorem dX12_event_31 : decode cX12_event 31 = .ok (.i2l, 1) := by decide +kernel
theorem dX12_event_32 : decode cX12_event 32 = .ok (.lconst 0, 1) := by decide +kernel
theorem dX12_event_33 : decode cX12_event 33 = .ok (.ldc2_w 180, 3) := by decide +kernel
theorem dX12_event_36 : decode cX12_event 36 = .ok (.invokestatic 58, 3) := by decide +kernel
theorem dX12_event_39 : decode cX12_event 39 = .ok (.ifCond .ne 9, 3) := by decide +kernel
theorem dX12_event_42 : decode cX12_event 42 = .ok (.aload_n 0, 1) := by decide +kernel
theorem dX12_event_43 : decode cX12_event 43 = .ok (.iconst 2, 1) := by decide +kernel
theorem dX12_event_44 : decode cX12_event 44 = .ok (.invokevirtual 174, 3) := by decide +kernel
theorem dX12_event_47 : decode cX12_event 47 = .ok (.ireturn, 1) := by decide +kernel
theorem dX12_event_48 : decode cX12_event 48 = .ok (.aload_n 0, 1) := by decide +kernel
theorem dX12_event_49 : decode cX12_event 49 = .ok (.getfield 7, 3) := by decide +kernel
theorem dX12_event_52 : decode cX12_event 52 = .ok (.bipush 99, 2) := by decide +kernel
theorem dX12_event_54 : decode cX12_event 54 = .ok (.iconst 3, 1) := by decide +kernel
theorem dX12_event_55 : decode cX12_event 55 = .ok (.iload_n 1, 1) := by decide +kernel
theorem dX12_event_56 : decode cX12_event 56 = .ok (.imul, 1) := by decide +kernel
theorem dX12_event_57 : decode cX12_event 57 = .ok (.iadd, 1) := by decide +kernel
theorem dX12_event_58 : decode cX12_event 58 = .ok (.iload_n 2, 1) := by decide +kernel
theorem dX12_event_59 : decode cX12_event 59 = .ok (.iadd, 1) := by decide +kernel
theorem dX12_event_60 : decode cX12_event 60 = .ok (.iaload, 1) := by decide +kernel
theorem dX12_event_61 : decode cX12_event 61 = .ok (.ireturn, 1) := by decide +kernel
theorem dX12_run_0 : decode cX12_run 0 = .ok (.aload_n 0, 1) := by decide +kernel
theorem dX12_run_1 : decode cX12_run 1 = .ok (.iconst 0, 1) := by decide +kernel
theorem dX12_run_2 : decode cX12_run 2 = .ok (.putfield 47, 3) := by decide +kernel
theorem dX12_run_5 : decode cX12_run 5 = .ok (.iload_n 1, 1) := by decide +kernel
theorem dX12_run_6 : decode cX12_run 6 = .ok (.i2l, 1) := by decide +kernel
theorem dX12_run_7 : decode cX12_run 7 = .ok (.lconst 1, 1) := by decide +kernel
theorem dX12_run_8 : decode cX12_run 8 = .ok (.ldc2_w 192, 3) := by decide +kernel
theorem dX12_run_11 : decode cX12_run 11 = .ok (.invokestatic 58, 3) := by decide +kernel
theorem dX12_run_14 : decode cX12_run 14 = .ok (.ifCond .ne 9, 3) := by decide +kernel
theorem dX12_run_17 : decode cX12_run 17 = .ok (.aload_n 0, 1) := by decide +kernel
theorem dX12_run_18 : decode cX12_run 18 = .ok (.iconst 1, 1) := by decide +kernel
theorem dX12_run_19 : decode cX12_run 19 = .ok (.invokevirtual 174, 3) := by decide +kernel
theorem dX12_run_22 : decode cX12_run 22 = .ok (.ireturn, 1) := by decide +kernel
theorem dX12_run_23 : decode cX12_run 23 = .ok (.aload_n 0, 1) := by decide +kernel
theorem dX12_run_24 : decode cX12_run 24 = .ok (.getfield 7, 3) := by decide +kernel
theorem dX12_run_27 : decode cX12_run 27 = .ok (.iconst 5, 1) := by decide +kernel
theorem dX12_run_28 : decode cX12_run 28 = .ok (.iaload, 1) := by decide +kernel
theorem dX12_run_29 : decode cX12_run 29 = .ok (.iload_n 1, 1) := by decide +kernel
theorem dX12_run_30 : decode cX12_run 30 = .ok (.iadd, 1) := by decide +kernel
theorem dX12_run_31 : decode cX12_run 31 = .ok (.ldc 194, 2) := by decide +kernel
theorem dX12_run_33 : decode cX12_run 33 = .ok (.if_icmp .le 9, 3) := by decide +kernel
theorem dX12_run_36 : decode cX12_run 36 = .ok (.aload_n 0, 1) := by decide +kernel
theorem dX12_run_37 : decode cX12_run 37 = .ok (.iconst 2, 1) := by decide +kernel
theorem dX12_run_38 : decode cX12_run 38 = .ok (.invokevirtual 174, 3) := by decide +kernel
theorem dX12_run_41 : decode cX12_run 41 = .ok (.ireturn, 1) := by decide +kernel
theorem dX12_run_42 : decode cX12_run 42 = .ok (.aload_n 0, 1) := by decide +kernel
theorem dX12_run_43 : decode cX12_run 43 = .ok (.invokevirtual 195, 3) := by decide +kernel
theorem dX12_run_46 : decode cX12_run 46 = .ok (.aload_n 0, 1) := by decide +kernel
theorem dX12_run_47 : decode cX12_run 47 = .ok (.getfield 7, 3) := by decide +kernel
theorem dX12_run_50 : decode cX12_run 50 = .ok (.bipush 16, 2) := by decide +kernel
theorem dX12_run_52 : decode cX12_run 52 = .ok (.iaload, 1) := by decide +kernel
theorem dX12_run_53 : decode cX12_run 53 = .ok (.istore_n 2, 1) := by decide +kernel
theorem dX12_run_54 : decode cX12_run 54 = .ok (.iconst 0, 1) := by decide +kernel
theorem dX12_run_55 : decode cX12_run 55 = .ok (.istore_n 3, 1) := by decide +kernel
theorem dX12_run_56 : decode cX12_run 56 = .ok (.iload_n 3, 1) := by decide +kernel
theorem dX12_run_57 : decode cX12_run 57 = .ok (.iload_n 1, 1) := by decide +kernel
theorem dX12_run_58 : decode cX12_run 58 = .ok (.if_icmp .ge 13, 3) := by decide +kernel
theorem dX12_run_61 : decode cX12_run 61 = .ok (.aload_n 0, 1) := by decide +kernel
theorem dX12_run_62 : decode cX12_run 62 = .ok (.invokevirtual 198, 3) := by decide +kernel
theorem dX12_run_65 : decode cX12_run 65 = .ok (.iinc 3 1, 3) := by decide +kernel
theorem dX12_run_68 : decode cX12_run 68 = .ok (.goto (-12), 3) := by decide +kernel
theorem dX12_run_71 : decode cX12_run 71 = .ok (.aload_n 0, 1) := by decide +kernel
theorem dX12_run_72 : decode cX12_run 72 = .ok (.getfield 7, 3) := by decide +kernel
theorem dX12_run_75 : decode cX12_run 75 = .ok (.bipush 16, 2) := by decide +kernel
theorem dX12_run_77 : decode cX12_run 77 = .ok (.iaload, 1) := by decide +kernel
theorem dX12_run_78 : decode cX12_run 78 = .ok (.iload_n 2, 1) := by decide +kernel
theorem dX12_run_79 : decode cX12_run 79 = .ok (.isub, 1) := by decide +kernel
theorem dX12_run_80 : decode cX12_run 80 = .ok (.ireturn, 1) := by decide +kernel
theorem dX12_goesOn_0 : decode cX12_goesOn 0 = .ok (.iconst 0, 1) := by decide +kernel
theorem dX12_goesOn_1 : decode cX12_goesOn 1 = .ok (.istore_n 2, 1) := by decide +kernel
theorem dX12_goesOn_2 : decode cX12_goesOn 2 = .ok (.iload_n 2, 1) := by decide +kernel
theorem dX12_goesOn_3 : decode cX12_goesOn 3 = .ok (.iload_n 1, 1) := by decide +kernel
theorem dX12_goesOn_4 : decode cX12_goesOn 4 = .ok (.if_icmp .ge 20, 3) := by decide +kernel
theorem dX12_goesOn_7 : decode cX12_goesOn 7 = .ok (.aload_n 0, 1) := by decide +kernel
theorem dX12_goesOn_8 : decode cX12_goesOn 8 = .ok (.invokevirtual 158, 3) := by decide +kernel
theorem dX12_goesOn_11 : decode cX12_goesOn 11 = .ok (.ifCond .eq 13, 3) := by decide +kernel
theorem dX12_goesOn_14 : decode cX12_goesOn 14 = .ok (.aload_n 0, 1) := by decide +kernel
theorem dX12_goesOn_15 : decode cX12_goesOn 15 = .ok (.invokevirtual 198, 3) := by decide +kernel
theorem dX12_goesOn_18 : decode cX12_goesOn 18 = .ok (.iinc 2 1, 3) := by decide +kernel
theorem dX12_goesOn_21 : decode cX12_goesOn 21 = .ok (.goto (-19), 3) := by decide +kernel
theorem dX12_goesOn_24 : decode cX12_goesOn 24 = .ok (.iload_n 2, 1) := by decide +kernel
theorem dX12_goesOn_25 : decode cX12_goesOn 25 = .ok (.ireturn, 1) := by decide +kernel
theorem dX12_runUntilDone_0 : decode cX12_runUntilDone 0 = .ok (.aload_n 0, 1) := by decide +kernel
theorem dX12_runUntilDone_1 : decode cX12_runUntilDone 1 = .ok (.iconst 0, 1) := by decide +kernel
theorem dX12_runUntilDone_2 : decode cX12_runUntilDone 2 = .ok (.putfield 47, 3) := by decide +kernel
theorem dX12_runUntilDone_5 : decode cX12_runUntilDone 5 = .ok (.iload_n 1, 1) := by decide +kernel
theorem dX12_runUntilDone_6 : decode cX12_runUntilDone 6 = .ok (.i2l, 1) := by decide +kernel
theorem dX12_runUntilDone_7 : decode cX12_runUntilDone 7 = .ok (.lconst 1, 1) := by decide +kernel
theorem dX12_runUntilDone_8 : decode cX12_runUntilDone 8 = .ok (.ldc2_w 201, 3) := by decide +kernel
theorem dX12_runUntilDone_11 : decode cX12_runUntilDone 11 = .ok (.invokestatic 58, 3) := by decide +kernel
theorem dX12_runUntilDone_14 : decode cX12_runUntilDone 14 = .ok (.ifCond .ne 9, 3) := by decide +kernel
theorem dX12_runUntilDone_17 : decode cX12_runUntilDone 17 = .ok (.aload_n 0, 1) := by decide +kernel
theorem dX12_runUntilDone_18 : decode cX12_runUntilDone 18 = .ok (.iconst 1, 1) := by decide +kernel
theorem dX12_runUntilDone_19 : decode cX12_runUntilDone 19 = .ok (.invokevirtual 174, 3) := by decide +kernel
theorem dX12_runUntilDone_22 : decode cX12_runUntilDone 22 = .ok (.ireturn, 1) := by decide +kernel
theorem dX12_runUntilDone_23 : decode cX12_runUntilDone 23 = .ok (.aload_n 0, 1) := by decide +kernel
theorem dX12_runUntilDone_24 : decode cX12_runUntilDone 24 = .ok (.getfield 7, 3) := by decide +kernel
theorem dX12_runUntilDone_27 : decode cX12_runUntilDone 27 = .ok (.iconst 5, 1) := by decide +kernel
theorem dX12_runUntilDone_28 : decode cX12_runUntilDone 28 = .ok (.iaload, 1) := by decide +kernel
theorem dX12_runUntilDone_29 : decode cX12_runUntilDone 29 = .ok (.iload_n 1, 1) := by decide +kernel
theorem dX12_runUntilDone_30 : decode cX12_runUntilDone 30 = .ok (.iadd, 1) := by decide +kernel
theorem dX12_runUntilDone_31 : decode cX12_runUntilDone 31 = .ok (.ldc 194, 2) := by decide +kernel
theorem dX12_runUntilDone_33 : decode cX12_runUntilDone 33 = .ok (.if_icmp .le 9, 3) := by decide +kernel
theorem dX12_runUntilDone_36 : decode cX12_runUntilDone 36 = .ok (.aload_n 0, 1) := by decide +kernel
theorem dX12_runUntilDone_37 : decode cX12_runUntilDone 37 = .ok (.iconst 2, 1) := by decide +kernel
theorem dX12_runUntilDone_38 : decode cX12_runUntilDone 38 = .ok (.invokevirtual 174, 3) := by decide +kernel
theorem dX12_runUntilDone_41 : decode cX12_runUntilDone 41 = .ok (.ireturn, 1) := by decide +kernel
theorem dX12_runUntilDone_42 : decode cX12_runUntilDone 42 = .ok (.aload_n 0, 1) := by decide +kernel
theorem dX12_runUntilDone_43 : decode cX12_runUntilDone 43 = .ok (.invokevirtual 195, 3) := by decide +kernel
theorem dX12_runUntilDone_46 : decode cX12_runUntilDone 46 = .ok (.aload_n 0, 1) := by decide +kernel
theorem dX12_runUntilDone_47 : decode cX12_runUntilDone 47 = .ok (.iload_n 1, 1) := by decide +kernel
theorem dX12_runUntilDone_48 : decode cX12_runUntilDone 48 = .ok (.invokevirtual 203, 3) := by decide +kernel
theorem dX12_runUntilDone_51 : decode cX12_runUntilDone 51 = .ok (.ireturn, 1) := by decide +kernel
theorem dX12_start_0 : decode cX12_start 0 = .ok (.aload_n 0, 1) := by decide +kernel
theorem dX12_start_1 : decode cX12_start 1 = .ok (.iconst 0, 1) := by decide +kernel
theorem dX12_start_2 : decode cX12_start 2 = .ok (.putfield 47, 3) := by decide +kernel
theorem dX12_start_5 : decode cX12_start 5 = .ok (.iload_n 1, 1) := by decide +kernel
theorem dX12_start_6 : decode cX12_start 6 = .ok (.invokestatic 54, 3) := by decide +kernel
theorem dX12_start_9 : decode cX12_start 9 = .ok (.ifCond .ne 9, 3) := by decide +kernel
theorem dX12_start_12 : decode cX12_start 12 = .ok (.aload_n 0, 1) := by decide +kernel
theorem dX12_start_13 : decode cX12_start 13 = .ok (.iconst 1, 1) := by decide +kernel
theorem dX12_start_14 : decode cX12_start 14 = .ok (.invokevirtual 174, 3) := by decide +kernel
theorem dX12_start_17 : decode cX12_start 17 = .ok (.ireturn, 1) := by decide +kernel
theorem dX12_start_18 : decode cX12_start 18 = .ok (.aload_n 0, 1) := by decide +kernel
theorem dX12_start_19 : decode cX12_start 19 = .ok (.invokevirtual 158, 3) := by decide +kernel
theorem dX12_start_22 : decode cX12_start 22 = .ok (.ifCond .ne 24, 3) := by decide +kernel
theorem dX12_start_25 : decode cX12_start 25 = .ok (.aload_n 0, 1) := by decide +kernel
theorem dX12_start_26 : decode cX12_start 26 = .ok (.getfield 7, 3) := by decide +kernel
theorem dX12_start_29 : decode cX12_start 29 = .ok (.bipush 27, 2) := by decide +kernel
theorem dX12_start_31 : decode cX12_start 31 = .ok (.iload_n 1, 1) := by decide +kernel
theorem dX12_start_32 : decode cX12_start 32 = .ok (.iadd, 1) := by decide +kernel
theorem dX12_start_33 : decode cX12_start 33 = .ok (.iaload, 1) := by decide +kernel
theorem dX12_start_34 : decode cX12_start 34 = .ok (.aload_n 0, 1) := by decide +kernel
theorem dX12_start_35 : decode cX12_start 35 = .ok (.getfield 7, 3) := by decide +kernel
theorem dX12_start_38 : decode cX12_start 38 = .ok (.bipush 25, 2) := by decide +kernel
theorem dX12_start_40 : decode cX12_start 40 = .ok (.iload_n 1, 1) := by decide +kernel
theorem dX12_start_41 : decode cX12_start 41 = .ok (.iadd, 1) := by decide +kernel
theorem dX12_start_42 : decode cX12_start 42 = .ok (.iaload, 1) := by decide +kernel
theorem dX12_start_43 : decode cX12_start 43 = .ok (.if_icmp .ne 9, 3) := by decide +kernel
theorem dX12_start_46 : decode cX12_start 46 = .ok (.aload_n 0, 1) := by decide +kernel
theorem dX12_start_47 : decode cX12_start 47 = .ok (.iconst 2, 1) := by decide +kernel
theorem dX12_start_48 : decode cX12_start 48 = .ok (.invokevirtual 174, 3) := by decide +kernel
theorem dX12_start_51 : decode cX12_start 51 = .ok (.ireturn, 1) := by decide +kernel
theorem dX12_start_52 : decode cX12_start 52 = .ok (.aload_n 0, 1) := by decide +kernel
theorem dX12_start_53 : decode cX12_start 53 = .ok (.invokevirtual 195, 3) := by decide +kernel
theorem dX12_start_56 : decode cX12_start 56 = .ok (.aload_n 0, 1) := by decide +kernel
theorem dX12_start_57 : decode cX12_start 57 = .ok (.getfield 7, 3) := by decide +kernel
theorem dX12_start_60 : decode cX12_start 60 = .ok (.bipush 6, 2) := by decide +kernel
theorem dX12_start_62 : decode cX12_start 62 = .ok (.iload_n 1, 1) := by decide +kernel
theorem dX12_start_63 : decode cX12_start 63 = .ok (.iastore, 1) := by decide +kernel
theorem dX12_start_64 : decode cX12_start 64 = .ok (.aload_n 0, 1) := by decide +kernel
theorem dX12_start_65 : decode cX12_start 65 = .ok (.getfield 7, 3) := by decide +kernel
theorem dX12_start_68 : decode cX12_start 68 = .ok (.bipush 10, 2) := by decide +kernel
theorem dX12_start_70 : decode cX12_start 70 = .ok (.iconst 0, 1) := by decide +kernel
theorem dX12_start_71 : decode cX12_start 71 = .ok (.iastore, 1) := by decide +kernel
theorem dX12_start_72 : decode cX12_start 72 = .ok (.aload_n 0, 1) := by decide +kernel
theorem dX12_start_73 : decode cX12_start 73 = .ok (.invokevirtual 105, 3) := by decide +kernel
theorem dX12_start_76 : decode cX12_start 76 = .ok (.aload_n 0, 1) := by decide +kernel
theorem dX12_start_77 : decode cX12_start 77 = .ok (.invokevirtual 102, 3) := by decide +kernel
theorem dX12_start_80 : decode cX12_start 80 = .ok (.aload_n 0, 1) := by decide +kernel
theorem dX12_start_81 : decode cX12_start 81 = .ok (.getfield 7, 3) := by decide +kernel
theorem dX12_start_84 : decode cX12_start 84 = .ok (.bipush 15, 2) := by decide +kernel
theorem dX12_start_86 : decode cX12_start 86 = .ok (.aload_n 0, 1) := by decide +kernel
theorem dX12_start_87 : decode cX12_start 87 = .ok (.getfield 7, 3) := by decide +kernel
theorem dX12_start_90 : decode cX12_start 90 = .ok (.iconst 5, 1) := by decide +kernel
theorem dX12_start_91 : decode cX12_start 91 = .ok (.iaload, 1) := by decide +kernel
theorem dX12_start_92 : decode cX12_start 92 = .ok (.iastore, 1) := by decide +kernel
theorem dX12_start_93 : decode cX12_start 93 = .ok (.aload_n 0, 1) := by decide +kernel
theorem dX12_start_94 : decode cX12_start 94 = .ok (.getfield 7, 3) := by decide +kernel
theorem dX12_start_97 : decode cX12_start 97 = .ok (.bipush 27, 2) := by decide +kernel
theorem dX12_start_99 : decode cX12_start 99 = .ok (.iload_n 1, 1) := by decide +kernel
theorem dX12_start_100 : decode cX12_start 100 = .ok (.iadd, 1) := by decide +kernel
theorem dX12_start_101 : decode cX12_start 101 = .ok (.iaload, 1) := by decide +kernel
theorem dX12_start_102 : decode cX12_start 102 = .ok (.ireturn, 1) := by decide +kernel
theorem dX12_breakIn_0 : decode cX12_breakIn 0 = .ok (.aload_n 0, 1) := by decide +kernel
theorem dX12_breakIn_1 : decode cX12_breakIn 1 = .ok (.iconst 0, 1) := by decide +kernel
theorem dX12_breakIn_2 : decode cX12_breakIn 2 = .ok (.putfield 47, 3) := by decide +kernel
theorem dX12_breakIn_5 : decode cX12_breakIn 5 = .ok (.aload_n 0, 1) := by decide +kernel
theorem dX12_breakIn_6 : decode cX12_breakIn 6 = .ok (.invokevirtual 158, 3) := by decide +kernel
theorem dX12_breakIn_9 : decode cX12_breakIn 9 = .ok (.ifCond .ne 9, 3) := by decide +kernel
theorem dX12_breakIn_12 : decode cX12_breakIn 12 = .ok (.aload_n 0, 1) := by decide +kernel
theorem dX12_breakIn_13 : decode cX12_breakIn 13 = .ok (.iconst 1, 1) := by decide +kernel
theorem dX12_breakIn_14 : decode cX12_breakIn 14 = .ok (.invokevirtual 174, 3) := by decide +kernel
theorem dX12_breakIn_17 : decode cX12_breakIn 17 = .ok (.ireturn, 1) := by decide +kernel
theorem dX12_breakIn_18 : decode cX12_breakIn 18 = .ok (.aload_n 0, 1) := by decide +kernel
theorem dX12_breakIn_19 : decode cX12_breakIn 19 = .ok (.invokevirtual 195, 3) := by decide +kernel
theorem dX12_breakIn_22 : decode cX12_breakIn 22 = .ok (.aload_n 0, 1) := by decide +kernel
theorem dX12_breakIn_23 : decode cX12_breakIn 23 = .ok (.iconst 3, 1) := by decide +kernel
theorem dX12_breakIn_24 : decode cX12_breakIn 24 = .ok (.iconst 0, 1) := by decide +kernel
theorem dX12_breakIn_25 : decode cX12_breakIn 25 = .ok (.invokevirtual 123, 3) := by decide +kernel
theorem dX12_breakIn_28 : decode cX12_breakIn 28 = .ok (.aload_n 0, 1) := by decide +kernel
theorem dX12_breakIn_29 : decode cX12_breakIn 29 = .ok (.getfield 7, 3) := by decide +kernel
theorem dX12_breakIn_32 : decode cX12_breakIn 32 = .ok (.iconst 5, 1) := by decide +kernel
theorem dX12_breakIn_33 : decode cX12_breakIn 33 = .ok (.iaload, 1) := by decide +kernel
theorem dX12_breakIn_34 : decode cX12_breakIn 34 = .ok (.aload_n 0, 1) := by decide +kernel
theorem dX12_breakIn_35 : decode cX12_breakIn 35 = .ok (.getfield 7, 3) := by decide +kernel
theorem dX12_breakIn_38 : decode cX12_breakIn 38 = .ok (.iconst 1, 1) := by decide +kernel
theorem dX12_breakIn_39 : decode cX12_breakIn 39 = .ok (.iaload, 1) := by decide +kernel
theorem dX12_breakIn_40 : decode cX12_breakIn 40 = .ok (.iadd, 1) := by decide +kernel
theorem dX12_breakIn_41 : decode cX12_breakIn 41 = .ok (.ireturn, 1) := by decide +kernel
theorem dX12_setRate_0 : decode cX12_setRate 0 = .ok (.aload_n 0, 1) := by decide +kernel
theorem dX12_setRate_1 : decode cX12_setRate 1 = .ok (.iconst 0, 1) := by decide +kernel
theorem dX12_setRate_2 : decode cX12_setRate 2 = .ok (.putfield 47, 3) := by decide +kernel
theorem dX12_setRate_5 : decode cX12_setRate 5 = .ok (.iload_n 1, 1) := by decide +kernel
theorem dX12_setRate_6 : decode cX12_setRate 6 = .ok (.invokestatic 54, 3) := by decide +kernel
theorem dX12_setRate_9 : decode cX12_setRate 9 = .ok (.ifCond .ne 9, 3) := by decide +kernel
theorem dX12_setRate_12 : decode cX12_setRate 12 = .ok (.aload_n 0, 1) := by decide +kernel
theorem dX12_setRate_13 : decode cX12_setRate 13 = .ok (.iconst 1, 1) := by decide +kernel
theorem dX12_setRate_14 : decode cX12_setRate 14 = .ok (.invokevirtual 174, 3) := by decide +kernel
theorem dX12_setRate_17 : decode cX12_setRate 17 = .ok (.ireturn, 1) := by decide +kernel
theorem dX12_setRate_18 : decode cX12_setRate 18 = .ok (.iload_n 2, 1) := by decide +kernel
theorem dX12_setRate_19 : decode cX12_setRate 19 = .ok (.i2l, 1) := by decide +kernel
theorem dX12_setRate_20 : decode cX12_setRate 20 = .ok (.ldc2_w 206, 3) := by decide +kernel
theorem dX12_setRate_23 : decode cX12_setRate 23 = .ok (.ldc2_w 208, 3) := by decide +kernel
theorem dX12_setRate_26 : decode cX12_setRate 26 = .ok (.invokestatic 58, 3) := by decide +kernel
theorem dX12_setRate_29 : decode cX12_setRate 29 = .ok (.ifCond .ne 9, 3) := by decide +kernel
theorem dX12_setRate_32 : decode cX12_setRate 32 = .ok (.aload_n 0, 1) := by decide +kernel
theorem dX12_setRate_33 : decode cX12_setRate 33 = .ok (.iconst 2, 1) := by decide +kernel
theorem dX12_setRate_34 : decode cX12_setRate 34 = .ok (.invokevirtual 174, 3) := by decide +kernel
theorem dX12_setRate_37 : decode cX12_setRate 37 = .ok (.ireturn, 1) := by decide +kernel
theorem dX12_setRate_38 : decode cX12_setRate 38 = .ok (.aload_n 0, 1) := by decide +kernel
theorem dX12_setRate_39 : decode cX12_setRate 39 = .ok (.invokevirtual 195, 3) := by decide +kernel
theorem dX12_setRate_42 : decode cX12_setRate 42 = .ok (.aload_n 0, 1) := by decide +kernel
theorem dX12_setRate_43 : decode cX12_setRate 43 = .ok (.getfield 7, 3) := by decide +kernel
theorem dX12_setRate_46 : decode cX12_setRate 46 = .ok (.bipush 23, 2) := by decide +kernel
theorem dX12_setRate_48 : decode cX12_setRate 48 = .ok (.iload_n 1, 1) := by decide +kernel
theorem dX12_setRate_49 : decode cX12_setRate 49 = .ok (.iadd, 1) := by decide +kernel
theorem dX12_setRate_50 : decode cX12_setRate 50 = .ok (.iaload, 1) := by decide +kernel
theorem dX12_setRate_51 : decode cX12_setRate 51 = .ok (.istore_n 3, 1) := by decide +kernel
theorem dX12_setRate_52 : decode cX12_setRate 52 = .ok (.aload_n 0, 1) := by decide +kernel
theorem dX12_setRate_53 : decode cX12_setRate 53 = .ok (.getfield 7, 3) := by decide +kernel
theorem dX12_setRate_56 : decode cX12_setRate 56 = .ok (.bipush 23, 2) := by decide +kernel
theorem dX12_setRate_58 : decode cX12_setRate 58 = .ok (.iload_n 1, 1) := by decide +kernel
theorem dX12_setRate_59 : decode cX12_setRate 59 = .ok (.iadd, 1) := by decide +kernel
theorem dX12_setRate_60 : decode cX12_setRate 60 = .ok (.iload_n 2, 1) := by decide +kernel
theorem dX12_setRate_61 : decode cX12_setRate 61 = .ok (.iastore, 1) := by decide +kernel
theorem dX12_setRate_62 : decode cX12_setRate 62 = .ok (.iload_n 3, 1) := by decide +kernel
theorem dX12_setRate_63 : decode cX12_setRate 63 = .ok (.ireturn, 1) := by decide +kernel
theorem dX12_nudge_0 : decode cX12_nudge 0 = .ok (.aload_n 0, 1) := by decide +kernel
theorem dX12_nudge_1 : decode cX12_nudge 1 = .ok (.iconst 0, 1) := by decide +kernel
theorem dX12_nudge_2 : decode cX12_nudge 2 = .ok (.putfield 47, 3) := by decide +kernel
theorem dX12_nudge_5 : decode cX12_nudge 5 = .ok (.iload_n 1, 1) := by decide +kernel
theorem dX12_nudge_6 : decode cX12_nudge 6 = .ok (.invokestatic 54, 3) := by decide +kernel
theorem dX12_nudge_9 : decode cX12_nudge 9 = .ok (.ifCond .ne 9, 3) := by decide +kernel
theorem dX12_nudge_12 : decode cX12_nudge 12 = .ok (.aload_n 0, 1) := by decide +kernel
theorem dX12_nudge_13 : decode cX12_nudge 13 = .ok (.iconst 1, 1) := by decide +kernel
theorem dX12_nudge_14 : decode cX12_nudge 14 = .ok (.invokevirtual 174, 3) := by decide +kernel
theorem dX12_nudge_17 : decode cX12_nudge 17 = .ok (.ireturn, 1) := by decide +kernel
theorem dX12_nudge_18 : decode cX12_nudge 18 = .ok (.iload_n 2, 1) := by decide +kernel
theorem dX12_nudge_19 : decode cX12_nudge 19 = .ok (.i2l, 1) := by decide +kernel
theorem dX12_nudge_20 : decode cX12_nudge 20 = .ok (.ldc2_w 210, 3) := by decide +kernel
theorem dX12_nudge_23 : decode cX12_nudge 23 = .ok (.ldc2_w 212, 3) := by decide +kernel
theorem dX12_nudge_26 : decode cX12_nudge 26 = .ok (.invokestatic 58, 3) := by decide +kernel
theorem dX12_nudge_29 : decode cX12_nudge 29 = .ok (.ifCond .ne 9, 3) := by decide +kernel
theorem dX12_nudge_32 : decode cX12_nudge 32 = .ok (.aload_n 0, 1) := by decide +kernel
theorem dX12_nudge_33 : decode cX12_nudge 33 = .ok (.iconst 2, 1) := by decide +kernel
theorem dX12_nudge_34 : decode cX12_nudge 34 = .ok (.invokevirtual 174, 3) := by decide +kernel
theorem dX12_nudge_37 : decode cX12_nudge 37 = .ok (.ireturn, 1) := by decide +kernel
theorem dX12_nudge_38 : decode cX12_nudge 38 = .ok (.aload_n 0, 1) := by decide +kernel
theorem dX12_nudge_39 : decode cX12_nudge 39 = .ok (.invokevirtual 195, 3) := by decide +kernel
theorem dX12_nudge_42 : decode cX12_nudge 42 = .ok (.aload_n 0, 1) := by decide +kernel
theorem dX12_nudge_43 : decode cX12_nudge 43 = .ok (.getfield 7, 3) := by decide +kernel
theorem dX12_nudge_46 : decode cX12_nudge 46 = .ok (.bipush 21, 2) := by decide +kernel
theorem dX12_nudge_48 : decode cX12_nudge 48 = .ok (.iload_n 1, 1) := by decide +kernel
theorem dX12_nudge_49 : decode cX12_nudge 49 = .ok (.iadd, 1) := by decide +kernel
theorem dX12_nudge_50 : decode cX12_nudge 50 = .ok (.aload_n 0, 1) := by decide +kernel
theorem dX12_nudge_51 : decode cX12_nudge 51 = .ok (.aload_n 0, 1) := by decide +kernel
theorem dX12_nudge_52 : decode cX12_nudge 52 = .ok (.getfield 7, 3) := by decide +kernel
theorem dX12_nudge_55 : decode cX12_nudge 55 = .ok (.bipush 21, 2) := by decide +kernel
theorem dX12_nudge_57 : decode cX12_nudge 57 = .ok (.iload_n 1, 1) := by decide +kernel
theorem dX12_nudge_58 : decode cX12_nudge 58 = .ok (.iadd, 1) := by decide +kernel
theorem dX12_nudge_59 : decode cX12_nudge 59 = .ok (.iaload, 1) := by decide +kernel
theorem dX12_nudge_60 : decode cX12_nudge 60 = .ok (.i2l, 1) := by decide +kernel
theorem dX12_nudge_61 : decode cX12_nudge 61 = .ok (.iload_n 2, 1) := by decide +kernel
theorem dX12_nudge_62 : decode cX12_nudge 62 = .ok (.i2l, 1) := by decide +kernel
theorem dX12_nudge_63 : decode cX12_nudge 63 = .ok (.ladd, 1) := by decide +kernel
theorem dX12_nudge_64 : decode cX12_nudge 64 = .ok (.invokevirtual 94, 3) := by decide +kernel
theorem dX12_nudge_67 : decode cX12_nudge 67 = .ok (.iastore, 1) := by decide +kernel
theorem dX12_nudge_68 : decode cX12_nudge 68 = .ok (.aload_n 0, 1) := by decide +kernel
theorem dX12_nudge_69 : decode cX12_nudge 69 = .ok (.getfield 7, 3) := by decide +kernel
theorem dX12_nudge_72 : decode cX12_nudge 72 = .ok (.bipush 21, 2) := by decide +kernel
theorem dX12_nudge_74 : decode cX12_nudge 74 = .ok (.iload_n 1, 1) := by decide +kernel
theorem dX12_nudge_75 : decode cX12_nudge 75 = .ok (.iadd, 1) := by decide +kernel
theorem dX12_nudge_76 : decode cX12_nudge 76 = .ok (.iaload, 1) := by decide +kernel
theorem dX12_nudge_77 : decode cX12_nudge 77 = .ok (.ireturn, 1) := by decide +kernel
theorem dX12_setCorrection_0 : decode cX12_setCorrection 0 = .ok (.aload_n 0, 1) := by decide +kernel
theorem dX12_setCorrection_1 : decode cX12_setCorrection 1 = .ok (.iconst 0, 1) := by decide +kernel
theorem dX12_setCorrection_2 : decode cX12_setCorrection 2 = .ok (.putfield 47, 3) := by decide +kernel
theorem dX12_setCorrection_5 : decode cX12_setCorrection 5 = .ok (.iload_n 1, 1) := by decide +kernel
theorem dX12_setCorrection_6 : decode cX12_setCorrection 6 = .ok (.i2l, 1) := by decide +kernel
theorem dX12_setCorrection_7 : decode cX12_setCorrection 7 = .ok (.lconst 0, 1) := by decide +kernel
theorem dX12_setCorrection_8 : decode cX12_setCorrection 8 = .ok (.ldc2_w 214, 3) := by decide +kernel
theorem dX12_setCorrection_11 : decode cX12_setCorrection 11 = .ok (.invokestatic 58, 3) := by decide +kernel
theorem dX12_setCorrection_14 : decode cX12_setCorrection 14 = .ok (.ifCond .ne 9, 3) := by decide +kernel
theorem dX12_setCorrection_17 : decode cX12_setCorrection 17 = .ok (.aload_n 0, 1) := by decide +kernel
theorem dX12_setCorrection_18 : decode cX12_setCorrection 18 = .ok (.iconst 1, 1) := by decide +kernel
theorem dX12_setCorrection_19 : decode cX12_setCorrection 19 = .ok (.invokevirtual 174, 3) := by decide +kernel
theorem dX12_setCorrection_22 : decode cX12_setCorrection 22 = .ok (.ireturn, 1) := by decide +kernel
theorem dX12_setCorrection_23 : decode cX12_setCorrection 23 = .ok (.aload_n 0, 1) := by decide +kernel
theorem dX12_setCorrection_24 : decode cX12_setCorrection 24 = .ok (.invokevirtual 195, 3) := by decide +kernel
theorem dX12_setCorrection_27 : decode cX12_setCorrection 27 = .ok (.aload_n 0, 1) := by decide +kernel
theorem dX12_setCorrection_28 : decode cX12_setCorrection 28 = .ok (.getfield 7, 3) := by decide +kernel
theorem dX12_setCorrection_31 : decode cX12_setCorrection 31 = .ok (.iconst 2, 1) := by decide +kernel
theorem dX12_setCorrection_32 : decode cX12_setCorrection 32 = .ok (.iaload, 1) := by decide +kernel
theorem dX12_setCorrection_33 : decode cX12_setCorrection 33 = .ok (.istore_n 2, 1) := by decide +kernel
theorem dX12_setCorrection_34 : decode cX12_setCorrection 34 = .ok (.aload_n 0, 1) := by decide +kernel
theorem dX12_setCorrection_35 : decode cX12_setCorrection 35 = .ok (.getfield 7, 3) := by decide +kernel
theorem dX12_setCorrection_38 : decode cX12_setCorrection 38 = .ok (.iconst 2, 1) := by decide +kernel
theorem dX12_setCorrection_39 : decode cX12_setCorrection 39 = .ok (.iload_n 1, 1) := by decide +kernel
theorem dX12_setCorrection_40 : decode cX12_setCorrection 40 = .ok (.iastore, 1) := by decide +kernel
theorem dX12_setCorrection_41 : decode cX12_setCorrection 41 = .ok (.iload_n 2, 1) := by decide +kernel
theorem dX12_setCorrection_42 : decode cX12_setCorrection 42 = .ok (.ireturn, 1) := by decide +kernel
theorem dX12_lose_0 : decode cX12_lose 0 = .ok (.aload_n 0, 1) := by decide +kernel
theorem dX12_lose_1 : decode cX12_lose 1 = .ok (.iconst 0, 1) := by decide +kernel
theorem dX12_lose_2 : decode cX12_lose 2 = .ok (.putfield 47, 3) := by decide +kernel
theorem dX12_lose_5 : decode cX12_lose 5 = .ok (.iload_n 1, 1) := by decide +kernel
theorem dX12_lose_6 : decode cX12_lose 6 = .ok (.i2l, 1) := by decide +kernel
theorem dX12_lose_7 : decode cX12_lose 7 = .ok (.lconst 1, 1) := by decide +kernel
theorem dX12_lose_8 : decode cX12_lose 8 = .ok (.ldc2_w 214, 3) := by decide +kernel
theorem dX12_lose_11 : decode cX12_lose 11 = .ok (.invokestatic 58, 3) := by decide +kernel
theorem dX12_lose_14 : decode cX12_lose 14 = .ok (.ifCond .ne 9, 3) := by decide +kernel
theorem dX12_lose_17 : decode cX12_lose 17 = .ok (.aload_n 0, 1) := by decide +kernel
theorem dX12_lose_18 : decode cX12_lose 18 = .ok (.iconst 1, 1) := by decide +kernel
theorem dX12_lose_19 : decode cX12_lose 19 = .ok (.invokevirtual 174, 3) := by decide +kernel
theorem dX12_lose_22 : decode cX12_lose 22 = .ok (.ireturn, 1) := by decide +kernel
theorem dX12_lose_23 : decode cX12_lose 23 = .ok (.aload_n 0, 1) := by decide +kernel
theorem dX12_lose_24 : decode cX12_lose 24 = .ok (.getfield 7, 3) := by decide +kernel
theorem dX12_lose_27 : decode cX12_lose 27 = .ok (.bipush 20, 2) := by decide +kernel
theorem dX12_lose_29 : decode cX12_lose 29 = .ok (.iaload, 1) := by decide +kernel
theorem dX12_lose_30 : decode cX12_lose 30 = .ok (.bipush 20, 2) := by decide +kernel
theorem dX12_lose_32 : decode cX12_lose 32 = .ok (.if_icmp .ne 9, 3) := by decide +kernel
theorem dX12_lose_35 : decode cX12_lose 35 = .ok (.aload_n 0, 1) := by decide +kernel
theorem dX12_lose_36 : decode cX12_lose 36 = .ok (.iconst 2, 1) := by decide +kernel
theorem dX12_lose_37 : decode cX12_lose 37 = .ok (.invokevirtual 174, 3) := by decide +kernel
theorem dX12_lose_40 : decode cX12_lose 40 = .ok (.ireturn, 1) := by decide +kernel
theorem dX12_lose_41 : decode cX12_lose 41 = .ok (.aload_n 0, 1) := by decide +kernel
theorem dX12_lose_42 : decode cX12_lose 42 = .ok (.invokevirtual 195, 3) := by decide +kernel
theorem dX12_lose_45 : decode cX12_lose 45 = .ok (.aload_n 0, 1) := by decide +kernel
theorem dX12_lose_46 : decode cX12_lose 46 = .ok (.getfield 7, 3) := by decide +kernel
theorem dX12_lose_49 : decode cX12_lose 49 = .ok (.bipush 16, 2) := by decide +kernel
theorem dX12_lose_51 : decode cX12_lose 51 = .ok (.iaload, 1) := by decide +kernel
theorem dX12_lose_52 : decode cX12_lose 52 = .ok (.iload_n 1, 1) := by decide +kernel
theorem dX12_lose_53 : decode cX12_lose 53 = .ok (.iadd, 1) := by decide +kernel
theorem dX12_lose_54 : decode cX12_lose 54 = .ok (.istore_n 2, 1) := by decide +kernel
theorem dX12_lose_55 : decode cX12_lose 55 = .ok (.aload_n 0, 1) := by decide +kernel
theorem dX12_lose_56 : decode cX12_lose 56 = .ok (.getfield 7, 3) := by decide +kernel
theorem dX12_lose_59 : decode cX12_lose 59 = .ok (.bipush 39, 2) := by decide +kernel
theorem dX12_lose_61 : decode cX12_lose 61 = .ok (.aload_n 0, 1) := by decide +kernel
theorem dX12_lose_62 : decode cX12_lose 62 = .ok (.getfield 7, 3) := by decide +kernel
theorem dX12_lose_65 : decode cX12_lose 65 = .ok (.bipush 20, 2) := by decide +kernel
theorem dX12_lose_67 : decode cX12_lose 67 = .ok (.iaload, 1) := by decide +kernel
theorem dX12_lose_68 : decode cX12_lose 68 = .ok (.iadd, 1) := by decide +kernel
theorem dX12_lose_69 : decode cX12_lose 69 = .ok (.iload_n 2, 1) := by decide +kernel
theorem dX12_lose_70 : decode cX12_lose 70 = .ok (.iastore, 1) := by decide +kernel
theorem dX12_lose_71 : decode cX12_lose 71 = .ok (.aload_n 0, 1) := by decide +kernel
theorem dX12_lose_72 : decode cX12_lose 72 = .ok (.getfield 7, 3) := by decide +kernel
theorem dX12_lose_75 : decode cX12_lose 75 = .ok (.bipush 20, 2) := by decide +kernel
theorem dX12_lose_77 : decode cX12_lose 77 = .ok (.dup2, 1) := by decide +kernel
theorem dX12_lose_78 : decode cX12_lose 78 = .ok (.iaload, 1) := by decide +kernel
theorem dX12_lose_79 : decode cX12_lose 79 = .ok (.iconst 1, 1) := by decide +kernel
theorem dX12_lose_80 : decode cX12_lose 80 = .ok (.iadd, 1) := by decide +kernel
theorem dX12_lose_81 : decode cX12_lose 81 = .ok (.iastore, 1) := by decide +kernel
theorem dX12_lose_82 : decode cX12_lose 82 = .ok (.iload_n 2, 1) := by decide +kernel
theorem dX12_lose_83 : decode cX12_lose 83 = .ok (.ireturn, 1) := by decide +kernel
theorem dX12_undo_0 : decode cX12_undo 0 = .ok (.aload_n 0, 1) := by decide +kernel
theorem dX12_undo_1 : decode cX12_undo 1 = .ok (.iconst 0, 1) := by decide +kernel
theorem dX12_undo_2 : decode cX12_undo 2 = .ok (.putfield 47, 3) := by decide +kernel
theorem dX12_undo_5 : decode cX12_undo 5 = .ok (.aload_n 0, 1) := by decide +kernel
theorem dX12_undo_6 : decode cX12_undo 6 = .ok (.getfield 50, 3) := by decide +kernel
theorem dX12_undo_9 : decode cX12_undo 9 = .ok (.ifCond .ne 9, 3) := by decide +kernel
theorem dX12_undo_12 : decode cX12_undo 12 = .ok (.aload_n 0, 1) := by decide +kernel
theorem dX12_undo_13 : decode cX12_undo 13 = .ok (.iconst 1, 1) := by decide +kernel
theorem dX12_undo_14 : decode cX12_undo 14 = .ok (.invokevirtual 174, 3) := by decide +kernel
theorem dX12_undo_17 : decode cX12_undo 17 = .ok (.ireturn, 1) := by decide +kernel
theorem dX12_undo_18 : decode cX12_undo 18 = .ok (.aload_n 0, 1) := by decide +kernel
theorem dX12_undo_19 : decode cX12_undo 19 = .ok (.dup, 1) := by decide +kernel
theorem dX12_undo_20 : decode cX12_undo 20 = .ok (.getfield 50, 3) := by decide +kernel
theorem dX12_undo_23 : decode cX12_undo 23 = .ok (.iconst 1, 1) := by decide +kernel
theorem dX12_undo_24 : decode cX12_undo 24 = .ok (.isub, 1) := by decide +kernel
theorem dX12_undo_25 : decode cX12_undo 25 = .ok (.putfield 50, 3) := by decide +kernel
theorem dX12_undo_28 : decode cX12_undo 28 = .ok (.iconst 0, 1) := by decide +kernel
theorem dX12_undo_29 : decode cX12_undo 29 = .ok (.istore_n 1, 1) := by decide +kernel
theorem dX12_undo_30 : decode cX12_undo 30 = .ok (.iload_n 1, 1) := by decide +kernel
theorem dX12_undo_31 : decode cX12_undo 31 = .ok (.sipush 4763, 3) := by decide +kernel
theorem dX12_undo_34 : decode cX12_undo 34 = .ok (.if_icmp .ge 30, 3) := by decide +kernel
theorem dX12_undo_37 : decode cX12_undo 37 = .ok (.aload_n 0, 1) := by decide +kernel
theorem dX12_undo_38 : decode cX12_undo 38 = .ok (.getfield 7, 3) := by decide +kernel
theorem dX12_undo_41 : decode cX12_undo 41 = .ok (.iload_n 1, 1) := by decide +kernel
theorem dX12_undo_42 : decode cX12_undo 42 = .ok (.aload_n 0, 1) := by decide +kernel
theorem dX12_undo_43 : decode cX12_undo 43 = .ok (.getfield 20, 3) := by decide +kernel
theorem dX12_undo_46 : decode cX12_undo 46 = .ok (.sipush 4763, 3) := by decide +kernel
theorem dX12_undo_49 : decode cX12_undo 49 = .ok (.aload_n 0, 1) := by decide +kernel
theorem dX12_undo_50 : decode cX12_undo 50 = .ok (.getfield 50, 3) := by decide +kernel
theorem dX12_undo_53 : decode cX12_undo 53 = .ok (.imul, 1) := by decide +kernel
theorem dX12_undo_54 : decode cX12_undo 54 = .ok (.iload_n 1, 1) := by decide +kernel
theorem dX12_undo_55 : decode cX12_undo 55 = .ok (.iadd, 1) := by decide +kernel
theorem dX12_undo_56 : decode cX12_undo 56 = .ok (.iaload, 1) := by decide +kernel
theorem dX12_undo_57 : decode cX12_undo 57 = .ok (.iastore, 1) := by decide +kernel
theorem dX12_undo_58 : decode cX12_undo 58 = .ok (.iinc 1 1, 3) := by decide +kernel
theorem dX12_undo_61 : decode cX12_undo 61 = .ok (.goto (-31), 3) := by decide +kernel
theorem dX12_undo_64 : decode cX12_undo 64 = .ok (.aload_n 0, 1) := by decide +kernel
theorem dX12_undo_65 : decode cX12_undo 65 = .ok (.getfield 50, 3) := by decide +kernel
theorem dX12_undo_68 : decode cX12_undo 68 = .ok (.ireturn, 1) := by decide +kernel
theorem dX12_wrongs_0 : decode cX12_wrongs 0 = .ok (.aload_n 0, 1) := by decide +kernel
theorem dX12_wrongs_1 : decode cX12_wrongs 1 = .ok (.getfield 7, 3) := by decide +kernel
theorem dX12_wrongs_4 : decode cX12_wrongs 4 = .ok (.bipush 33, 2) := by decide +kernel
theorem dX12_wrongs_6 : decode cX12_wrongs 6 = .ok (.iaload, 1) := by decide +kernel
theorem dX12_wrongs_7 : decode cX12_wrongs 7 = .ok (.aload_n 0, 1) := by decide +kernel
theorem dX12_wrongs_8 : decode cX12_wrongs 8 = .ok (.getfield 7, 3) := by decide +kernel
theorem dX12_wrongs_11 : decode cX12_wrongs 11 = .ok (.bipush 34, 2) := by decide +kernel
theorem dX12_wrongs_13 : decode cX12_wrongs 13 = .ok (.iaload, 1) := by decide +kernel
theorem dX12_wrongs_14 : decode cX12_wrongs 14 = .ok (.iadd, 1) := by decide +kernel
theorem dX12_wrongs_15 : decode cX12_wrongs 15 = .ok (.ireturn, 1) := by decide +kernel
theorem dX12_wrongIn_0 : decode cX12_wrongIn 0 = .ok (.aload_n 0, 1) := by decide +kernel
theorem dX12_wrongIn_1 : decode cX12_wrongIn 1 = .ok (.invokevirtual 216, 3) := by decide +kernel
theorem dX12_wrongIn_4 : decode cX12_wrongIn 4 = .ok (.istore_n 2, 1) := by decide +kernel
theorem dX12_wrongIn_5 : decode cX12_wrongIn 5 = .ok (.iconst 0, 1) := by decide +kernel
theorem dX12_wrongIn_6 : decode cX12_wrongIn 6 = .ok (.istore_n 3, 1) := by decide +kernel
theorem dX12_wrongIn_7 : decode cX12_wrongIn 7 = .ok (.iload_n 3, 1) := by decide +kernel
theorem dX12_wrongIn_8 : decode cX12_wrongIn 8 = .ok (.iload_n 1, 1) := by decide +kernel
theorem dX12_wrongIn_9 : decode cX12_wrongIn 9 = .ok (.if_icmp .ge 13, 3) := by decide +kernel
theorem dX12_wrongIn_12 : decode cX12_wrongIn 12 = .ok (.aload_n 0, 1) := by decide +kernel
theorem dX12_wrongIn_13 : decode cX12_wrongIn 13 = .ok (.invokevirtual 198, 3) := by decide +kernel
theorem dX12_wrongIn_16 : decode cX12_wrongIn 16 = .ok (.iinc 3 1, 3) := by decide +kernel
theorem dX12_wrongIn_19 : decode cX12_wrongIn 19 = .ok (.goto (-12), 3) := by decide +kernel
theorem dX12_wrongIn_22 : decode cX12_wrongIn 22 = .ok (.aload_n 0, 1) := by decide +kernel
theorem dX12_wrongIn_23 : decode cX12_wrongIn 23 = .ok (.invokevirtual 216, 3) := by decide +kernel
theorem dX12_wrongIn_26 : decode cX12_wrongIn 26 = .ok (.iload_n 2, 1) := by decide +kernel
theorem dX12_wrongIn_27 : decode cX12_wrongIn 27 = .ok (.isub, 1) := by decide +kernel
theorem dX12_wrongIn_28 : decode cX12_wrongIn 28 = .ok (.ireturn, 1) := by decide +kernel
theorem dX12_misprintsIn_0 : decode cX12_misprintsIn 0 = .ok (.aload_n 0, 1) := by decide +kernel
theorem dX12_misprintsIn_1 : decode cX12_misprintsIn 1 = .ok (.iconst 0, 1) := by decide +kernel
theorem dX12_misprintsIn_2 : decode cX12_misprintsIn 2 = .ok (.putfield 47, 3) := by decide +kernel
theorem dX12_misprintsIn_5 : decode cX12_misprintsIn 5 = .ok (.iload_n 1, 1) := by decide +kernel
theorem dX12_misprintsIn_6 : decode cX12_misprintsIn 6 = .ok (.i2l, 1) := by decide +kernel
theorem dX12_misprintsIn_7 : decode cX12_misprintsIn 7 = .ok (.lconst 1, 1) := by decide +kernel
theorem dX12_misprintsIn_8 : decode cX12_misprintsIn 8 = .ok (.ldc2_w 192, 3) := by decide +kernel
theorem dX12_misprintsIn_11 : decode cX12_misprintsIn 11 = .ok (.invokestatic 58, 3) := by decide +kernel
theorem dX12_misprintsIn_14 : decode cX12_misprintsIn 14 = .ok (.ifCond .ne 9, 3) := by decide +kernel
theorem dX12_misprintsIn_17 : decode cX12_misprintsIn 17 = .ok (.aload_n 0, 1) := by decide +kernel
theorem dX12_misprintsIn_18 : decode cX12_misprintsIn 18 = .ok (.iconst 1, 1) := by decide +kernel
theorem dX12_misprintsIn_19 : decode cX12_misprintsIn 19 = .ok (.invokevirtual 174, 3) := by decide +kernel
theorem dX12_misprintsIn_22 : decode cX12_misprintsIn 22 = .ok (.ireturn, 1) := by decide +kernel
theorem dX12_misprintsIn_23 : decode cX12_misprintsIn 23 = .ok (.aload_n 0, 1) := by decide +kernel
theorem dX12_misprintsIn_24 : decode cX12_misprintsIn 24 = .ok (.getfield 7, 3) := by decide +kernel
theorem dX12_misprintsIn_27 : decode cX12_misprintsIn 27 = .ok (.aload_n 0, 1) := by decide +kernel
theorem dX12_misprintsIn_28 : decode cX12_misprintsIn 28 = .ok (.getfield 16, 3) := by decide +kernel
theorem dX12_misprintsIn_31 : decode cX12_misprintsIn 31 = .ok (.invokestatic 219, 3) := by decide +kernel
theorem dX12_misprintsIn_34 : decode cX12_misprintsIn 34 = .ok (.aload_n 0, 1) := by decide +kernel
theorem dX12_misprintsIn_35 : decode cX12_misprintsIn 35 = .ok (.iload_n 1, 1) := by decide +kernel
theorem dX12_misprintsIn_36 : decode cX12_misprintsIn 36 = .ok (.invokevirtual 223, 3) := by decide +kernel
theorem dX12_misprintsIn_39 : decode cX12_misprintsIn 39 = .ok (.istore_n 2, 1) := by decide +kernel
theorem dX12_misprintsIn_40 : decode cX12_misprintsIn 40 = .ok (.aload_n 0, 1) := by decide +kernel
theorem dX12_misprintsIn_41 : decode cX12_misprintsIn 41 = .ok (.getfield 16, 3) := by decide +kernel
theorem dX12_misprintsIn_44 : decode cX12_misprintsIn 44 = .ok (.aload_n 0, 1) := by decide +kernel
theorem dX12_misprintsIn_45 : decode cX12_misprintsIn 45 = .ok (.getfield 7, 3) := by decide +kernel
theorem dX12_misprintsIn_48 : decode cX12_misprintsIn 48 = .ok (.invokestatic 219, 3) := by decide +kernel
theorem dX12_misprintsIn_51 : decode cX12_misprintsIn 51 = .ok (.iload_n 2, 1) := by decide +kernel
theorem dX12_misprintsIn_52 : decode cX12_misprintsIn 52 = .ok (.ireturn, 1) := by decide +kernel
theorem dX12_ticksUntilDone_0 : decode cX12_ticksUntilDone 0 = .ok (.aload_n 0, 1) := by decide +kernel
theorem dX12_ticksUntilDone_1 : decode cX12_ticksUntilDone 1 = .ok (.iconst 0, 1) := by decide +kernel
theorem dX12_ticksUntilDone_2 : decode cX12_ticksUntilDone 2 = .ok (.putfield 47, 3) := by decide +kernel
theorem dX12_ticksUntilDone_5 : decode cX12_ticksUntilDone 5 = .ok (.iload_n 1, 1) := by decide +kernel
theorem dX12_ticksUntilDone_6 : decode cX12_ticksUntilDone 6 = .ok (.i2l, 1) := by decide +kernel
theorem dX12_ticksUntilDone_7 : decode cX12_ticksUntilDone 7 = .ok (.lconst 1, 1) := by decide +kernel
theorem dX12_ticksUntilDone_8 : decode cX12_ticksUntilDone 8 = .ok (.ldc2_w 201, 3) := by decide +kernel
theorem dX12_ticksUntilDone_11 : decode cX12_ticksUntilDone 11 = .ok (.invokestatic 58, 3) := by decide +kernel
theorem dX12_ticksUntilDone_14 : decode cX12_ticksUntilDone 14 = .ok (.ifCond .ne 9, 3) := by decide +kernel
theorem dX12_ticksUntilDone_17 : decode cX12_ticksUntilDone 17 = .ok (.aload_n 0, 1) := by decide +kernel
theorem dX12_ticksUntilDone_18 : decode cX12_ticksUntilDone 18 = .ok (.iconst 1, 1) := by decide +kernel
theorem dX12_ticksUntilDone_19 : decode cX12_ticksUntilDone 19 = .ok (.invokevirtual 174, 3) := by decide +kernel
theorem dX12_ticksUntilDone_22 : decode cX12_ticksUntilDone 22 = .ok (.ireturn, 1) := by decide +kernel
theorem dX12_ticksUntilDone_23 : decode cX12_ticksUntilDone 23 = .ok (.aload_n 0, 1) := by decide +kernel
theorem dX12_ticksUntilDone_24 : decode cX12_ticksUntilDone 24 = .ok (.getfield 7, 3) := by decide +kernel
theorem dX12_ticksUntilDone_27 : decode cX12_ticksUntilDone 27 = .ok (.aload_n 0, 1) := by decide +kernel
theorem dX12_ticksUntilDone_28 : decode cX12_ticksUntilDone 28 = .ok (.getfield 16, 3) := by decide +kernel
theorem dX12_ticksUntilDone_31 : decode cX12_ticksUntilDone 31 = .ok (.invokestatic 219, 3) := by decide +kernel
theorem dX12_ticksUntilDone_34 : decode cX12_ticksUntilDone 34 = .ok (.aload_n 0, 1) := by decide +kernel
theorem dX12_ticksUntilDone_35 : decode cX12_ticksUntilDone 35 = .ok (.iload_n 1, 1) := by decide +kernel
theorem dX12_ticksUntilDone_36 : decode cX12_ticksUntilDone 36 = .ok (.invokevirtual 203, 3) := by decide +kernel
theorem dX12_ticksUntilDone_39 : decode cX12_ticksUntilDone 39 = .ok (.istore_n 2, 1) := by decide +kernel
theorem dX12_ticksUntilDone_40 : decode cX12_ticksUntilDone 40 = .ok (.aload_n 0, 1) := by decide +kernel
theorem dX12_ticksUntilDone_41 : decode cX12_ticksUntilDone 41 = .ok (.invokevirtual 158, 3) := by decide +kernel
theorem dX12_ticksUntilDone_44 : decode cX12_ticksUntilDone 44 = .ok (.istore_n 3, 1) := by decide +kernel
theorem dX12_ticksUntilDone_45 : decode cX12_ticksUntilDone 45 = .ok (.aload_n 0, 1) := by decide +kernel
theorem dX12_ticksUntilDone_46 : decode cX12_ticksUntilDone 46 = .ok (.getfield 16, 3) := by decide +kernel
theorem dX12_ticksUntilDone_49 : decode cX12_ticksUntilDone 49 = .ok (.aload_n 0, 1) := by decide +kernel
theorem dX12_ticksUntilDone_50 : decode cX12_ticksUntilDone 50 = .ok (.getfield 7, 3) := by decide +kernel
theorem dX12_ticksUntilDone_53 : decode cX12_ticksUntilDone 53 = .ok (.invokestatic 219, 3) := by decide +kernel
theorem dX12_ticksUntilDone_56 : decode cX12_ticksUntilDone 56 = .ok (.iload_n 3, 1) := by decide +kernel
theorem dX12_ticksUntilDone_57 : decode cX12_ticksUntilDone 57 = .ok (.ifCond .eq 7, 3) := by decide +kernel
theorem dX12_ticksUntilDone_60 : decode cX12_ticksUntilDone 60 = .ok (.iconst (-1), 1) := by decide +kernel
theorem dX12_ticksUntilDone_61 : decode cX12_ticksUntilDone 61 = .ok (.goto 4, 3) := by decide +kernel
theorem dX12_ticksUntilDone_64 : decode cX12_ticksUntilDone 64 = .ok (.iload_n 2, 1) := by decide +kernel
theorem dX12_ticksUntilDone_65 : decode cX12_ticksUntilDone 65 = .ok (.ireturn, 1) := by decide +kernel
theorem dX12_bestCorrection_0 : decode cX12_bestCorrection 0 = .ok (.aload_n 0, 1) := by decide +kernel
theorem dX12_bestCorrection_1 : decode cX12_bestCorrection 1 = .ok (.iconst 0, 1) := by decide +kernel
theorem dX12_bestCorrection_2 : decode cX12_bestCorrection 2 = .ok (.putfield 47, 3) := by decide +kernel
theorem dX12_bestCorrection_5 : decode cX12_bestCorrection 5 = .ok (.iload_n 1, 1) := by decide +kernel
theorem dX12_bestCorrection_6 : decode cX12_bestCorrection 6 = .ok (.i2l, 1) := by decide +kernel
theorem dX12_bestCorrection_7 : decode cX12_bestCorrection 7 = .ok (.lconst 1, 1) := by decide +kernel
theorem dX12_bestCorrection_8 : decode cX12_bestCorrection 8 = .ok (.ldc2_w 92, 3) := by decide +kernel
theorem dX12_bestCorrection_11 : decode cX12_bestCorrection 11 = .ok (.invokestatic 58, 3) := by decide +kernel
theorem dX12_bestCorrection_14 : decode cX12_bestCorrection 14 = .ok (.ifCond .ne 9, 3) := by decide +kernel
theorem dX12_bestCorrection_17 : decode cX12_bestCorrection 17 = .ok (.aload_n 0, 1) := by decide +kernel
theorem dX12_bestCorrection_18 : decode cX12_bestCorrection 18 = .ok (.iconst 1, 1) := by decide +kernel
theorem dX12_bestCorrection_19 : decode cX12_bestCorrection 19 = .ok (.invokevirtual 174, 3) := by decide +kernel
theorem dX12_bestCorrection_22 : decode cX12_bestCorrection 22 = .ok (.ireturn, 1) := by decide +kernel
theorem dX12_bestCorrection_23 : decode cX12_bestCorrection 23 = .ok (.aload_n 0, 1) := by decide +kernel
theorem dX12_bestCorrection_24 : decode cX12_bestCorrection 24 = .ok (.getfield 7, 3) := by decide +kernel
theorem dX12_bestCorrection_27 : decode cX12_bestCorrection 27 = .ok (.aload_n 0, 1) := by decide +kernel
theorem dX12_bestCorrection_28 : decode cX12_bestCorrection 28 = .ok (.getfield 16, 3) := by decide +kernel
theorem dX12_bestCorrection_31 : decode cX12_bestCorrection 31 = .ok (.invokestatic 219, 3) := by decide +kernel
theorem dX12_bestCorrection_34 : decode cX12_bestCorrection 34 = .ok (.iconst (-1), 1) := by decide +kernel
theorem dX12_bestCorrection_35 : decode cX12_bestCorrection 35 = .ok (.istore_n 2, 1) := by decide +kernel
theorem dX12_bestCorrection_36 : decode cX12_bestCorrection 36 = .ok (.iconst 0, 1) := by decide +kernel
theorem dX12_bestCorrection_37 : decode cX12_bestCorrection 37 = .ok (.istore_n 3, 1) := by decide +kernel
theorem dX12_bestCorrection_38 : decode cX12_bestCorrection 38 = .ok (.iconst 0, 1) := by decide +kernel
theorem dX12_bestCorrection_39 : decode cX12_bestCorrection 39 = .ok (.istore 4, 2) := by decide +kernel
theorem dX12_bestCorrection_41 : decode cX12_bestCorrection 41 = .ok (.iload 4, 2) := by decide +kernel
theorem dX12_bestCorrection_43 : decode cX12_bestCorrection 43 = .ok (.sipush 500, 3) := by decide +kernel
theorem dX12_bestCorrection_46 : decode cX12_bestCorrection 46 = .ok (.if_icmp .gt 55, 3) := by decide +kernel
theorem dX12_bestCorrection_49 : decode cX12_bestCorrection 49 = .ok (.aload_n 0, 1) := by decide +kernel
theorem dX12_bestCorrection_50 : decode cX12_bestCorrection 50 = .ok (.getfield 7, 3) := by decide +kernel
theorem dX12_bestCorrection_53 : decode cX12_bestCorrection 53 = .ok (.iconst 2, 1) := by decide +kernel
theorem dX12_bestCorrection_54 : decode cX12_bestCorrection 54 = .ok (.iload 4, 2) := by decide +kernel
theorem dX12_bestCorrection_56 : decode cX12_bestCorrection 56 = .ok (.iastore, 1) := by decide +kernel
theorem dX12_bestCorrection_57 : decode cX12_bestCorrection 57 = .ok (.aload_n 0, 1) := by decide +kernel
theorem dX12_bestCorrection_58 : decode cX12_bestCorrection 58 = .ok (.iload_n 1, 1) := by decide +kernel
theorem dX12_bestCorrection_59 : decode cX12_bestCorrection 59 = .ok (.invokevirtual 223, 3) := by decide +kernel
theorem dX12_bestCorrection_62 : decode cX12_bestCorrection 62 = .ok (.istore 5, 2) := by decide +kernel
theorem dX12_bestCorrection_64 : decode cX12_bestCorrection 64 = .ok (.aload_n 0, 1) := by decide +kernel
theorem dX12_bestCorrection_65 : decode cX12_bestCorrection 65 = .ok (.getfield 16, 3) := by decide +kernel
theorem dX12_bestCorrection_68 : decode cX12_bestCorrection 68 = .ok (.aload_n 0, 1) := by decide +kernel
theorem dX12_bestCorrection_69 : decode cX12_bestCorrection 69 = .ok (.getfield 7, 3) := by decide +kernel
theorem dX12_bestCorrection_72 : decode cX12_bestCorrection 72 = .ok (.invokestatic 219, 3) := by decide +kernel
theorem dX12_bestCorrection_75 : decode cX12_bestCorrection 75 = .ok (.iload_n 2, 1) := by decide +kernel
theorem dX12_bestCorrection_76 : decode cX12_bestCorrection 76 = .ok (.iconst (-1), 1) := by decide +kernel
theorem dX12_bestCorrection_77 : decode cX12_bestCorrection 77 = .ok (.if_icmp .eq 12, 3) := by decide +kernel
theorem dX12_bestCorrection_80 : decode cX12_bestCorrection 80 = .ok (.iload 5, 2) := by decide +kernel
theorem dX12_bestCorrection_82 : decode cX12_bestCorrection 82 = .ok (.iload_n 3, 1) := by decide +kernel
theorem dX12_bestCorrection_83 : decode cX12_bestCorrection 83 = .ok (.if_icmp .lt 6, 3) := by decide +kernel
theorem dX12_bestCorrection_86 : decode cX12_bestCorrection 86 = .ok (.goto 9, 3) := by decide +kernel
theorem dX12_bestCorrection_89 : decode cX12_bestCorrection 89 = .ok (.iload 4, 2) := by decide +kernel
theorem dX12_bestCorrection_91 : decode cX12_bestCorrection 91 = .ok (.istore_n 2, 1) := by decide +kernel
theorem dX12_bestCorrection_92 : decode cX12_bestCorrection 92 = .ok (.iload 5, 2) := by decide +kernel
theorem dX12_bestCorrection_94 : decode cX12_bestCorrection 94 = .ok (.istore_n 3, 1) := by decide +kernel
theorem dX12_bestCorrection_95 : decode cX12_bestCorrection 95 = .ok (.iinc 4 25, 3) := by decide +kernel
theorem dX12_bestCorrection_98 : decode cX12_bestCorrection 98 = .ok (.goto (-57), 3) := by decide +kernel
theorem dX12_bestCorrection_101 : decode cX12_bestCorrection 101 = .ok (.iload_n 2, 1) := by decide +kernel
theorem dX12_bestCorrection_102 : decode cX12_bestCorrection 102 = .ok (.ireturn, 1) := by decide +kernel
theorem dX12_bestRate_0 : decode cX12_bestRate 0 = .ok (.aload_n 0, 1) := by decide +kernel
theorem dX12_bestRate_1 : decode cX12_bestRate 1 = .ok (.iconst 0, 1) := by decide +kernel
theorem dX12_bestRate_2 : decode cX12_bestRate 2 = .ok (.putfield 47, 3) := by decide +kernel
theorem dX12_bestRate_5 : decode cX12_bestRate 5 = .ok (.iload_n 1, 1) := by decide +kernel
theorem dX12_bestRate_6 : decode cX12_bestRate 6 = .ok (.invokestatic 54, 3) := by decide +kernel
theorem dX12_bestRate_9 : decode cX12_bestRate 9 = .ok (.ifCond .ne 9, 3) := by decide +kernel
theorem dX12_bestRate_12 : decode cX12_bestRate 12 = .ok (.aload_n 0, 1) := by decide +kernel
theorem dX12_bestRate_13 : decode cX12_bestRate 13 = .ok (.iconst 1, 1) := by decide +kernel
theorem dX12_bestRate_14 : decode cX12_bestRate 14 = .ok (.invokevirtual 174, 3) := by decide +kernel
theorem dX12_bestRate_17 : decode cX12_bestRate 17 = .ok (.ireturn, 1) := by decide +kernel
theorem dX12_bestRate_18 : decode cX12_bestRate 18 = .ok (.iload_n 2, 1) := by decide +kernel
theorem dX12_bestRate_19 : decode cX12_bestRate 19 = .ok (.i2l, 1) := by decide +kernel
theorem dX12_bestRate_20 : decode cX12_bestRate 20 = .ok (.lconst 1, 1) := by decide +kernel
theorem dX12_bestRate_21 : decode cX12_bestRate 21 = .ok (.ldc2_w 92, 3) := by decide +kernel
theorem dX12_bestRate_24 : decode cX12_bestRate 24 = .ok (.invokestatic 58, 3) := by decide +kernel
theorem dX12_bestRate_27 : decode cX12_bestRate 27 = .ok (.ifCond .ne 9, 3) := by decide +kernel
theorem dX12_bestRate_30 : decode cX12_bestRate 30 = .ok (.aload_n 0, 1) := by decide +kernel
theorem dX12_bestRate_31 : decode cX12_bestRate 31 = .ok (.iconst 2, 1) := by decide +kernel
theorem dX12_bestRate_32 : decode cX12_bestRate 32 = .ok (.invokevirtual 174, 3) := by decide +kernel
theorem dX12_bestRate_35 : decode cX12_bestRate 35 = .ok (.ireturn, 1) := by decide +kernel
theorem dX12_bestRate_36 : decode cX12_bestRate 36 = .ok (.aload_n 0, 1) := by decide +kernel
theorem dX12_bestRate_37 : decode cX12_bestRate 37 = .ok (.getfield 7, 3) := by decide +kernel
theorem dX12_bestRate_40 : decode cX12_bestRate 40 = .ok (.aload_n 0, 1) := by decide +kernel
theorem dX12_bestRate_41 : decode cX12_bestRate 41 = .ok (.getfield 16, 3) := by decide +kernel
theorem dX12_bestRate_44 : decode cX12_bestRate 44 = .ok (.invokestatic 219, 3) := by decide +kernel
theorem dX12_bestRate_47 : decode cX12_bestRate 47 = .ok (.iconst (-1), 1) := by decide +kernel
theorem dX12_bestRate_48 : decode cX12_bestRate 48 = .ok (.istore_n 3, 1) := by decide +kernel
theorem dX12_bestRate_49 : decode cX12_bestRate 49 = .ok (.iconst 0, 1) := by decide +kernel
theorem dX12_bestRate_50 : decode cX12_bestRate 50 = .ok (.istore 4, 2) := by decide +kernel
theorem dX12_bestRate_52 : decode cX12_bestRate 52 = .ok (.aload_n 0, 1) := by decide +kernel
theorem dX12_bestRate_53 : decode cX12_bestRate 53 = .ok (.getfield 7, 3) := by decide +kernel
theorem dX12_bestRate_56 : decode cX12_bestRate 56 = .ok (.bipush 23, 2) := by decide +kernel
theorem dX12_bestRate_58 : decode cX12_bestRate 58 = .ok (.iload_n 1, 1) := by decide +kernel
theorem dX12_bestRate_59 : decode cX12_bestRate 59 = .ok (.iadd, 1) := by decide +kernel
theorem dX12_bestRate_60 : decode cX12_bestRate 60 = .ok (.iaload, 1) := by decide +kernel
theorem dX12_bestRate_61 : decode cX12_bestRate 61 = .ok (.istore 5, 2) := by decide +kernel
theorem dX12_bestRate_63 : decode cX12_bestRate 63 = .ok (.iload 5, 2) := by decide +kernel
theorem dX12_bestRate_65 : decode cX12_bestRate 65 = .ok (.iconst 5, 1) := by decide +kernel
theorem dX12_bestRate_66 : decode cX12_bestRate 66 = .ok (.isub, 1) := by decide +kernel
theorem dX12_bestRate_67 : decode cX12_bestRate 67 = .ok (.istore 6, 2) := by decide +kernel
theorem dX12_bestRate_69 : decode cX12_bestRate 69 = .ok (.iload 6, 2) := by decide +kernel
theorem dX12_bestRate_71 : decode cX12_bestRate 71 = .ok (.iload 5, 2) := by decide +kernel
theorem dX12_bestRate_73 : decode cX12_bestRate 73 = .ok (.iconst 5, 1) := by decide +kernel
theorem dX12_bestRate_74 : decode cX12_bestRate 74 = .ok (.iadd, 1) := by decide +kernel
theorem dX12_bestRate_75 : decode cX12_bestRate 75 = .ok (.if_icmp .gt 86, 3) := by decide +kernel
theorem dX12_bestRate_78 : decode cX12_bestRate 78 = .ok (.iload 6, 2) := by decide +kernel
theorem dX12_bestRate_80 : decode cX12_bestRate 80 = .ok (.i2l, 1) := by decide +kernel
theorem dX12_bestRate_81 : decode cX12_bestRate 81 = .ok (.ldc2_w 206, 3) := by decide +kernel
theorem dX12_bestRate_84 : decode cX12_bestRate 84 = .ok (.ldc2_w 208, 3) := by decide +kernel
theorem dX12_bestRate_87 : decode cX12_bestRate 87 = .ok (.invokestatic 58, 3) := by decide +kernel
theorem dX12_bestRate_90 : decode cX12_bestRate 90 = .ok (.ifCond .ne 6, 3) := by decide +kernel
theorem dX12_bestRate_93 : decode cX12_bestRate 93 = .ok (.goto 62, 3) := by decide +kernel
theorem dX12_bestRate_96 : decode cX12_bestRate 96 = .ok (.aload_n 0, 1) := by decide +kernel
theorem dX12_bestRate_97 : decode cX12_bestRate 97 = .ok (.getfield 7, 3) := by decide +kernel
theorem dX12_bestRate_100 : decode cX12_bestRate 100 = .ok (.bipush 23, 2) := by decide +kernel
theorem dX12_bestRate_102 : decode cX12_bestRate 102 = .ok (.iload_n 1, 1) := by decide +kernel
theorem dX12_bestRate_103 : decode cX12_bestRate 103 = .ok (.iadd, 1) := by decide +kernel
theorem dX12_bestRate_104 : decode cX12_bestRate 104 = .ok (.iload 6, 2) := by decide +kernel
theorem dX12_bestRate_106 : decode cX12_bestRate 106 = .ok (.iastore, 1) := by decide +kernel
theorem dX12_bestRate_107 : decode cX12_bestRate 107 = .ok (.aload_n 0, 1) := by decide +kernel
theorem dX12_bestRate_108 : decode cX12_bestRate 108 = .ok (.iconst 0, 1) := by decide +kernel
theorem dX12_bestRate_109 : decode cX12_bestRate 109 = .ok (.putfield 139, 3) := by decide +kernel
theorem dX12_bestRate_112 : decode cX12_bestRate 112 = .ok (.aload_n 0, 1) := by decide +kernel
theorem dX12_bestRate_113 : decode cX12_bestRate 113 = .ok (.iload_n 2, 1) := by decide +kernel
theorem dX12_bestRate_114 : decode cX12_bestRate 114 = .ok (.invokevirtual 223, 3) := by decide +kernel
theorem dX12_bestRate_117 : decode cX12_bestRate 117 = .ok (.pop, 1) := by decide +kernel
theorem dX12_bestRate_118 : decode cX12_bestRate 118 = .ok (.aload_n 0, 1) := by decide +kernel
theorem dX12_bestRate_119 : decode cX12_bestRate 119 = .ok (.getfield 16, 3) := by decide +kernel
theorem dX12_bestRate_122 : decode cX12_bestRate 122 = .ok (.aload_n 0, 1) := by decide +kernel
theorem dX12_bestRate_123 : decode cX12_bestRate 123 = .ok (.getfield 7, 3) := by decide +kernel
theorem dX12_bestRate_126 : decode cX12_bestRate 126 = .ok (.invokestatic 219, 3) := by decide +kernel
theorem dX12_bestRate_129 : decode cX12_bestRate 129 = .ok (.iload_n 3, 1) := by decide +kernel
theorem dX12_bestRate_130 : decode cX12_bestRate 130 = .ok (.iconst (-1), 1) := by decide +kernel
theorem dX12_bestRate_131 : decode cX12_bestRate 131 = .ok (.if_icmp .eq 15, 3) := by decide +kernel
theorem dX12_bestRate_134 : decode cX12_bestRate 134 = .ok (.aload_n 0, 1) := by decide +kernel
theorem dX12_bestRate_135 : decode cX12_bestRate 135 = .ok (.getfield 139, 3) := by decide +kernel
theorem dX12_bestRate_138 : decode cX12_bestRate 138 = .ok (.iload 4, 2) := by decide +kernel
theorem dX12_bestRate_140 : decode cX12_bestRate 140 = .ok (.if_icmp .lt 6, 3) := by decide +kernel
theorem dX12_bestRate_143 : decode cX12_bestRate 143 = .ok (.goto 12, 3) := by decide +kernel
theorem dX12_bestRate_146 : decode cX12_bestRate 146 = .ok (.iload 6, 2) := by decide +kernel
theorem dX12_bestRate_148 : decode cX12_bestRate 148 = .ok (.istore_n 3, 1) := by decide +kernel
theorem dX12_bestRate_149 : decode cX12_bestRate 149 = .ok (.aload_n 0, 1) := by decide +kernel
theorem dX12_bestRate_150 : decode cX12_bestRate 150 = .ok (.getfield 139, 3) := by decide +kernel
theorem dX12_bestRate_153 : decode cX12_bestRate 153 = .ok (.istore 4, 2) := by decide +kernel
theorem dX12_bestRate_155 : decode cX12_bestRate 155 = .ok (.iinc 6 1, 3) := by decide +kernel
theorem dX12_bestRate_158 : decode cX12_bestRate 158 = .ok (.goto (-89), 3) := by decide +kernel
theorem dX12_bestRate_161 : decode cX12_bestRate 161 = .ok (.iload_n 3, 1) := by decide +kernel
theorem dX12_bestRate_162 : decode cX12_bestRate 162 = .ok (.ireturn, 1) := by decide +kernel
theorem dX12_bestNudge_0 : decode cX12_bestNudge 0 = .ok (.aload_n 0, 1) := by decide +kernel
theorem dX12_bestNudge_1 : decode cX12_bestNudge 1 = .ok (.iconst 0, 1) := by decide +kernel
theorem dX12_bestNudge_2 : decode cX12_bestNudge 2 = .ok (.putfield 47, 3) := by decide +kernel
theorem dX12_bestNudge_5 : decode cX12_bestNudge 5 = .ok (.iload_n 1, 1) := by decide +kernel
theorem dX12_bestNudge_6 : decode cX12_bestNudge 6 = .ok (.invokestatic 54, 3) := by decide +kernel
theorem dX12_bestNudge_9 : decode cX12_bestNudge 9 = .ok (.ifCond .ne 9, 3) := by decide +kernel
theorem dX12_bestNudge_12 : decode cX12_bestNudge 12 = .ok (.aload_n 0, 1) := by decide +kernel
theorem dX12_bestNudge_13 : decode cX12_bestNudge 13 = .ok (.iconst 1, 1) := by decide +kernel
theorem dX12_bestNudge_14 : decode cX12_bestNudge 14 = .ok (.invokevirtual 174, 3) := by decide +kernel
theorem dX12_bestNudge_17 : decode cX12_bestNudge 17 = .ok (.ireturn, 1) := by decide +kernel
theorem dX12_bestNudge_18 : decode cX12_bestNudge 18 = .ok (.iload_n 2, 1) := by decide +kernel
theorem dX12_bestNudge_19 : decode cX12_bestNudge 19 = .ok (.i2l, 1) := by decide +kernel
theorem dX12_bestNudge_20 : decode cX12_bestNudge 20 = .ok (.lconst 1, 1) := by decide +kernel
theorem dX12_bestNudge_21 : decode cX12_bestNudge 21 = .ok (.ldc2_w 92, 3) := by decide +kernel
theorem dX12_bestNudge_24 : decode cX12_bestNudge 24 = .ok (.invokestatic 58, 3) := by decide +kernel
theorem dX12_bestNudge_27 : decode cX12_bestNudge 27 = .ok (.ifCond .ne 9, 3) := by decide +kernel
theorem dX12_bestNudge_30 : decode cX12_bestNudge 30 = .ok (.aload_n 0, 1) := by decide +kernel
theorem dX12_bestNudge_31 : decode cX12_bestNudge 31 = .ok (.iconst 2, 1) := by decide +kernel
theorem dX12_bestNudge_32 : decode cX12_bestNudge 32 = .ok (.invokevirtual 174, 3) := by decide +kernel
theorem dX12_bestNudge_35 : decode cX12_bestNudge 35 = .ok (.ireturn, 1) := by decide +kernel
theorem dX12_bestNudge_36 : decode cX12_bestNudge 36 = .ok (.aload_n 0, 1) := by decide +kernel
theorem dX12_bestNudge_37 : decode cX12_bestNudge 37 = .ok (.getfield 7, 3) := by decide +kernel
theorem dX12_bestNudge_40 : decode cX12_bestNudge 40 = .ok (.aload_n 0, 1) := by decide +kernel
theorem dX12_bestNudge_41 : decode cX12_bestNudge 41 = .ok (.getfield 16, 3) := by decide +kernel
theorem dX12_bestNudge_44 : decode cX12_bestNudge 44 = .ok (.invokestatic 219, 3) := by decide +kernel
theorem dX12_bestNudge_47 : decode cX12_bestNudge 47 = .ok (.iconst 0, 1) := by decide +kernel
theorem dX12_bestNudge_48 : decode cX12_bestNudge 48 = .ok (.istore_n 3, 1) := by decide +kernel
theorem dX12_bestNudge_49 : decode cX12_bestNudge 49 = .ok (.iconst (-1), 1) := by decide +kernel
theorem dX12_bestNudge_50 : decode cX12_bestNudge 50 = .ok (.istore 4, 2) := by decide +kernel
theorem dX12_bestNudge_52 : decode cX12_bestNudge 52 = .ok (.iconst 0, 1) := by decide +kernel
theorem dX12_bestNudge_53 : decode cX12_bestNudge 53 = .ok (.istore 5, 2) := by decide +kernel
theorem dX12_bestNudge_55 : decode cX12_bestNudge 55 = .ok (.iload 5, 2) := by decide +kernel
theorem dX12_bestNudge_57 : decode cX12_bestNudge 57 = .ok (.sipush 500, 3) := by decide +kernel
theorem dX12_bestNudge_60 : decode cX12_bestNudge 60 = .ok (.if_icmp .gt 98, 3) := by decide +kernel
theorem dX12_bestNudge_63 : decode cX12_bestNudge 63 = .ok (.iconst (-1), 1) := by decide +kernel
theorem dX12_bestNudge_64 : decode cX12_bestNudge 64 = .ok (.istore 6, 2) := by decide +kernel
theorem dX12_bestNudge_66 : decode cX12_bestNudge 66 = .ok (.iload 6, 2) := by decide +kernel
theorem dX12_bestNudge_68 : decode cX12_bestNudge 68 = .ok (.iconst 1, 1) := by decide +kernel
theorem dX12_bestNudge_69 : decode cX12_bestNudge 69 = .ok (.if_icmp .gt 83, 3) := by decide +kernel
theorem dX12_bestNudge_72 : decode cX12_bestNudge 72 = .ok (.aload_n 0, 1) := by decide +kernel
theorem dX12_bestNudge_73 : decode cX12_bestNudge 73 = .ok (.getfield 7, 3) := by decide +kernel
theorem dX12_bestNudge_76 : decode cX12_bestNudge 76 = .ok (.bipush 21, 2) := by decide +kernel
theorem dX12_bestNudge_78 : decode cX12_bestNudge 78 = .ok (.iload_n 1, 1) := by decide +kernel
theorem dX12_bestNudge_79 : decode cX12_bestNudge 79 = .ok (.iadd, 1) := by decide +kernel
theorem dX12_bestNudge_80 : decode cX12_bestNudge 80 = .ok (.aload_n 0, 1) := by decide +kernel
theorem dX12_bestNudge_81 : decode cX12_bestNudge 81 = .ok (.aload_n 0, 1) := by decide +kernel
theorem dX12_bestNudge_82 : decode cX12_bestNudge 82 = .ok (.getfield 7, 3) := by decide +kernel
theorem dX12_bestNudge_85 : decode cX12_bestNudge 85 = .ok (.bipush 21, 2) := by decide +kernel
theorem dX12_bestNudge_87 : decode cX12_bestNudge 87 = .ok (.iload_n 1, 1) := by decide +kernel
theorem dX12_bestNudge_88 : decode cX12_bestNudge 88 = .ok (.iadd, 1) := by decide +kernel
theorem dX12_bestNudge_89 : decode cX12_bestNudge 89 = .ok (.iaload, 1) := by decide +kernel
theorem dX12_bestNudge_90 : decode cX12_bestNudge 90 = .ok (.i2l, 1) := by decide +kernel
theorem dX12_bestNudge_91 : decode cX12_bestNudge 91 = .ok (.iload 6, 2) := by decide +kernel
theorem dX12_bestNudge_93 : decode cX12_bestNudge 93 = .ok (.iload 5, 2) := by decide +kernel
theorem dX12_bestNudge_95 : decode cX12_bestNudge 95 = .ok (.imul, 1) := by decide +kernel
theorem dX12_bestNudge_96 : decode cX12_bestNudge 96 = .ok (.i2l, 1) := by decide +kernel
theorem dX12_bestNudge_97 : decode cX12_bestNudge 97 = .ok (.ladd, 1) := by decide +kernel
theorem dX12_bestNudge_98 : decode cX12_bestNudge 98 = .ok (.invokevirtual 94, 3) := by decide +kernel
theorem dX12_bestNudge_101 : decode cX12_bestNudge 101 = .ok (.iastore, 1) := by decide +kernel
theorem dX12_bestNudge_102 : decode cX12_bestNudge 102 = .ok (.aload_n 0, 1) := by decide +kernel
theorem dX12_bestNudge_103 : decode cX12_bestNudge 103 = .ok (.iload_n 2, 1) := by decide +kernel
theorem dX12_bestNudge_104 : decode cX12_bestNudge 104 = .ok (.invokevirtual 223, 3) := by decide +kernel
theorem dX12_bestNudge_107 : decode cX12_bestNudge 107 = .ok (.istore 7, 2) := by decide +kernel
theorem dX12_bestNudge_109 : decode cX12_bestNudge 109 = .ok (.aload_n 0, 1) := by decide +kernel
theorem dX12_bestNudge_110 : decode cX12_bestNudge 110 = .ok (.getfield 16, 3) := by decide +kernel
theorem dX12_bestNudge_113 : decode cX12_bestNudge 113 = .ok (.aload_n 0, 1) := by decide +kernel
theorem dX12_bestNudge_114 : decode cX12_bestNudge 114 = .ok (.getfield 7, 3) := by decide +kernel
theorem dX12_bestNudge_117 : decode cX12_bestNudge 117 = .ok (.invokestatic 219, 3) := by decide +kernel
theorem dX12_bestNudge_120 : decode cX12_bestNudge 120 = .ok (.iload 4, 2) := by decide +kernel
theorem dX12_bestNudge_122 : decode cX12_bestNudge 122 = .ok (.iconst (-1), 1) := by decide +kernel
theorem dX12_bestNudge_123 : decode cX12_bestNudge 123 = .ok (.if_icmp .eq 13, 3) := by decide +kernel
theorem dX12_bestNudge_126 : decode cX12_bestNudge 126 = .ok (.iload 7, 2) := by decide +kernel
theorem dX12_bestNudge_128 : decode cX12_bestNudge 128 = .ok (.iload 4, 2) := by decide +kernel
theorem dX12_bestNudge_130 : decode cX12_bestNudge 130 = .ok (.if_icmp .lt 6, 3) := by decide +kernel
theorem dX12_bestNudge_133 : decode cX12_bestNudge 133 = .ok (.goto 13, 3) := by decide +kernel
theorem dX12_bestNudge_136 : decode cX12_bestNudge 136 = .ok (.iload 6, 2) := by decide +kernel
theorem dX12_bestNudge_138 : decode cX12_bestNudge 138 = .ok (.iload 5, 2) := by decide +kernel
theorem dX12_bestNudge_140 : decode cX12_bestNudge 140 = .ok (.imul, 1) := by decide +kernel
theorem dX12_bestNudge_141 : decode cX12_bestNudge 141 = .ok (.istore_n 3, 1) := by decide +kernel
theorem dX12_bestNudge_142 : decode cX12_bestNudge 142 = .ok (.iload 7, 2) := by decide +kernel
theorem dX12_bestNudge_144 : decode cX12_bestNudge 144 = .ok (.istore 4, 2) := by decide +kernel
theorem dX12_bestNudge_146 : decode cX12_bestNudge 146 = .ok (.iinc 6 2, 3) := by decide +kernel
theorem dX12_bestNudge_149 : decode cX12_bestNudge 149 = .ok (.goto (-83), 3) := by decide +kernel
theorem dX12_bestNudge_152 : decode cX12_bestNudge 152 = .ok (.iinc 5 100, 3) := by decide +kernel
theorem dX12_bestNudge_155 : decode cX12_bestNudge 155 = .ok (.goto (-100), 3) := by decide +kernel
theorem dX12_bestNudge_158 : decode cX12_bestNudge 158 = .ok (.iload_n 3, 1) := by decide +kernel
theorem dX12_bestNudge_159 : decode cX12_bestNudge 159 = .ok (.ireturn, 1) := by decide +kernel
theorem dX12_puts_0 : decode cX12_puts 0 = .ok (.aload_n 0, 1) := by decide +kernel
theorem dX12_puts_1 : decode cX12_puts 1 = .ok (.getfield 32, 3) := by decide +kernel
theorem dX12_puts_4 : decode cX12_puts 4 = .ok (.aload_n 0, 1) := by decide +kernel
theorem dX12_puts_5 : decode cX12_puts 5 = .ok (.getfield 226, 3) := by decide +kernel
theorem dX12_puts_8 : decode cX12_puts 8 = .ok (.iload_n 1, 1) := by decide +kernel
theorem dX12_puts_9 : decode cX12_puts 9 = .ok (.iastore, 1) := by decide +kernel
theorem dX12_puts_10 : decode cX12_puts 10 = .ok (.aload_n 0, 1) := by decide +kernel
theorem dX12_puts_11 : decode cX12_puts 11 = .ok (.dup, 1) := by decide +kernel
theorem dX12_puts_12 : decode cX12_puts 12 = .ok (.getfield 226, 3) := by decide +kernel
theorem dX12_puts_15 : decode cX12_puts 15 = .ok (.iconst 1, 1) := by decide +kernel
theorem dX12_puts_16 : decode cX12_puts 16 = .ok (.iadd, 1) := by decide +kernel
theorem dX12_puts_17 : decode cX12_puts 17 = .ok (.putfield 226, 3) := by decide +kernel
theorem dX12_puts_20 : decode cX12_puts 20 = .ok (.return_, 1) := by decide +kernel
theorem dX12_says_0 : decode cX12_says 0 = .ok (.iconst 0, 1) := by decide +kernel
theorem dX12_says_1 : decode cX12_says 1 = .ok (.istore_n 2, 1) := by decide +kernel
theorem dX12_says_2 : decode cX12_says 2 = .ok (.iload_n 2, 1) := by decide +kernel
theorem dX12_says_3 : decode cX12_says 3 = .ok (.aload_n 1, 1) := by decide +kernel
theorem dX12_says_4 : decode cX12_says 4 = .ok (.invokevirtual 229, 3) := by decide +kernel
theorem dX12_says_7 : decode cX12_says 7 = .ok (.if_icmp .ge 18, 3) := by decide +kernel
theorem dX12_says_10 : decode cX12_says 10 = .ok (.aload_n 0, 1) := by decide +kernel
theorem dX12_says_11 : decode cX12_says 11 = .ok (.aload_n 1, 1) := by decide +kernel
theorem dX12_says_12 : decode cX12_says 12 = .ok (.iload_n 2, 1) := by decide +kernel
theorem dX12_says_13 : decode cX12_says 13 = .ok (.invokevirtual 126, 3) := by decide +kernel
theorem dX12_says_16 : decode cX12_says 16 = .ok (.invokevirtual 232, 3) := by decide +kernel
theorem dX12_says_19 : decode cX12_says 19 = .ok (.iinc 2 1, 3) := by decide +kernel
theorem dX12_says_22 : decode cX12_says 22 = .ok (.goto (-20), 3) := by decide +kernel
theorem dX12_says_25 : decode cX12_says 25 = .ok (.return_, 1) := by decide +kernel
theorem dX12_digits_0 : decode cX12_digits 0 = .ok (.iconst 1, 1) := by decide +kernel
theorem dX12_digits_1 : decode cX12_digits 1 = .ok (.istore_n 2, 1) := by decide +kernel
theorem dX12_digits_2 : decode cX12_digits 2 = .ok (.iload_n 1, 1) := by decide +kernel
theorem dX12_digits_3 : decode cX12_digits 3 = .ok (.iload_n 2, 1) := by decide +kernel
theorem dX12_digits_4 : decode cX12_digits 4 = .ok (.idiv, 1) := by decide +kernel
theorem dX12_digits_5 : decode cX12_digits 5 = .ok (.bipush 9, 2) := by decide +kernel
theorem dX12_digits_7 : decode cX12_digits 7 = .ok (.if_icmp .le 11, 3) := by decide +kernel
theorem dX12_digits_10 : decode cX12_digits 10 = .ok (.iload_n 2, 1) := by decide +kernel
theorem dX12_digits_11 : decode cX12_digits 11 = .ok (.bipush 10, 2) := by decide +kernel
theorem dX12_digits_13 : decode cX12_digits 13 = .ok (.imul, 1) := by decide +kernel
theorem dX12_digits_14 : decode cX12_digits 14 = .ok (.istore_n 2, 1) := by decide +kernel
theorem dX12_digits_15 : decode cX12_digits 15 = .ok (.goto (-13), 3) := by decide +kernel
theorem dX12_digits_18 : decode cX12_digits 18 = .ok (.iload_n 2, 1) := by decide +kernel
theorem dX12_digits_19 : decode cX12_digits 19 = .ok (.istore_n 3, 1) := by decide +kernel
theorem dX12_digits_20 : decode cX12_digits 20 = .ok (.iload_n 3, 1) := by decide +kernel
theorem dX12_digits_21 : decode cX12_digits 21 = .ok (.ifCond .le 24, 3) := by decide +kernel
theorem dX12_digits_24 : decode cX12_digits 24 = .ok (.aload_n 0, 1) := by decide +kernel
theorem dX12_digits_25 : decode cX12_digits 25 = .ok (.bipush 48, 2) := by decide +kernel
theorem dX12_digits_27 : decode cX12_digits 27 = .ok (.iload_n 1, 1) := by decide +kernel
theorem dX12_digits_28 : decode cX12_digits 28 = .ok (.iload_n 3, 1) := by decide +kernel
theorem dX12_digits_29 : decode cX12_digits 29 = .ok (.idiv, 1) := by decide +kernel
theorem dX12_digits_30 : decode cX12_digits 30 = .ok (.bipush 10, 2) := by decide +kernel
theorem dX12_digits_32 : decode cX12_digits 32 = .ok (.irem, 1) := by decide +kernel
theorem dX12_digits_33 : decode cX12_digits 33 = .ok (.iadd, 1) := by decide +kernel
theorem dX12_digits_34 : decode cX12_digits 34 = .ok (.invokevirtual 232, 3) := by decide +kernel
theorem dX12_digits_37 : decode cX12_digits 37 = .ok (.iload_n 3, 1) := by decide +kernel
theorem dX12_digits_38 : decode cX12_digits 38 = .ok (.bipush 10, 2) := by decide +kernel
theorem dX12_digits_40 : decode cX12_digits 40 = .ok (.idiv, 1) := by decide +kernel
theorem dX12_digits_41 : decode cX12_digits 41 = .ok (.istore_n 3, 1) := by decide +kernel
theorem dX12_digits_42 : decode cX12_digits 42 = .ok (.goto (-22), 3) := by decide +kernel
theorem dX12_digits_45 : decode cX12_digits 45 = .ok (.return_, 1) := by decide +kernel
theorem dX12_format_0 : decode cX12_format 0 = .ok (.aload_n 0, 1) := by decide +kernel
theorem dX12_format_1 : decode cX12_format 1 = .ok (.iconst 0, 1) := by decide +kernel
theorem dX12_format_2 : decode cX12_format 2 = .ok (.putfield 47, 3) := by decide +kernel
theorem dX12_format_5 : decode cX12_format 5 = .ok (.iload_n 1, 1) := by decide +kernel
theorem dX12_format_6 : decode cX12_format 6 = .ok (.invokestatic 54, 3) := by decide +kernel
theorem dX12_format_9 : decode cX12_format 9 = .ok (.ifCond .ne 9, 3) := by decide +kernel
theorem dX12_format_12 : decode cX12_format 12 = .ok (.aload_n 0, 1) := by decide +kernel
theorem dX12_format_13 : decode cX12_format 13 = .ok (.iconst 1, 1) := by decide +kernel
theorem dX12_format_14 : decode cX12_format 14 = .ok (.invokevirtual 174, 3) := by decide +kernel
theorem dX12_format_17 : decode cX12_format 17 = .ok (.ireturn, 1) := by decide +kernel
theorem dX12_format_18 : decode cX12_format 18 = .ok (.aload_n 0, 1) := by decide +kernel
theorem dX12_format_19 : decode cX12_format 19 = .ok (.iconst 0, 1) := by decide +kernel
theorem dX12_format_20 : decode cX12_format 20 = .ok (.putfield 226, 3) := by decide +kernel
theorem dX12_format_23 : decode cX12_format 23 = .ok (.aload_n 0, 1) := by decide +kernel
theorem dX12_format_24 : decode cX12_format 24 = .ok (.iload_n 1, 1) := by decide +kernel
theorem dX12_format_25 : decode cX12_format 25 = .ok (.invokevirtual 235, 3) := by decide +kernel
theorem dX12_format_28 : decode cX12_format 28 = .ok (.aload_n 0, 1) := by decide +kernel
theorem dX12_format_29 : decode cX12_format 29 = .ok (.ldc 238, 2) := by decide +kernel
theorem dX12_format_31 : decode cX12_format 31 = .ok (.invokevirtual 240, 3) := by decide +kernel
theorem dX12_format_34 : decode cX12_format 34 = .ok (.aload_n 0, 1) := by decide +kernel
theorem dX12_format_35 : decode cX12_format 35 = .ok (.aload_n 0, 1) := by decide +kernel
theorem dX12_format_36 : decode cX12_format 36 = .ok (.getfield 7, 3) := by decide +kernel
theorem dX12_format_39 : decode cX12_format 39 = .ok (.bipush 21, 2) := by decide +kernel
theorem dX12_format_41 : decode cX12_format 41 = .ok (.iload_n 1, 1) := by decide +kernel
theorem dX12_format_42 : decode cX12_format 42 = .ok (.iadd, 1) := by decide +kernel
theorem dX12_format_43 : decode cX12_format 43 = .ok (.iaload, 1) := by decide +kernel
theorem dX12_format_44 : decode cX12_format 44 = .ok (.invokevirtual 235, 3) := by decide +kernel
theorem dX12_format_47 : decode cX12_format 47 = .ok (.aload_n 0, 1) := by decide +kernel
theorem dX12_format_48 : decode cX12_format 48 = .ok (.bipush 43, 2) := by decide +kernel
theorem dX12_format_50 : decode cX12_format 50 = .ok (.invokevirtual 232, 3) := by decide +kernel
theorem dX12_format_53 : decode cX12_format 53 = .ok (.aload_n 0, 1) := by decide +kernel
theorem dX12_format_54 : decode cX12_format 54 = .ok (.aload_n 0, 1) := by decide +kernel
theorem dX12_format_55 : decode cX12_format 55 = .ok (.getfield 7, 3) := by decide +kernel
theorem dX12_format_58 : decode cX12_format 58 = .ok (.bipush 23, 2) := by decide +kernel
theorem dX12_format_60 : decode cX12_format 60 = .ok (.iload_n 1, 1) := by decide +kernel
theorem dX12_format_61 : decode cX12_format 61 = .ok (.iadd, 1) := by decide +kernel
theorem dX12_format_62 : decode cX12_format 62 = .ok (.iaload, 1) := by decide +kernel
theorem dX12_format_63 : decode cX12_format 63 = .ok (.invokevirtual 235, 3) := by decide +kernel
theorem dX12_format_66 : decode cX12_format 66 = .ok (.aload_n 0, 1) := by decide +kernel
theorem dX12_format_67 : decode cX12_format 67 = .ok (.getfield 7, 3) := by decide +kernel
theorem dX12_format_70 : decode cX12_format 70 = .ok (.bipush 6, 2) := by decide +kernel
theorem dX12_format_72 : decode cX12_format 72 = .ok (.iaload, 1) := by decide +kernel
theorem dX12_format_73 : decode cX12_format 73 = .ok (.iload_n 1, 1) := by decide +kernel
theorem dX12_format_74 : decode cX12_format 74 = .ok (.if_icmp .ne 23, 3) := by decide +kernel
theorem dX12_format_77 : decode cX12_format 77 = .ok (.aload_n 0, 1) := by decide +kernel
theorem dX12_format_78 : decode cX12_format 78 = .ok (.getfield 7, 3) := by decide +kernel
theorem dX12_format_81 : decode cX12_format 81 = .ok (.bipush 7, 2) := by decide +kernel
theorem dX12_format_83 : decode cX12_format 83 = .ok (.iaload, 1) := by decide +kernel
theorem dX12_format_84 : decode cX12_format 84 = .ok (.iconst 1, 1) := by decide +kernel
theorem dX12_format_85 : decode cX12_format 85 = .ok (.if_icmp .ne 12, 3) := by decide +kernel
theorem dX12_format_88 : decode cX12_format 88 = .ok (.aload_n 0, 1) := by decide +kernel
theorem dX12_format_89 : decode cX12_format 89 = .ok (.ldc 244, 2) := by decide +kernel
theorem dX12_format_91 : decode cX12_format 91 = .ok (.invokevirtual 240, 3) := by decide +kernel
theorem dX12_format_94 : decode cX12_format 94 = .ok (.goto 81, 3) := by decide +kernel
theorem dX12_format_97 : decode cX12_format 97 = .ok (.aload_n 0, 1) := by decide +kernel
theorem dX12_format_98 : decode cX12_format 98 = .ok (.getfield 7, 3) := by decide +kernel
theorem dX12_format_101 : decode cX12_format 101 = .ok (.bipush 6, 2) := by decide +kernel
theorem dX12_format_103 : decode cX12_format 103 = .ok (.iaload, 1) := by decide +kernel
theorem dX12_format_104 : decode cX12_format 104 = .ok (.iload_n 1, 1) := by decide +kernel
theorem dX12_format_105 : decode cX12_format 105 = .ok (.if_icmp .ne 25, 3) := by decide +kernel
theorem dX12_format_108 : decode cX12_format 108 = .ok (.aload_n 0, 1) := by decide +kernel
theorem dX12_format_109 : decode cX12_format 109 = .ok (.ldc 246, 2) := by decide +kernel
theorem dX12_format_111 : decode cX12_format 111 = .ok (.invokevirtual 240, 3) := by decide +kernel
theorem dX12_format_114 : decode cX12_format 114 = .ok (.aload_n 0, 1) := by decide +kernel
theorem dX12_format_115 : decode cX12_format 115 = .ok (.aload_n 0, 1) := by decide +kernel
theorem dX12_format_116 : decode cX12_format 116 = .ok (.getfield 7, 3) := by decide +kernel
theorem dX12_format_119 : decode cX12_format 119 = .ok (.bipush 27, 2) := by decide +kernel
theorem dX12_format_121 : decode cX12_format 121 = .ok (.iload_n 1, 1) := by decide +kernel
theorem dX12_format_122 : decode cX12_format 122 = .ok (.iadd, 1) := by decide +kernel
theorem dX12_format_123 : decode cX12_format 123 = .ok (.iaload, 1) := by decide +kernel
theorem dX12_format_124 : decode cX12_format 124 = .ok (.invokevirtual 235, 3) := by decide +kernel
theorem dX12_format_127 : decode cX12_format 127 = .ok (.goto 48, 3) := by decide +kernel
theorem dX12_format_130 : decode cX12_format 130 = .ok (.aload_n 0, 1) := by decide +kernel
theorem dX12_format_131 : decode cX12_format 131 = .ok (.invokevirtual 158, 3) := by decide +kernel
theorem dX12_format_134 : decode cX12_format 134 = .ok (.ifCond .eq 41, 3) := by decide +kernel
theorem dX12_format_137 : decode cX12_format 137 = .ok (.aload_n 0, 1) := by decide +kernel
theorem dX12_format_138 : decode cX12_format 138 = .ok (.ldc 248, 2) := by decide +kernel
theorem dX12_format_140 : decode cX12_format 140 = .ok (.invokevirtual 240, 3) := by decide +kernel
theorem dX12_format_143 : decode cX12_format 143 = .ok (.iconst 0, 1) := by decide +kernel
theorem dX12_format_144 : decode cX12_format 144 = .ok (.istore_n 2, 1) := by decide +kernel
theorem dX12_format_145 : decode cX12_format 145 = .ok (.iload_n 2, 1) := by decide +kernel
theorem dX12_format_146 : decode cX12_format 146 = .ok (.aload_n 0, 1) := by decide +kernel
theorem dX12_format_147 : decode cX12_format 147 = .ok (.getfield 7, 3) := by decide +kernel
theorem dX12_format_150 : decode cX12_format 150 = .ok (.bipush 11, 2) := by decide +kernel
theorem dX12_format_152 : decode cX12_format 152 = .ok (.iaload, 1) := by decide +kernel
theorem dX12_format_153 : decode cX12_format 153 = .ok (.if_icmp .ge 22, 3) := by decide +kernel
theorem dX12_format_156 : decode cX12_format 156 = .ok (.aload_n 0, 1) := by decide +kernel
theorem dX12_format_157 : decode cX12_format 157 = .ok (.aload_n 0, 1) := by decide +kernel
theorem dX12_format_158 : decode cX12_format 158 = .ok (.getfield 7, 3) := by decide +kernel
theorem dX12_format_161 : decode cX12_format 161 = .ok (.bipush 59, 2) := by decide +kernel
theorem dX12_format_163 : decode cX12_format 163 = .ok (.iload_n 2, 1) := by decide +kernel
theorem dX12_format_164 : decode cX12_format 164 = .ok (.iadd, 1) := by decide +kernel
theorem dX12_format_165 : decode cX12_format 165 = .ok (.iaload, 1) := by decide +kernel
theorem dX12_format_166 : decode cX12_format 166 = .ok (.invokevirtual 232, 3) := by decide +kernel
theorem dX12_format_169 : decode cX12_format 169 = .ok (.iinc 2 1, 3) := by decide +kernel
theorem dX12_format_172 : decode cX12_format 172 = .ok (.goto (-27), 3) := by decide +kernel
theorem dX12_format_175 : decode cX12_format 175 = .ok (.aload_n 0, 1) := by decide +kernel
theorem dX12_format_176 : decode cX12_format 176 = .ok (.getfield 226, 3) := by decide +kernel
theorem dX12_format_179 : decode cX12_format 179 = .ok (.ireturn, 1) := by decide +kernel
theorem dX12_formattedCharacter_0 : decode cX12_formattedCharacter 0 = .ok (.aload_n 0, 1) := by decide +kernel
theorem dX12_formattedCharacter_1 : decode cX12_formattedCharacter 1 = .ok (.iconst 0, 1) := by decide +kernel
theorem dX12_formattedCharacter_2 : decode cX12_formattedCharacter 2 = .ok (.putfield 47, 3) := by decide +kernel
theorem dX12_formattedCharacter_5 : decode cX12_formattedCharacter 5 = .ok (.iload_n 1, 1) := by decide +kernel
theorem dX12_formattedCharacter_6 : decode cX12_formattedCharacter 6 = .ok (.i2l, 1) := by decide +kernel
theorem dX12_formattedCharacter_7 : decode cX12_formattedCharacter 7 = .ok (.lconst 0, 1) := by decide +kernel
theorem dX12_formattedCharacter_8 : decode cX12_formattedCharacter 8 = .ok (.aload_n 0, 1) := by decide +kernel
theorem dX12_formattedCharacter_9 : decode cX12_formattedCharacter 9 = .ok (.getfield 226, 3) := by decide +kernel
theorem dX12_formattedCharacter_12 : decode cX12_formattedCharacter 12 = .ok (.iconst 1, 1) := by decide +kernel
theorem dX12_formattedCharacter_13 : decode cX12_formattedCharacter 13 = .ok (.isub, 1) := by decide +kernel
theorem dX12_formattedCharacter_14 : decode cX12_formattedCharacter 14 = .ok (.i2l, 1) := by decide +kernel
theorem dX12_formattedCharacter_15 : decode cX12_formattedCharacter 15 = .ok (.invokestatic 58, 3) := by decide +kernel
theorem dX12_formattedCharacter_18 : decode cX12_formattedCharacter 18 = .ok (.ifCond .ne 10, 3) := by decide +kernel
theorem dX12_formattedCharacter_21 : decode cX12_formattedCharacter 21 = .ok (.aload_n 0, 1) := by decide +kernel
theorem dX12_formattedCharacter_22 : decode cX12_formattedCharacter 22 = .ok (.iconst 1, 1) := by decide +kernel
theorem dX12_formattedCharacter_23 : decode cX12_formattedCharacter 23 = .ok (.invokevirtual 174, 3) := by decide +kernel
theorem dX12_formattedCharacter_26 : decode cX12_formattedCharacter 26 = .ok (.i2c, 1) := by decide +kernel
theorem dX12_formattedCharacter_27 : decode cX12_formattedCharacter 27 = .ok (.ireturn, 1) := by decide +kernel
theorem dX12_formattedCharacter_28 : decode cX12_formattedCharacter 28 = .ok (.aload_n 0, 1) := by decide +kernel
theorem dX12_formattedCharacter_29 : decode cX12_formattedCharacter 29 = .ok (.getfield 32, 3) := by decide +kernel
theorem dX12_formattedCharacter_32 : decode cX12_formattedCharacter 32 = .ok (.iload_n 1, 1) := by decide +kernel
theorem dX12_formattedCharacter_33 : decode cX12_formattedCharacter 33 = .ok (.iaload, 1) := by decide +kernel
theorem dX12_formattedCharacter_34 : decode cX12_formattedCharacter 34 = .ok (.i2c, 1) := by decide +kernel
theorem dX12_formattedCharacter_35 : decode cX12_formattedCharacter 35 = .ok (.ireturn, 1) := by decide +kernel
theorem dX12_adds_0 : decode cX12_adds 0 = .ok (.bipush 24, 2) := by decide +kernel
theorem dX12_adds_2 : decode cX12_adds 2 = .ok (.istore_n 2, 1) := by decide +kernel
theorem dX12_adds_3 : decode cX12_adds 3 = .ok (.iload_n 2, 1) := by decide +kernel
theorem dX12_adds_4 : decode cX12_adds 4 = .ok (.ifCond .lt 32, 3) := by decide +kernel
theorem dX12_adds_7 : decode cX12_adds 7 = .ok (.aload_n 0, 1) := by decide +kernel
theorem dX12_adds_8 : decode cX12_adds 8 = .ok (.getfield 35, 3) := by decide +kernel
theorem dX12_adds_11 : decode cX12_adds 11 = .ok (.aload_n 0, 1) := by decide +kernel
theorem dX12_adds_12 : decode cX12_adds 12 = .ok (.getfield 250, 3) := by decide +kernel
theorem dX12_adds_15 : decode cX12_adds 15 = .ok (.iload_n 1, 1) := by decide +kernel
theorem dX12_adds_16 : decode cX12_adds 16 = .ok (.iload_n 2, 1) := by decide +kernel
theorem dX12_adds_17 : decode cX12_adds 17 = .ok (.ishr, 1) := by decide +kernel
theorem dX12_adds_18 : decode cX12_adds 18 = .ok (.i2b, 1) := by decide +kernel
theorem dX12_adds_19 : decode cX12_adds 19 = .ok (.bastore, 1) := by decide +kernel
theorem dX12_adds_20 : decode cX12_adds 20 = .ok (.aload_n 0, 1) := by decide +kernel
theorem dX12_adds_21 : decode cX12_adds 21 = .ok (.dup, 1) := by decide +kernel
theorem dX12_adds_22 : decode cX12_adds 22 = .ok (.getfield 250, 3) := by decide +kernel
theorem dX12_adds_25 : decode cX12_adds 25 = .ok (.iconst 1, 1) := by decide +kernel
theorem dX12_adds_26 : decode cX12_adds 26 = .ok (.iadd, 1) := by decide +kernel
theorem dX12_adds_27 : decode cX12_adds 27 = .ok (.putfield 250, 3) := by decide +kernel
theorem dX12_adds_30 : decode cX12_adds 30 = .ok (.iinc 2 (-8), 3) := by decide +kernel
theorem dX12_adds_33 : decode cX12_adds 33 = .ok (.goto (-30), 3) := by decide +kernel
theorem dX12_adds_36 : decode cX12_adds 36 = .ok (.return_, 1) := by decide +kernel
theorem dX12_append_0 : decode cX12_append 0 = .ok (.aload_n 0, 1) := by decide +kernel
theorem dX12_append_1 : decode cX12_append 1 = .ok (.iconst 0, 1) := by decide +kernel
theorem dX12_append_2 : decode cX12_append 2 = .ok (.putfield 47, 3) := by decide +kernel
theorem dX12_append_5 : decode cX12_append 5 = .ok (.aload_n 0, 1) := by decide +kernel
theorem dX12_append_6 : decode cX12_append 6 = .ok (.getfield 250, 3) := by decide +kernel
theorem dX12_append_9 : decode cX12_append 9 = .ok (.bipush 20, 2) := by decide +kernel
theorem dX12_append_11 : decode cX12_append 11 = .ok (.iadd, 1) := by decide +kernel
theorem dX12_append_12 : decode cX12_append 12 = .ok (.sipush 600, 3) := by decide +kernel
theorem dX12_append_15 : decode cX12_append 15 = .ok (.if_icmp .le 9, 3) := by decide +kernel
theorem dX12_append_18 : decode cX12_append 18 = .ok (.aload_n 0, 1) := by decide +kernel
theorem dX12_append_19 : decode cX12_append 19 = .ok (.iconst 1, 1) := by decide +kernel
theorem dX12_append_20 : decode cX12_append 20 = .ok (.invokevirtual 174, 3) := by decide +kernel
theorem dX12_append_23 : decode cX12_append 23 = .ok (.ireturn, 1) := by decide +kernel
theorem dX12_append_24 : decode cX12_append 24 = .ok (.aload_n 0, 1) := by decide +kernel
theorem dX12_append_25 : decode cX12_append 25 = .ok (.iload_n 1, 1) := by decide +kernel
theorem dX12_append_26 : decode cX12_append 26 = .ok (.invokevirtual 253, 3) := by decide +kernel
theorem dX12_append_29 : decode cX12_append 29 = .ok (.aload_n 0, 1) := by decide +kernel
theorem dX12_append_30 : decode cX12_append 30 = .ok (.iload_n 2, 1) := by decide +kernel
theorem dX12_append_31 : decode cX12_append 31 = .ok (.invokevirtual 253, 3) := by decide +kernel
theorem dX12_append_34 : decode cX12_append 34 = .ok (.aload_n 0, 1) := by decide +kernel
theorem dX12_append_35 : decode cX12_append 35 = .ok (.iload_n 3, 1) := by decide +kernel
theorem dX12_append_36 : decode cX12_append 36 = .ok (.invokevirtual 253, 3) := by decide +kernel
theorem dX12_append_39 : decode cX12_append 39 = .ok (.aload_n 0, 1) := by decide +kernel
theorem dX12_append_40 : decode cX12_append 40 = .ok (.iload 4, 2) := by decide +kernel
theorem dX12_append_42 : decode cX12_append 42 = .ok (.invokevirtual 253, 3) := by decide +kernel
theorem dX12_append_45 : decode cX12_append 45 = .ok (.aload_n 0, 1) := by decide +kernel
theorem dX12_append_46 : decode cX12_append 46 = .ok (.iload 5, 2) := by decide +kernel
theorem dX12_append_48 : decode cX12_append 48 = .ok (.invokevirtual 253, 3) := by decide +kernel
theorem dX12_append_51 : decode cX12_append 51 = .ok (.aload_n 0, 1) := by decide +kernel
theorem dX12_append_52 : decode cX12_append 52 = .ok (.getfield 250, 3) := by decide +kernel
theorem dX12_append_55 : decode cX12_append 55 = .ok (.ireturn, 1) := by decide +kernel
theorem dX12_truncate_0 : decode cX12_truncate 0 = .ok (.aload_n 0, 1) := by decide +kernel
theorem dX12_truncate_1 : decode cX12_truncate 1 = .ok (.iconst 0, 1) := by decide +kernel
theorem dX12_truncate_2 : decode cX12_truncate 2 = .ok (.putfield 47, 3) := by decide +kernel
theorem dX12_truncate_5 : decode cX12_truncate 5 = .ok (.iload_n 1, 1) := by decide +kernel
theorem dX12_truncate_6 : decode cX12_truncate 6 = .ok (.i2l, 1) := by decide +kernel
theorem dX12_truncate_7 : decode cX12_truncate 7 = .ok (.lconst 0, 1) := by decide +kernel
theorem dX12_truncate_8 : decode cX12_truncate 8 = .ok (.aload_n 0, 1) := by decide +kernel
theorem dX12_truncate_9 : decode cX12_truncate 9 = .ok (.getfield 250, 3) := by decide +kernel
theorem dX12_truncate_12 : decode cX12_truncate 12 = .ok (.i2l, 1) := by decide +kernel
theorem dX12_truncate_13 : decode cX12_truncate 13 = .ok (.invokestatic 58, 3) := by decide +kernel
theorem dX12_truncate_16 : decode cX12_truncate 16 = .ok (.ifCond .ne 9, 3) := by decide +kernel
theorem dX12_truncate_19 : decode cX12_truncate 19 = .ok (.aload_n 0, 1) := by decide +kernel
theorem dX12_truncate_20 : decode cX12_truncate 20 = .ok (.iconst 1, 1) := by decide +kernel
theorem dX12_truncate_21 : decode cX12_truncate 21 = .ok (.putfield 47, 3) := by decide +kernel
theorem dX12_truncate_24 : decode cX12_truncate 24 = .ok (.return_, 1) := by decide +kernel
theorem dX12_truncate_25 : decode cX12_truncate 25 = .ok (.aload_n 0, 1) := by decide +kernel
theorem dX12_truncate_26 : decode cX12_truncate 26 = .ok (.iload_n 1, 1) := by decide +kernel
theorem dX12_truncate_27 : decode cX12_truncate 27 = .ok (.putfield 250, 3) := by decide +kernel
theorem dX12_truncate_30 : decode cX12_truncate 30 = .ok (.return_, 1) := by decide +kernel
theorem dX12_errorOffset_0 : decode cX12_errorOffset 0 = .ok (.aload_n 0, 1) := by decide +kernel
theorem dX12_errorOffset_1 : decode cX12_errorOffset 1 = .ok (.iconst 0, 1) := by decide +kernel
theorem dX12_errorOffset_2 : decode cX12_errorOffset 2 = .ok (.putfield 47, 3) := by decide +kernel
theorem dX12_errorOffset_5 : decode cX12_errorOffset 5 = .ok (.aload_n 0, 1) := by decide +kernel
theorem dX12_errorOffset_6 : decode cX12_errorOffset 6 = .ok (.getfield 39, 3) := by decide +kernel
theorem dX12_errorOffset_9 : decode cX12_errorOffset 9 = .ok (.ireturn, 1) := by decide +kernel
theorem dX12_isOf_0 : decode cX12_isOf 0 = .ok (.iload_n 1, 1) := by decide +kernel
theorem dX12_isOf_1 : decode cX12_isOf 1 = .ok (.aload_n 0, 1) := by decide +kernel
theorem dX12_isOf_2 : decode cX12_isOf 2 = .ok (.getfield 250, 3) := by decide +kernel
theorem dX12_isOf_5 : decode cX12_isOf 5 = .ok (.if_icmp .ge 24, 3) := by decide +kernel
theorem dX12_isOf_8 : decode cX12_isOf 8 = .ok (.aload_n 0, 1) := by decide +kernel
theorem dX12_isOf_9 : decode cX12_isOf 9 = .ok (.getfield 35, 3) := by decide +kernel
theorem dX12_isOf_12 : decode cX12_isOf 12 = .ok (.iload_n 1, 1) := by decide +kernel
theorem dX12_isOf_13 : decode cX12_isOf 13 = .ok (.baload, 1) := by decide +kernel
theorem dX12_isOf_14 : decode cX12_isOf 14 = .ok (.i2l, 1) := by decide +kernel
theorem dX12_isOf_15 : decode cX12_isOf 15 = .ok (.iload_n 2, 1) := by decide +kernel
theorem dX12_isOf_16 : decode cX12_isOf 16 = .ok (.i2l, 1) := by decide +kernel
theorem dX12_isOf_17 : decode cX12_isOf 17 = .ok (.iload_n 3, 1) := by decide +kernel
theorem dX12_isOf_18 : decode cX12_isOf 18 = .ok (.i2l, 1) := by decide +kernel
theorem dX12_isOf_19 : decode cX12_isOf 19 = .ok (.invokestatic 58, 3) := by decide +kernel
theorem dX12_isOf_22 : decode cX12_isOf 22 = .ok (.ifCond .eq 7, 3) := by decide +kernel
theorem dX12_isOf_25 : decode cX12_isOf 25 = .ok (.iconst 1, 1) := by decide +kernel
theorem dX12_isOf_26 : decode cX12_isOf 26 = .ok (.goto 4, 3) := by decide +kernel
theorem dX12_isOf_29 : decode cX12_isOf 29 = .ok (.iconst 0, 1) := by decide +kernel
theorem dX12_isOf_30 : decode cX12_isOf 30 = .ok (.ireturn, 1) := by decide +kernel
theorem dX12_next_0 : decode cX12_next 0 = .ok (.aload_n 0, 1) := by decide +kernel
theorem dX12_next_1 : decode cX12_next 1 = .ok (.aload_n 0, 1) := by decide +kernel
theorem dX12_next_2 : decode cX12_next 2 = .ok (.getfield 256, 3) := by decide +kernel
theorem dX12_next_5 : decode cX12_next 5 = .ok (.putfield 259, 3) := by decide +kernel
theorem dX12_next_8 : decode cX12_next 8 = .ok (.aload_n 0, 1) := by decide +kernel
theorem dX12_next_9 : decode cX12_next 9 = .ok (.aload_n 0, 1) := by decide +kernel
theorem dX12_next_10 : decode cX12_next 10 = .ok (.getfield 259, 3) := by decide +kernel
theorem dX12_next_13 : decode cX12_next 13 = .ok (.bipush 32, 2) := by decide +kernel
theorem dX12_next_15 : decode cX12_next 15 = .ok (.bipush 32, 2) := by decide +kernel
theorem dX12_next_17 : decode cX12_next 17 = .ok (.invokevirtual 262, 3) := by decide +kernel
theorem dX12_next_20 : decode cX12_next 20 = .ok (.ifCond .ne 18, 3) := by decide +kernel
theorem dX12_next_23 : decode cX12_next 23 = .ok (.aload_n 0, 1) := by decide +kernel
theorem dX12_next_24 : decode cX12_next 24 = .ok (.aload_n 0, 1) := by decide +kernel
theorem dX12_next_25 : decode cX12_next 25 = .ok (.getfield 259, 3) := by decide +kernel
theorem dX12_next_28 : decode cX12_next 28 = .ok (.bipush 10, 2) := by decide +kernel
theorem dX12_next_30 : decode cX12_next 30 = .ok (.bipush 10, 2) := by decide +kernel
theorem dX12_next_32 : decode cX12_next 32 = .ok (.invokevirtual 262, 3) := by decide +kernel
theorem dX12_next_35 : decode cX12_next 35 = .ok (.ifCond .eq 16, 3) := by decide +kernel
theorem dX12_next_38 : decode cX12_next 38 = .ok (.aload_n 0, 1) := by decide +kernel
theorem dX12_next_39 : decode cX12_next 39 = .ok (.dup, 1) := by decide +kernel
theorem dX12_next_40 : decode cX12_next 40 = .ok (.getfield 259, 3) := by decide +kernel
theorem dX12_next_43 : decode cX12_next 43 = .ok (.iconst 1, 1) := by decide +kernel
theorem dX12_next_44 : decode cX12_next 44 = .ok (.iadd, 1) := by decide +kernel
theorem dX12_next_45 : decode cX12_next 45 = .ok (.putfield 259, 3) := by decide +kernel
theorem dX12_next_48 : decode cX12_next 48 = .ok (.goto (-40), 3) := by decide +kernel
theorem dX12_next_51 : decode cX12_next 51 = .ok (.aload_n 0, 1) := by decide +kernel
theorem dX12_next_52 : decode cX12_next 52 = .ok (.aload_n 0, 1) := by decide +kernel
theorem dX12_next_53 : decode cX12_next 53 = .ok (.getfield 259, 3) := by decide +kernel
theorem dX12_next_56 : decode cX12_next 56 = .ok (.iconst 1, 1) := by decide +kernel
theorem dX12_next_57 : decode cX12_next 57 = .ok (.iadd, 1) := by decide +kernel
theorem dX12_next_58 : decode cX12_next 58 = .ok (.putfield 256, 3) := by decide +kernel
theorem dX12_next_61 : decode cX12_next 61 = .ok (.aload_n 0, 1) := by decide +kernel
theorem dX12_next_62 : decode cX12_next 62 = .ok (.aload_n 0, 1) := by decide +kernel
theorem dX12_next_63 : decode cX12_next 63 = .ok (.getfield 259, 3) := by decide +kernel
theorem dX12_next_66 : decode cX12_next 66 = .ok (.aload_n 0, 1) := by decide +kernel
theorem dX12_next_67 : decode cX12_next 67 = .ok (.getfield 250, 3) := by decide +kernel
theorem dX12_next_70 : decode cX12_next 70 = .ok (.if_icmp .lt 7, 3) := by decide +kernel
theorem dX12_next_73 : decode cX12_next 73 = .ok (.iconst 0, 1) := by decide +kernel
theorem dX12_next_74 : decode cX12_next 74 = .ok (.goto 40, 3) := by decide +kernel
theorem dX12_next_77 : decode cX12_next 77 = .ok (.aload_n 0, 1) := by decide +kernel
theorem dX12_next_78 : decode cX12_next 78 = .ok (.getfield 35, 3) := by decide +kernel
theorem dX12_next_81 : decode cX12_next 81 = .ok (.aload_n 0, 1) := by decide +kernel
theorem dX12_next_82 : decode cX12_next 82 = .ok (.getfield 259, 3) := by decide +kernel
theorem dX12_next_85 : decode cX12_next 85 = .ok (.baload, 1) := by decide +kernel
theorem dX12_next_86 : decode cX12_next 86 = .ok (.bipush 59, 2) := by decide +kernel
theorem dX12_next_88 : decode cX12_next 88 = .ok (.if_icmp .ne 7, 3) := by decide +kernel
theorem dX12_next_91 : decode cX12_next 91 = .ok (.iconst 3, 1) := by decide +kernel
theorem dX12_next_92 : decode cX12_next 92 = .ok (.goto 22, 3) := by decide +kernel
theorem dX12_next_95 : decode cX12_next 95 = .ok (.aload_n 0, 1) := by decide +kernel
theorem dX12_next_96 : decode cX12_next 96 = .ok (.getfield 35, 3) := by decide +kernel
theorem dX12_next_99 : decode cX12_next 99 = .ok (.aload_n 0, 1) := by decide +kernel
theorem dX12_next_100 : decode cX12_next 100 = .ok (.getfield 259, 3) := by decide +kernel
theorem dX12_next_103 : decode cX12_next 103 = .ok (.baload, 1) := by decide +kernel
theorem dX12_next_104 : decode cX12_next 104 = .ok (.bipush 47, 2) := by decide +kernel
theorem dX12_next_106 : decode cX12_next 106 = .ok (.if_icmp .ne 7, 3) := by decide +kernel
theorem dX12_next_109 : decode cX12_next 109 = .ok (.iconst 4, 1) := by decide +kernel
theorem dX12_next_110 : decode cX12_next 110 = .ok (.goto 4, 3) := by decide +kernel
theorem dX12_next_113 : decode cX12_next 113 = .ok (.iconst 5, 1) := by decide +kernel
theorem dX12_next_114 : decode cX12_next 114 = .ok (.putfield 266, 3) := by decide +kernel
theorem dX12_next_117 : decode cX12_next 117 = .ok (.aload_n 0, 1) := by decide +kernel
theorem dX12_next_118 : decode cX12_next 118 = .ok (.aload_n 0, 1) := by decide +kernel
theorem dX12_next_119 : decode cX12_next 119 = .ok (.getfield 259, 3) := by decide +kernel
theorem dX12_next_122 : decode cX12_next 122 = .ok (.bipush 97, 2) := by decide +kernel
theorem dX12_next_124 : decode cX12_next 124 = .ok (.bipush 122, 2) := by decide +kernel
theorem dX12_next_126 : decode cX12_next 126 = .ok (.invokevirtual 262, 3) := by decide +kernel
theorem dX12_next_129 : decode cX12_next 129 = .ok (.ifCond .eq 115, 3) := by decide +kernel
theorem dX12_next_132 : decode cX12_next 132 = .ok (.aload_n 0, 1) := by decide +kernel
theorem dX12_next_133 : decode cX12_next 133 = .ok (.lconst 0, 1) := by decide +kernel
theorem dX12_next_134 : decode cX12_next 134 = .ok (.putfield 269, 3) := by decide +kernel
theorem dX12_next_137 : decode cX12_next 137 = .ok (.aload_n 0, 1) := by decide +kernel
theorem dX12_next_138 : decode cX12_next 138 = .ok (.aload_n 0, 1) := by decide +kernel
theorem dX12_next_139 : decode cX12_next 139 = .ok (.getfield 259, 3) := by decide +kernel
theorem dX12_next_142 : decode cX12_next 142 = .ok (.putfield 256, 3) := by decide +kernel
theorem dX12_next_145 : decode cX12_next 145 = .ok (.aload_n 0, 1) := by decide +kernel
theorem dX12_next_146 : decode cX12_next 146 = .ok (.aload_n 0, 1) := by decide +kernel
theorem dX12_next_147 : decode cX12_next 147 = .ok (.getfield 256, 3) := by decide +kernel
theorem dX12_next_150 : decode cX12_next 150 = .ok (.bipush 97, 2) := by decide +kernel
theorem dX12_next_152 : decode cX12_next 152 = .ok (.bipush 122, 2) := by decide +kernel
theorem dX12_next_154 : decode cX12_next 154 = .ok (.invokevirtual 262, 3) := by decide +kernel
theorem dX12_next_157 : decode cX12_next 157 = .ok (.ifCond .eq 61, 3) := by decide +kernel
theorem dX12_next_160 : decode cX12_next 160 = .ok (.aload_n 0, 1) := by decide +kernel
theorem dX12_next_161 : decode cX12_next 161 = .ok (.aload_n 0, 1) := by decide +kernel
theorem dX12_next_162 : decode cX12_next 162 = .ok (.getfield 256, 3) := by decide +kernel
theorem dX12_next_165 : decode cX12_next 165 = .ok (.aload_n 0, 1) := by decide +kernel
theorem dX12_next_166 : decode cX12_next 166 = .ok (.getfield 259, 3) := by decide +kernel
theorem dX12_next_169 : decode cX12_next 169 = .ok (.isub, 1) := by decide +kernel
theorem dX12_next_170 : decode cX12_next 170 = .ok (.bipush 12, 2) := by decide +kernel
theorem dX12_next_172 : decode cX12_next 172 = .ok (.if_icmp .ge 29, 3) := by decide +kernel
theorem dX12_next_175 : decode cX12_next 175 = .ok (.ldc2_w 273, 3) := by decide +kernel
theorem dX12_next_178 : decode cX12_next 178 = .ok (.aload_n 0, 1) := by decide +kernel
theorem dX12_next_179 : decode cX12_next 179 = .ok (.getfield 269, 3) := by decide +kernel
theorem dX12_next_182 : decode cX12_next 182 = .ok (.lmul, 1) := by decide +kernel
theorem dX12_next_183 : decode cX12_next 183 = .ok (.aload_n 0, 1) := by decide +kernel
theorem dX12_next_184 : decode cX12_next 184 = .ok (.getfield 35, 3) := by decide +kernel
theorem dX12_next_187 : decode cX12_next 187 = .ok (.aload_n 0, 1) := by decide +kernel
theorem dX12_next_188 : decode cX12_next 188 = .ok (.getfield 256, 3) := by decide +kernel
theorem dX12_next_191 : decode cX12_next 191 = .ok (.baload, 1) := by decide +kernel
theorem dX12_next_192 : decode cX12_next 192 = .ok (.i2l, 1) := by decide +kernel
theorem dX12_next_193 : decode cX12_next 193 = .ok (.ladd, 1) := by decide +kernel
theorem dX12_next_194 : decode cX12_next 194 = .ok (.ldc2_w 275, 3) := by decide +kernel
theorem dX12_next_197 : decode cX12_next 197 = .ok (.lsub, 1) := by decide +kernel
theorem dX12_next_198 : decode cX12_next 198 = .ok (.goto 4, 3) := by decide +kernel
theorem dX12_next_201 : decode cX12_next 201 = .ok (.lconst 0, 1) := by decide +kernel
theorem dX12_next_202 : decode cX12_next 202 = .ok (.putfield 269, 3) := by decide +kernel
theorem dX12_next_205 : decode cX12_next 205 = .ok (.aload_n 0, 1) := by decide +kernel
theorem dX12_next_206 : decode cX12_next 206 = .ok (.dup, 1) := by decide +kernel
theorem dX12_next_207 : decode cX12_next 207 = .ok (.getfield 256, 3) := by decide +kernel
theorem dX12_next_210 : decode cX12_next 210 = .ok (.iconst 1, 1) := by decide +kernel
theorem dX12_next_211 : decode cX12_next 211 = .ok (.iadd, 1) := by decide +kernel
theorem dX12_next_212 : decode cX12_next 212 = .ok (.putfield 256, 3) := by decide +kernel
theorem dX12_next_215 : decode cX12_next 215 = .ok (.goto (-70), 3) := by decide +kernel
theorem dX12_next_218 : decode cX12_next 218 = .ok (.aload_n 0, 1) := by decide +kernel
theorem dX12_next_219 : decode cX12_next 219 = .ok (.aload_n 0, 1) := by decide +kernel
theorem dX12_next_220 : decode cX12_next 220 = .ok (.getfield 256, 3) := by decide +kernel
theorem dX12_next_223 : decode cX12_next 223 = .ok (.aload_n 0, 1) := by decide +kernel
theorem dX12_next_224 : decode cX12_next 224 = .ok (.getfield 259, 3) := by decide +kernel
theorem dX12_next_227 : decode cX12_next 227 = .ok (.isub, 1) := by decide +kernel
theorem dX12_next_228 : decode cX12_next 228 = .ok (.bipush 12, 2) := by decide +kernel
theorem dX12_next_230 : decode cX12_next 230 = .ok (.if_icmp .le 7, 3) := by decide +kernel
theorem dX12_next_233 : decode cX12_next 233 = .ok (.iconst 5, 1) := by decide +kernel
theorem dX12_next_234 : decode cX12_next 234 = .ok (.goto 4, 3) := by decide +kernel
theorem dX12_next_237 : decode cX12_next 237 = .ok (.iconst 1, 1) := by decide +kernel
theorem dX12_next_238 : decode cX12_next 238 = .ok (.putfield 266, 3) := by decide +kernel
theorem dX12_next_241 : decode cX12_next 241 = .ok (.goto 125, 3) := by decide +kernel
theorem dX12_next_244 : decode cX12_next 244 = .ok (.aload_n 0, 1) := by decide +kernel
theorem dX12_next_245 : decode cX12_next 245 = .ok (.aload_n 0, 1) := by decide +kernel
theorem dX12_next_246 : decode cX12_next 246 = .ok (.getfield 259, 3) := by decide +kernel
theorem dX12_next_249 : decode cX12_next 249 = .ok (.bipush 48, 2) := by decide +kernel
theorem dX12_next_251 : decode cX12_next 251 = .ok (.bipush 57, 2) := by decide +kernel
theorem dX12_next_253 : decode cX12_next 253 = .ok (.invokevirtual 262, 3) := by decide +kernel
theorem dX12_next_256 : decode cX12_next 256 = .ok (.ifCond .eq 110, 3) := by decide +kernel
theorem dX12_next_259 : decode cX12_next 259 = .ok (.aload_n 0, 1) := by decide +kernel
theorem dX12_next_260 : decode cX12_next 260 = .ok (.iconst 0, 1) := by decide +kernel
theorem dX12_next_261 : decode cX12_next 261 = .ok (.putfield 277, 3) := by decide +kernel
theorem dX12_next_264 : decode cX12_next 264 = .ok (.aload_n 0, 1) := by decide +kernel
theorem dX12_next_265 : decode cX12_next 265 = .ok (.aload_n 0, 1) := by decide +kernel
theorem dX12_next_266 : decode cX12_next 266 = .ok (.getfield 259, 3) := by decide +kernel
theorem dX12_next_269 : decode cX12_next 269 = .ok (.putfield 256, 3) := by decide +kernel
theorem dX12_next_272 : decode cX12_next 272 = .ok (.aload_n 0, 1) := by decide +kernel
theorem dX12_next_273 : decode cX12_next 273 = .ok (.aload_n 0, 1) := by decide +kernel
theorem dX12_next_274 : decode cX12_next 274 = .ok (.getfield 256, 3) := by decide +kernel
theorem dX12_next_277 : decode cX12_next 277 = .ok (.bipush 48, 2) := by decide +kernel
theorem dX12_next_279 : decode cX12_next 279 = .ok (.bipush 57, 2) := by decide +kernel
theorem dX12_next_281 : decode cX12_next 281 = .ok (.invokevirtual 262, 3) := by decide +kernel
theorem dX12_next_284 : decode cX12_next 284 = .ok (.ifCond .eq 60, 3) := by decide +kernel
theorem dX12_next_287 : decode cX12_next 287 = .ok (.aload_n 0, 1) := by decide +kernel
theorem dX12_next_288 : decode cX12_next 288 = .ok (.aload_n 0, 1) := by decide +kernel
theorem dX12_next_289 : decode cX12_next 289 = .ok (.getfield 256, 3) := by decide +kernel
theorem dX12_next_292 : decode cX12_next 292 = .ok (.aload_n 0, 1) := by decide +kernel
theorem dX12_next_293 : decode cX12_next 293 = .ok (.getfield 259, 3) := by decide +kernel
theorem dX12_next_296 : decode cX12_next 296 = .ok (.isub, 1) := by decide +kernel
theorem dX12_next_297 : decode cX12_next 297 = .ok (.iconst 5, 1) := by decide +kernel
theorem dX12_next_298 : decode cX12_next 298 = .ok (.if_icmp .ge 26, 3) := by decide +kernel
theorem dX12_next_301 : decode cX12_next 301 = .ok (.bipush 10, 2) := by decide +kernel
theorem dX12_next_303 : decode cX12_next 303 = .ok (.aload_n 0, 1) := by decide +kernel
theorem dX12_next_304 : decode cX12_next 304 = .ok (.getfield 277, 3) := by decide +kernel
theorem dX12_next_307 : decode cX12_next 307 = .ok (.imul, 1) := by decide +kernel
theorem dX12_next_308 : decode cX12_next 308 = .ok (.aload_n 0, 1) := by decide +kernel
theorem dX12_next_309 : decode cX12_next 309 = .ok (.getfield 35, 3) := by decide +kernel
theorem dX12_next_312 : decode cX12_next 312 = .ok (.aload_n 0, 1) := by decide +kernel
theorem dX12_next_313 : decode cX12_next 313 = .ok (.getfield 256, 3) := by decide +kernel
theorem dX12_next_316 : decode cX12_next 316 = .ok (.baload, 1) := by decide +kernel
theorem dX12_next_317 : decode cX12_next 317 = .ok (.iadd, 1) := by decide +kernel
theorem dX12_next_318 : decode cX12_next 318 = .ok (.bipush 48, 2) := by decide +kernel
theorem dX12_next_320 : decode cX12_next 320 = .ok (.isub, 1) := by decide +kernel
theorem dX12_next_321 : decode cX12_next 321 = .ok (.goto 7, 3) := by decide +kernel
theorem dX12_next_324 : decode cX12_next 324 = .ok (.aload_n 0, 1) := by decide +kernel
theorem dX12_next_325 : decode cX12_next 325 = .ok (.getfield 277, 3) := by decide +kernel
theorem dX12_next_328 : decode cX12_next 328 = .ok (.putfield 277, 3) := by decide +kernel
theorem dX12_next_331 : decode cX12_next 331 = .ok (.aload_n 0, 1) := by decide +kernel
theorem dX12_next_332 : decode cX12_next 332 = .ok (.dup, 1) := by decide +kernel
theorem dX12_next_333 : decode cX12_next 333 = .ok (.getfield 256, 3) := by decide +kernel
theorem dX12_next_336 : decode cX12_next 336 = .ok (.iconst 1, 1) := by decide +kernel
theorem dX12_next_337 : decode cX12_next 337 = .ok (.iadd, 1) := by decide +kernel
theorem dX12_next_338 : decode cX12_next 338 = .ok (.putfield 256, 3) := by decide +kernel
theorem dX12_next_341 : decode cX12_next 341 = .ok (.goto (-69), 3) := by decide +kernel
theorem dX12_next_344 : decode cX12_next 344 = .ok (.aload_n 0, 1) := by decide +kernel
theorem dX12_next_345 : decode cX12_next 345 = .ok (.aload_n 0, 1) := by decide +kernel
theorem dX12_next_346 : decode cX12_next 346 = .ok (.getfield 256, 3) := by decide +kernel
theorem dX12_next_349 : decode cX12_next 349 = .ok (.aload_n 0, 1) := by decide +kernel
theorem dX12_next_350 : decode cX12_next 350 = .ok (.getfield 259, 3) := by decide +kernel
theorem dX12_next_353 : decode cX12_next 353 = .ok (.isub, 1) := by decide +kernel
theorem dX12_next_354 : decode cX12_next 354 = .ok (.iconst 5, 1) := by decide +kernel
theorem dX12_next_355 : decode cX12_next 355 = .ok (.if_icmp .le 7, 3) := by decide +kernel
theorem dX12_next_358 : decode cX12_next 358 = .ok (.iconst 5, 1) := by decide +kernel
theorem dX12_next_359 : decode cX12_next 359 = .ok (.goto 4, 3) := by decide +kernel
theorem dX12_next_362 : decode cX12_next 362 = .ok (.iconst 2, 1) := by decide +kernel
theorem dX12_next_363 : decode cX12_next 363 = .ok (.putfield 266, 3) := by decide +kernel
theorem dX12_next_366 : decode cX12_next 366 = .ok (.return_, 1) := by decide +kernel
theorem dX12_must_0 : decode cX12_must 0 = .ok (.iload_n 1, 1) := by decide +kernel
theorem dX12_must_1 : decode cX12_must 1 = .ok (.ifCond .ne 10, 3) := by decide +kernel
theorem dX12_must_4 : decode cX12_must 4 = .ok (.aload_n 0, 1) := by decide +kernel
theorem dX12_must_5 : decode cX12_must 5 = .ok (.getfield 280, 3) := by decide +kernel
theorem dX12_must_8 : decode cX12_must 8 = .ok (.ifCond .eq 4, 3) := by decide +kernel
theorem dX12_must_11 : decode cX12_must 11 = .ok (.return_, 1) := by decide +kernel
theorem dX12_must_12 : decode cX12_must 12 = .ok (.aload_n 0, 1) := by decide +kernel
theorem dX12_must_13 : decode cX12_must 13 = .ok (.iconst 1, 1) := by decide +kernel
theorem dX12_must_14 : decode cX12_must 14 = .ok (.putfield 280, 3) := by decide +kernel
theorem dX12_must_17 : decode cX12_must 17 = .ok (.aload_n 0, 1) := by decide +kernel
theorem dX12_must_18 : decode cX12_must 18 = .ok (.aload_n 0, 1) := by decide +kernel
theorem dX12_must_19 : decode cX12_must 19 = .ok (.getfield 259, 3) := by decide +kernel
theorem dX12_must_22 : decode cX12_must 22 = .ok (.putfield 39, 3) := by decide +kernel
theorem dX12_must_25 : decode cX12_must 25 = .ok (.return_, 1) := by decide +kernel
theorem dX12_goesOver_0 : decode cX12_goesOver 0 = .ok (.aload_n 0, 1) := by decide +kernel
theorem dX12_goesOver_1 : decode cX12_goesOver 1 = .ok (.getfield 280, 3) := by decide +kernel
theorem dX12_goesOver_4 : decode cX12_goesOver 4 = .ok (.ifCond .ne 7, 3) := by decide +kernel
theorem dX12_goesOver_7 : decode cX12_goesOver 7 = .ok (.aload_n 0, 1) := by decide +kernel
theorem dX12_goesOver_8 : decode cX12_goesOver 8 = .ok (.invokevirtual 284, 3) := by decide +kernel
theorem dX12_goesOver_11 : decode cX12_goesOver 11 = .ok (.return_, 1) := by decide +kernel
theorem dX12_isWord_0 : decode cX12_isWord 0 = .ok (.aload_n 0, 1) := by decide +kernel
theorem dX12_isWord_1 : decode cX12_isWord 1 = .ok (.getfield 280, 3) := by decide +kernel
theorem dX12_isWord_4 : decode cX12_isWord 4 = .ok (.ifCond .ne 24, 3) := by decide +kernel
theorem dX12_isWord_7 : decode cX12_isWord 7 = .ok (.aload_n 0, 1) := by decide +kernel
theorem dX12_isWord_8 : decode cX12_isWord 8 = .ok (.getfield 266, 3) := by decide +kernel
theorem dX12_isWord_11 : decode cX12_isWord 11 = .ok (.iconst 1, 1) := by decide +kernel
theorem dX12_isWord_12 : decode cX12_isWord 12 = .ok (.if_icmp .ne 16, 3) := by decide +kernel
theorem dX12_isWord_15 : decode cX12_isWord 15 = .ok (.aload_n 0, 1) := by decide +kernel
theorem dX12_isWord_16 : decode cX12_isWord 16 = .ok (.getfield 269, 3) := by decide +kernel
theorem dX12_isWord_19 : decode cX12_isWord 19 = .ok (.lload_n 1, 1) := by decide +kernel
theorem dX12_isWord_20 : decode cX12_isWord 20 = .ok (.lcmp, 1) := by decide +kernel
theorem dX12_isWord_21 : decode cX12_isWord 21 = .ok (.ifCond .ne 7, 3) := by decide +kernel
theorem dX12_isWord_24 : decode cX12_isWord 24 = .ok (.iconst 1, 1) := by decide +kernel
theorem dX12_isWord_25 : decode cX12_isWord 25 = .ok (.goto 4, 3) := by decide +kernel
theorem dX12_isWord_28 : decode cX12_isWord 28 = .ok (.iconst 0, 1) := by decide +kernel
theorem dX12_isWord_29 : decode cX12_isWord 29 = .ok (.ireturn, 1) := by decide +kernel
theorem dX12_takes_0 : decode cX12_takes 0 = .ok (.aload_n 0, 1) := by decide +kernel
theorem dX12_takes_1 : decode cX12_takes 1 = .ok (.aload_n 0, 1) := by decide +kernel
theorem dX12_takes_2 : decode cX12_takes 2 = .ok (.getfield 266, 3) := by decide +kernel
theorem dX12_takes_5 : decode cX12_takes 5 = .ok (.iconst 2, 1) := by decide +kernel
theorem dX12_takes_6 : decode cX12_takes 6 = .ok (.if_icmp .ne 22, 3) := by decide +kernel
theorem dX12_takes_9 : decode cX12_takes 9 = .ok (.aload_n 0, 1) := by decide +kernel
theorem dX12_takes_10 : decode cX12_takes 10 = .ok (.getfield 277, 3) := by decide +kernel
theorem dX12_takes_13 : decode cX12_takes 13 = .ok (.i2l, 1) := by decide +kernel
theorem dX12_takes_14 : decode cX12_takes 14 = .ok (.iload_n 1, 1) := by decide +kernel
theorem dX12_takes_15 : decode cX12_takes 15 = .ok (.i2l, 1) := by decide +kernel
theorem dX12_takes_16 : decode cX12_takes 16 = .ok (.iload_n 2, 1) := by decide +kernel
theorem dX12_takes_17 : decode cX12_takes 17 = .ok (.i2l, 1) := by decide +kernel
theorem dX12_takes_18 : decode cX12_takes 18 = .ok (.invokestatic 58, 3) := by decide +kernel
theorem dX12_takes_21 : decode cX12_takes 21 = .ok (.ifCond .eq 7, 3) := by decide +kernel
theorem dX12_takes_24 : decode cX12_takes 24 = .ok (.iconst 1, 1) := by decide +kernel
theorem dX12_takes_25 : decode cX12_takes 25 = .ok (.goto 4, 3) := by decide +kernel
theorem dX12_takes_28 : decode cX12_takes 28 = .ok (.iconst 0, 1) := by decide +kernel
theorem dX12_takes_29 : decode cX12_takes 29 = .ok (.invokevirtual 287, 3) := by decide +kernel
theorem dX12_takes_32 : decode cX12_takes 32 = .ok (.aload_n 0, 1) := by decide +kernel
theorem dX12_takes_33 : decode cX12_takes 33 = .ok (.getfield 280, 3) := by decide +kernel
theorem dX12_takes_36 : decode cX12_takes 36 = .ok (.ifCond .eq 7, 3) := by decide +kernel
theorem dX12_takes_39 : decode cX12_takes 39 = .ok (.iload_n 1, 1) := by decide +kernel
theorem dX12_takes_40 : decode cX12_takes 40 = .ok (.goto 7, 3) := by decide +kernel
theorem dX12_takes_43 : decode cX12_takes 43 = .ok (.aload_n 0, 1) := by decide +kernel
theorem dX12_takes_44 : decode cX12_takes 44 = .ok (.getfield 277, 3) := by decide +kernel
theorem dX12_takes_47 : decode cX12_takes 47 = .ok (.istore_n 3, 1) := by decide +kernel
theorem dX12_takes_48 : decode cX12_takes 48 = .ok (.aload_n 0, 1) := by decide +kernel
theorem dX12_takes_49 : decode cX12_takes 49 = .ok (.invokevirtual 290, 3) := by decide +kernel
theorem dX12_takes_52 : decode cX12_takes 52 = .ok (.iload_n 3, 1) := by decide +kernel
theorem dX12_takes_53 : decode cX12_takes 53 = .ok (.ireturn, 1) := by decide +kernel
theorem dX12_wheelLine_0 : decode cX12_wheelLine 0 = .ok (.aload_n 0, 1) := by decide +kernel
theorem dX12_wheelLine_1 : decode cX12_wheelLine 1 = .ok (.aload_n 0, 1) := by decide +kernel
theorem dX12_wheelLine_2 : decode cX12_wheelLine 2 = .ok (.getfield 293, 3) := by decide +kernel
theorem dX12_wheelLine_5 : decode cX12_wheelLine 5 = .ok (.invokevirtual 287, 3) := by decide +kernel
theorem dX12_wheelLine_8 : decode cX12_wheelLine 8 = .ok (.aload_n 0, 1) := by decide +kernel
theorem dX12_wheelLine_9 : decode cX12_wheelLine 9 = .ok (.invokevirtual 290, 3) := by decide +kernel
theorem dX12_wheelLine_12 : decode cX12_wheelLine 12 = .ok (.aload_n 0, 1) := by decide +kernel
theorem dX12_wheelLine_13 : decode cX12_wheelLine 13 = .ok (.getfield 13, 3) := by decide +kernel
theorem dX12_wheelLine_16 : decode cX12_wheelLine 16 = .ok (.iconst 0, 1) := by decide +kernel
theorem dX12_wheelLine_17 : decode cX12_wheelLine 17 = .ok (.aload_n 0, 1) := by decide +kernel
theorem dX12_wheelLine_18 : decode cX12_wheelLine 18 = .ok (.bipush 6, 2) := by decide +kernel
theorem dX12_wheelLine_20 : decode cX12_wheelLine 20 = .ok (.bipush 28, 2) := by decide +kernel
theorem dX12_wheelLine_22 : decode cX12_wheelLine 22 = .ok (.invokevirtual 296, 3) := by decide +kernel
theorem dX12_wheelLine_25 : decode cX12_wheelLine 25 = .ok (.iastore, 1) := by decide +kernel
theorem dX12_wheelLine_26 : decode cX12_wheelLine 26 = .ok (.return_, 1) := by decide +kernel
theorem dX12_officeLine_0 : decode cX12_officeLine 0 = .ok (.aload_n 0, 1) := by decide +kernel
theorem dX12_officeLine_1 : decode cX12_officeLine 1 = .ok (.aload_n 0, 1) := by decide +kernel
theorem dX12_officeLine_2 : decode cX12_officeLine 2 = .ok (.getfield 299, 3) := by decide +kernel
theorem dX12_officeLine_5 : decode cX12_officeLine 5 = .ok (.iconst 2, 1) := by decide +kernel
theorem dX12_officeLine_6 : decode cX12_officeLine 6 = .ok (.if_icmp .ge 7, 3) := by decide +kernel
theorem dX12_officeLine_9 : decode cX12_officeLine 9 = .ok (.iconst 1, 1) := by decide +kernel
theorem dX12_officeLine_10 : decode cX12_officeLine 10 = .ok (.goto 4, 3) := by decide +kernel
theorem dX12_officeLine_13 : decode cX12_officeLine 13 = .ok (.iconst 0, 1) := by decide +kernel
theorem dX12_officeLine_14 : decode cX12_officeLine 14 = .ok (.invokevirtual 287, 3) := by decide +kernel
theorem dX12_officeLine_17 : decode cX12_officeLine 17 = .ok (.aload_n 0, 1) := by decide +kernel
theorem dX12_officeLine_18 : decode cX12_officeLine 18 = .ok (.invokevirtual 290, 3) := by decide +kernel
theorem dX12_officeLine_21 : decode cX12_officeLine 21 = .ok (.aload_n 0, 1) := by decide +kernel
theorem dX12_officeLine_22 : decode cX12_officeLine 22 = .ok (.iconst 0, 1) := by decide +kernel
theorem dX12_officeLine_23 : decode cX12_officeLine 23 = .ok (.sipush 1000, 3) := by decide +kernel
theorem dX12_officeLine_26 : decode cX12_officeLine 26 = .ok (.aload_n 0, 1) := by decide +kernel
theorem dX12_officeLine_27 : decode cX12_officeLine 27 = .ok (.getfield 13, 3) := by decide +kernel
theorem dX12_officeLine_30 : decode cX12_officeLine 30 = .ok (.iconst 0, 1) := by decide +kernel
theorem dX12_officeLine_31 : decode cX12_officeLine 31 = .ok (.iaload, 1) := by decide +kernel
theorem dX12_officeLine_32 : decode cX12_officeLine 32 = .ok (.imul, 1) := by decide +kernel
theorem dX12_officeLine_33 : decode cX12_officeLine 33 = .ok (.iconst 1, 1) := by decide +kernel
theorem dX12_officeLine_34 : decode cX12_officeLine 34 = .ok (.isub, 1) := by decide +kernel
theorem dX12_officeLine_35 : decode cX12_officeLine 35 = .ok (.invokevirtual 296, 3) := by decide +kernel
theorem dX12_officeLine_38 : decode cX12_officeLine 38 = .ok (.istore_n 1, 1) := by decide +kernel
theorem dX12_officeLine_39 : decode cX12_officeLine 39 = .ok (.aload_n 0, 1) := by decide +kernel
theorem dX12_officeLine_40 : decode cX12_officeLine 40 = .ok (.bipush 10, 2) := by decide +kernel
theorem dX12_officeLine_42 : decode cX12_officeLine 42 = .ok (.sipush 999, 3) := by decide +kernel
theorem dX12_officeLine_45 : decode cX12_officeLine 45 = .ok (.invokevirtual 296, 3) := by decide +kernel
theorem dX12_officeLine_48 : decode cX12_officeLine 48 = .ok (.istore_n 2, 1) := by decide +kernel
theorem dX12_officeLine_49 : decode cX12_officeLine 49 = .ok (.aload_n 0, 1) := by decide +kernel
theorem dX12_officeLine_50 : decode cX12_officeLine 50 = .ok (.getfield 280, 3) := by decide +kernel
theorem dX12_officeLine_53 : decode cX12_officeLine 53 = .ok (.ifCond .eq 4, 3) := by decide +kernel
theorem dX12_officeLine_56 : decode cX12_officeLine 56 = .ok (.return_, 1) := by decide +kernel
theorem dX12_officeLine_57 : decode cX12_officeLine 57 = .ok (.aload_n 0, 1) := by decide +kernel
theorem dX12_officeLine_58 : decode cX12_officeLine 58 = .ok (.getfield 13, 3) := by decide +kernel
theorem dX12_officeLine_61 : decode cX12_officeLine 61 = .ok (.bipush 21, 2) := by decide +kernel
theorem dX12_officeLine_63 : decode cX12_officeLine 63 = .ok (.aload_n 0, 1) := by decide +kernel
theorem dX12_officeLine_64 : decode cX12_officeLine 64 = .ok (.getfield 299, 3) := by decide +kernel
theorem dX12_officeLine_67 : decode cX12_officeLine 67 = .ok (.iadd, 1) := by decide +kernel
theorem dX12_officeLine_68 : decode cX12_officeLine 68 = .ok (.iload_n 1, 1) := by decide +kernel
theorem dX12_officeLine_69 : decode cX12_officeLine 69 = .ok (.iastore, 1) := by decide +kernel
theorem dX12_officeLine_70 : decode cX12_officeLine 70 = .ok (.aload_n 0, 1) := by decide +kernel
theorem dX12_officeLine_71 : decode cX12_officeLine 71 = .ok (.getfield 13, 3) := by decide +kernel
theorem dX12_officeLine_74 : decode cX12_officeLine 74 = .ok (.bipush 23, 2) := by decide +kernel
theorem dX12_officeLine_76 : decode cX12_officeLine 76 = .ok (.aload_n 0, 1) := by decide +kernel
theorem dX12_officeLine_77 : decode cX12_officeLine 77 = .ok (.getfield 299, 3) := by decide +kernel
theorem dX12_officeLine_80 : decode cX12_officeLine 80 = .ok (.iadd, 1) := by decide +kernel
theorem dX12_officeLine_81 : decode cX12_officeLine 81 = .ok (.iload_n 2, 1) := by decide +kernel
theorem dX12_officeLine_82 : decode cX12_officeLine 82 = .ok (.iastore, 1) := by decide +kernel
theorem dX12_officeLine_83 : decode cX12_officeLine 83 = .ok (.aload_n 0, 1) := by decide +kernel
theorem dX12_officeLine_84 : decode cX12_officeLine 84 = .ok (.dup, 1) := by decide +kernel
theorem dX12_officeLine_85 : decode cX12_officeLine 85 = .ok (.getfield 299, 3) := by decide +kernel
theorem dX12_officeLine_88 : decode cX12_officeLine 88 = .ok (.iconst 1, 1) := by decide +kernel
theorem dX12_officeLine_89 : decode cX12_officeLine 89 = .ok (.iadd, 1) := by decide +kernel
theorem dX12_officeLine_90 : decode cX12_officeLine 90 = .ok (.putfield 299, 3) := by decide +kernel
theorem dX12_officeLine_93 : decode cX12_officeLine 93 = .ok (.return_, 1) := by decide +kernel
theorem dX12_setting_0 : decode cX12_setting 0 = .ok (.aload_n 0, 1) := by decide +kernel
theorem dX12_setting_1 : decode cX12_setting 1 = .ok (.invokevirtual 290, 3) := by decide +kernel
theorem dX12_setting_4 : decode cX12_setting 4 = .ok (.aload_n 0, 1) := by decide +kernel
theorem dX12_setting_5 : decode cX12_setting 5 = .ok (.getfield 13, 3) := by decide +kernel
theorem dX12_setting_8 : decode cX12_setting 8 = .ok (.iload_n 1, 1) := by decide +kernel
theorem dX12_setting_9 : decode cX12_setting 9 = .ok (.aload_n 0, 1) := by decide +kernel
theorem dX12_setting_10 : decode cX12_setting 10 = .ok (.iload_n 2, 1) := by decide +kernel
theorem dX12_setting_11 : decode cX12_setting 11 = .ok (.iload_n 3, 1) := by decide +kernel
theorem dX12_setting_12 : decode cX12_setting 12 = .ok (.invokevirtual 296, 3) := by decide +kernel
theorem dX12_setting_15 : decode cX12_setting 15 = .ok (.iastore, 1) := by decide +kernel
theorem dX12_setting_16 : decode cX12_setting 16 = .ok (.return_, 1) := by decide +kernel
theorem dX12_loseLine_0 : decode cX12_loseLine 0 = .ok (.aload_n 0, 1) := by decide +kernel
theorem dX12_loseLine_1 : decode cX12_loseLine 1 = .ok (.aload_n 0, 1) := by decide +kernel
theorem dX12_loseLine_2 : decode cX12_loseLine 2 = .ok (.getfield 13, 3) := by decide +kernel
theorem dX12_loseLine_5 : decode cX12_loseLine 5 = .ok (.bipush 20, 2) := by decide +kernel
theorem dX12_loseLine_7 : decode cX12_loseLine 7 = .ok (.iaload, 1) := by decide +kernel
theorem dX12_loseLine_8 : decode cX12_loseLine 8 = .ok (.bipush 20, 2) := by decide +kernel
theorem dX12_loseLine_10 : decode cX12_loseLine 10 = .ok (.if_icmp .ge 7, 3) := by decide +kernel
theorem dX12_loseLine_13 : decode cX12_loseLine 13 = .ok (.iconst 1, 1) := by decide +kernel
theorem dX12_loseLine_14 : decode cX12_loseLine 14 = .ok (.goto 4, 3) := by decide +kernel
theorem dX12_loseLine_17 : decode cX12_loseLine 17 = .ok (.iconst 0, 1) := by decide +kernel
theorem dX12_loseLine_18 : decode cX12_loseLine 18 = .ok (.invokevirtual 287, 3) := by decide +kernel
theorem dX12_loseLine_21 : decode cX12_loseLine 21 = .ok (.aload_n 0, 1) := by decide +kernel
theorem dX12_loseLine_22 : decode cX12_loseLine 22 = .ok (.invokevirtual 290, 3) := by decide +kernel
theorem dX12_loseLine_25 : decode cX12_loseLine 25 = .ok (.aload_n 0, 1) := by decide +kernel
theorem dX12_loseLine_26 : decode cX12_loseLine 26 = .ok (.iconst 1, 1) := by decide +kernel
theorem dX12_loseLine_27 : decode cX12_loseLine 27 = .ok (.sipush 9999, 3) := by decide +kernel
theorem dX12_loseLine_30 : decode cX12_loseLine 30 = .ok (.invokevirtual 296, 3) := by decide +kernel
theorem dX12_loseLine_33 : decode cX12_loseLine 33 = .ok (.istore_n 1, 1) := by decide +kernel
theorem dX12_loseLine_34 : decode cX12_loseLine 34 = .ok (.aload_n 0, 1) := by decide +kernel
theorem dX12_loseLine_35 : decode cX12_loseLine 35 = .ok (.getfield 280, 3) := by decide +kernel
theorem dX12_loseLine_38 : decode cX12_loseLine 38 = .ok (.ifCond .eq 4, 3) := by decide +kernel
theorem dX12_loseLine_41 : decode cX12_loseLine 41 = .ok (.return_, 1) := by decide +kernel
theorem dX12_loseLine_42 : decode cX12_loseLine 42 = .ok (.aload_n 0, 1) := by decide +kernel
theorem dX12_loseLine_43 : decode cX12_loseLine 43 = .ok (.getfield 13, 3) := by decide +kernel
theorem dX12_loseLine_46 : decode cX12_loseLine 46 = .ok (.bipush 39, 2) := by decide +kernel
theorem dX12_loseLine_48 : decode cX12_loseLine 48 = .ok (.aload_n 0, 1) := by decide +kernel
theorem dX12_loseLine_49 : decode cX12_loseLine 49 = .ok (.getfield 13, 3) := by decide +kernel
theorem dX12_loseLine_52 : decode cX12_loseLine 52 = .ok (.bipush 20, 2) := by decide +kernel
theorem dX12_loseLine_54 : decode cX12_loseLine 54 = .ok (.iaload, 1) := by decide +kernel
theorem dX12_loseLine_55 : decode cX12_loseLine 55 = .ok (.iadd, 1) := by decide +kernel
theorem dX12_loseLine_56 : decode cX12_loseLine 56 = .ok (.iload_n 1, 1) := by decide +kernel
theorem dX12_loseLine_57 : decode cX12_loseLine 57 = .ok (.iastore, 1) := by decide +kernel
theorem dX12_loseLine_58 : decode cX12_loseLine 58 = .ok (.aload_n 0, 1) := by decide +kernel
theorem dX12_loseLine_59 : decode cX12_loseLine 59 = .ok (.getfield 13, 3) := by decide +kernel
theorem dX12_loseLine_62 : decode cX12_loseLine 62 = .ok (.bipush 20, 2) := by decide +kernel
theorem dX12_loseLine_64 : decode cX12_loseLine 64 = .ok (.dup2, 1) := by decide +kernel
theorem dX12_loseLine_65 : decode cX12_loseLine 65 = .ok (.iaload, 1) := by decide +kernel
theorem dX12_loseLine_66 : decode cX12_loseLine 66 = .ok (.iconst 1, 1) := by decide +kernel
theorem dX12_loseLine_67 : decode cX12_loseLine 67 = .ok (.iadd, 1) := by decide +kernel
theorem dX12_loseLine_68 : decode cX12_loseLine 68 = .ok (.iastore, 1) := by decide +kernel
theorem dX12_loseLine_69 : decode cX12_loseLine 69 = .ok (.return_, 1) := by decide +kernel
theorem dX12_newLine_0 : decode cX12_newLine 0 = .ok (.aload_n 0, 1) := by decide +kernel
theorem dX12_newLine_1 : decode cX12_newLine 1 = .ok (.aload_n 0, 1) := by decide +kernel
theorem dX12_newLine_2 : decode cX12_newLine 2 = .ok (.getfield 13, 3) := by decide +kernel
theorem dX12_newLine_5 : decode cX12_newLine 5 = .ok (.bipush 25, 2) := by decide +kernel
theorem dX12_newLine_7 : decode cX12_newLine 7 = .ok (.iload_n 1, 1) := by decide +kernel
theorem dX12_newLine_8 : decode cX12_newLine 8 = .ok (.iadd, 1) := by decide +kernel
theorem dX12_newLine_9 : decode cX12_newLine 9 = .ok (.iaload, 1) := by decide +kernel
theorem dX12_newLine_10 : decode cX12_newLine 10 = .ok (.bipush 12, 2) := by decide +kernel
theorem dX12_newLine_12 : decode cX12_newLine 12 = .ok (.if_icmp .ge 7, 3) := by decide +kernel
theorem dX12_newLine_15 : decode cX12_newLine 15 = .ok (.iconst 1, 1) := by decide +kernel
theorem dX12_newLine_16 : decode cX12_newLine 16 = .ok (.goto 4, 3) := by decide +kernel
theorem dX12_newLine_19 : decode cX12_newLine 19 = .ok (.iconst 0, 1) := by decide +kernel
theorem dX12_newLine_20 : decode cX12_newLine 20 = .ok (.invokevirtual 287, 3) := by decide +kernel
theorem dX12_newLine_23 : decode cX12_newLine 23 = .ok (.aload_n 0, 1) := by decide +kernel
theorem dX12_newLine_24 : decode cX12_newLine 24 = .ok (.getfield 280, 3) := by decide +kernel
theorem dX12_newLine_27 : decode cX12_newLine 27 = .ok (.ifCond .eq 4, 3) := by decide +kernel
theorem dX12_newLine_30 : decode cX12_newLine 30 = .ok (.return_, 1) := by decide +kernel
theorem dX12_newLine_31 : decode cX12_newLine 31 = .ok (.aload_n 0, 1) := by decide +kernel
theorem dX12_newLine_32 : decode cX12_newLine 32 = .ok (.getfield 13, 3) := by decide +kernel
theorem dX12_newLine_35 : decode cX12_newLine 35 = .ok (.sipush 219, 3) := by decide +kernel
theorem dX12_newLine_38 : decode cX12_newLine 38 = .ok (.bipush 12, 2) := by decide +kernel
theorem dX12_newLine_40 : decode cX12_newLine 40 = .ok (.iload_n 1, 1) := by decide +kernel
theorem dX12_newLine_41 : decode cX12_newLine 41 = .ok (.imul, 1) := by decide +kernel
theorem dX12_newLine_42 : decode cX12_newLine 42 = .ok (.iadd, 1) := by decide +kernel
theorem dX12_newLine_43 : decode cX12_newLine 43 = .ok (.aload_n 0, 1) := by decide +kernel
theorem dX12_newLine_44 : decode cX12_newLine 44 = .ok (.getfield 13, 3) := by decide +kernel
theorem dX12_newLine_47 : decode cX12_newLine 47 = .ok (.bipush 25, 2) := by decide +kernel
theorem dX12_newLine_49 : decode cX12_newLine 49 = .ok (.iload_n 1, 1) := by decide +kernel
theorem dX12_newLine_50 : decode cX12_newLine 50 = .ok (.iadd, 1) := by decide +kernel
theorem dX12_newLine_51 : decode cX12_newLine 51 = .ok (.iaload, 1) := by decide +kernel
theorem dX12_newLine_52 : decode cX12_newLine 52 = .ok (.iadd, 1) := by decide +kernel
theorem dX12_newLine_53 : decode cX12_newLine 53 = .ok (.iconst 0, 1) := by decide +kernel
theorem dX12_newLine_54 : decode cX12_newLine 54 = .ok (.iastore, 1) := by decide +kernel
theorem dX12_newLine_55 : decode cX12_newLine 55 = .ok (.aload_n 0, 1) := by decide +kernel
theorem dX12_newLine_56 : decode cX12_newLine 56 = .ok (.getfield 13, 3) := by decide +kernel
theorem dX12_newLine_59 : decode cX12_newLine 59 = .ok (.bipush 25, 2) := by decide +kernel
theorem dX12_newLine_61 : decode cX12_newLine 61 = .ok (.iload_n 1, 1) := by decide +kernel
theorem dX12_newLine_62 : decode cX12_newLine 62 = .ok (.iadd, 1) := by decide +kernel
theorem dX12_newLine_63 : decode cX12_newLine 63 = .ok (.dup2, 1) := by decide +kernel
theorem dX12_newLine_64 : decode cX12_newLine 64 = .ok (.iaload, 1) := by decide +kernel
theorem dX12_newLine_65 : decode cX12_newLine 65 = .ok (.iconst 1, 1) := by decide +kernel
theorem dX12_newLine_66 : decode cX12_newLine 66 = .ok (.iadd, 1) := by decide +kernel
theorem dX12_newLine_67 : decode cX12_newLine 67 = .ok (.iastore, 1) := by decide +kernel
theorem dX12_newLine_68 : decode cX12_newLine 68 = .ok (.return_, 1) := by decide +kernel
theorem dX12_item_0 : decode cX12_item 0 = .ok (.bipush 12, 2) := by decide +kernel
theorem dX12_item_2 : decode cX12_item 2 = .ok (.iload_n 1, 1) := by decide +kernel
theorem dX12_item_3 : decode cX12_item 3 = .ok (.imul, 1) := by decide +kernel
theorem dX12_item_4 : decode cX12_item 4 = .ok (.aload_n 0, 1) := by decide +kernel
theorem dX12_item_5 : decode cX12_item 5 = .ok (.getfield 13, 3) := by decide +kernel
theorem dX12_item_8 : decode cX12_item 8 = .ok (.bipush 25, 2) := by decide +kernel
theorem dX12_item_10 : decode cX12_item 10 = .ok (.iload_n 1, 1) := by decide +kernel
theorem dX12_item_11 : decode cX12_item 11 = .ok (.iadd, 1) := by decide +kernel
theorem dX12_item_12 : decode cX12_item 12 = .ok (.iaload, 1) := by decide +kernel
theorem dX12_item_13 : decode cX12_item 13 = .ok (.iadd, 1) := by decide +kernel
theorem dX12_item_14 : decode cX12_item 14 = .ok (.iconst 1, 1) := by decide +kernel
theorem dX12_item_15 : decode cX12_item 15 = .ok (.isub, 1) := by decide +kernel
theorem dX12_item_16 : decode cX12_item 16 = .ok (.istore_n 2, 1) := by decide +kernel
theorem dX12_item_17 : decode cX12_item 17 = .ok (.aload_n 0, 1) := by decide +kernel
theorem dX12_item_18 : decode cX12_item 18 = .ok (.getfield 259, 3) := by decide +kernel
theorem dX12_item_21 : decode cX12_item 21 = .ok (.istore_n 3, 1) := by decide +kernel
theorem dX12_item_22 : decode cX12_item 22 = .ok (.iload_n 3, 1) := by decide +kernel
theorem dX12_item_23 : decode cX12_item 23 = .ok (.aload_n 0, 1) := by decide +kernel
theorem dX12_item_24 : decode cX12_item 24 = .ok (.getfield 256, 3) := by decide +kernel
theorem dX12_item_27 : decode cX12_item 27 = .ok (.if_icmp .ge 38, 3) := by decide +kernel
theorem dX12_item_30 : decode cX12_item 30 = .ok (.aload_n 0, 1) := by decide +kernel
theorem dX12_item_31 : decode cX12_item 31 = .ok (.aload_n 0, 1) := by decide +kernel
theorem dX12_item_32 : decode cX12_item 32 = .ok (.getfield 35, 3) := by decide +kernel
theorem dX12_item_35 : decode cX12_item 35 = .ok (.iload_n 3, 1) := by decide +kernel
theorem dX12_item_36 : decode cX12_item 36 = .ok (.baload, 1) := by decide +kernel
theorem dX12_item_37 : decode cX12_item 37 = .ok (.invokestatic 84, 3) := by decide +kernel
theorem dX12_item_40 : decode cX12_item 40 = .ok (.aload_n 0, 1) := by decide +kernel
theorem dX12_item_41 : decode cX12_item 41 = .ok (.getfield 13, 3) := by decide +kernel
theorem dX12_item_44 : decode cX12_item 44 = .ok (.iconst 0, 1) := by decide +kernel
theorem dX12_item_45 : decode cX12_item 45 = .ok (.iaload, 1) := by decide +kernel
theorem dX12_item_46 : decode cX12_item 46 = .ok (.iconst 2, 1) := by decide +kernel
theorem dX12_item_47 : decode cX12_item 47 = .ok (.isub, 1) := by decide +kernel
theorem dX12_item_48 : decode cX12_item 48 = .ok (.if_icmp .ge 7, 3) := by decide +kernel
theorem dX12_item_51 : decode cX12_item 51 = .ok (.iconst 1, 1) := by decide +kernel
theorem dX12_item_52 : decode cX12_item 52 = .ok (.goto 4, 3) := by decide +kernel
theorem dX12_item_55 : decode cX12_item 55 = .ok (.iconst 0, 1) := by decide +kernel
theorem dX12_item_56 : decode cX12_item 56 = .ok (.invokevirtual 287, 3) := by decide +kernel
theorem dX12_item_59 : decode cX12_item 59 = .ok (.iinc 3 1, 3) := by decide +kernel
theorem dX12_item_62 : decode cX12_item 62 = .ok (.goto (-40), 3) := by decide +kernel
theorem dX12_item_65 : decode cX12_item 65 = .ok (.aload_n 0, 1) := by decide +kernel
theorem dX12_item_66 : decode cX12_item 66 = .ok (.aload_n 0, 1) := by decide +kernel
theorem dX12_item_67 : decode cX12_item 67 = .ok (.getfield 13, 3) := by decide +kernel
theorem dX12_item_70 : decode cX12_item 70 = .ok (.sipush 219, 3) := by decide +kernel
theorem dX12_item_73 : decode cX12_item 73 = .ok (.iload_n 2, 1) := by decide +kernel
theorem dX12_item_74 : decode cX12_item 74 = .ok (.iadd, 1) := by decide +kernel
theorem dX12_item_75 : decode cX12_item 75 = .ok (.iaload, 1) := by decide +kernel
theorem dX12_item_76 : decode cX12_item 76 = .ok (.aload_n 0, 1) := by decide +kernel
theorem dX12_item_77 : decode cX12_item 77 = .ok (.getfield 256, 3) := by decide +kernel
theorem dX12_item_80 : decode cX12_item 80 = .ok (.iadd, 1) := by decide +kernel
theorem dX12_item_81 : decode cX12_item 81 = .ok (.aload_n 0, 1) := by decide +kernel
theorem dX12_item_82 : decode cX12_item 82 = .ok (.getfield 259, 3) := by decide +kernel
theorem dX12_item_85 : decode cX12_item 85 = .ok (.isub, 1) := by decide +kernel
theorem dX12_item_86 : decode cX12_item 86 = .ok (.bipush 30, 2) := by decide +kernel
theorem dX12_item_88 : decode cX12_item 88 = .ok (.if_icmp .gt 7, 3) := by decide +kernel
theorem dX12_item_91 : decode cX12_item 91 = .ok (.iconst 1, 1) := by decide +kernel
theorem dX12_item_92 : decode cX12_item 92 = .ok (.goto 4, 3) := by decide +kernel
theorem dX12_item_95 : decode cX12_item 95 = .ok (.iconst 0, 1) := by decide +kernel
theorem dX12_item_96 : decode cX12_item 96 = .ok (.invokevirtual 287, 3) := by decide +kernel
theorem dX12_item_99 : decode cX12_item 99 = .ok (.aload_n 0, 1) := by decide +kernel
theorem dX12_item_100 : decode cX12_item 100 = .ok (.getfield 259, 3) := by decide +kernel
theorem dX12_item_103 : decode cX12_item 103 = .ok (.istore_n 3, 1) := by decide +kernel
theorem dX12_item_104 : decode cX12_item 104 = .ok (.iload_n 3, 1) := by decide +kernel
theorem dX12_item_105 : decode cX12_item 105 = .ok (.aload_n 0, 1) := by decide +kernel
theorem dX12_item_106 : decode cX12_item 106 = .ok (.getfield 256, 3) := by decide +kernel
theorem dX12_item_109 : decode cX12_item 109 = .ok (.if_icmp .ge 60, 3) := by decide +kernel
theorem dX12_item_112 : decode cX12_item 112 = .ok (.aload_n 0, 1) := by decide +kernel
theorem dX12_item_113 : decode cX12_item 113 = .ok (.getfield 280, 3) := by decide +kernel
theorem dX12_item_116 : decode cX12_item 116 = .ok (.ifCond .ne 53, 3) := by decide +kernel
theorem dX12_item_119 : decode cX12_item 119 = .ok (.aload_n 0, 1) := by decide +kernel
theorem dX12_item_120 : decode cX12_item 120 = .ok (.getfield 13, 3) := by decide +kernel
theorem dX12_item_123 : decode cX12_item 123 = .ok (.sipush 243, 3) := by decide +kernel
theorem dX12_item_126 : decode cX12_item 126 = .ok (.bipush 30, 2) := by decide +kernel
theorem dX12_item_128 : decode cX12_item 128 = .ok (.iload_n 2, 1) := by decide +kernel
theorem dX12_item_129 : decode cX12_item 129 = .ok (.imul, 1) := by decide +kernel
theorem dX12_item_130 : decode cX12_item 130 = .ok (.iadd, 1) := by decide +kernel
theorem dX12_item_131 : decode cX12_item 131 = .ok (.aload_n 0, 1) := by decide +kernel
theorem dX12_item_132 : decode cX12_item 132 = .ok (.getfield 13, 3) := by decide +kernel
theorem dX12_item_135 : decode cX12_item 135 = .ok (.sipush 219, 3) := by decide +kernel
theorem dX12_item_138 : decode cX12_item 138 = .ok (.iload_n 2, 1) := by decide +kernel
theorem dX12_item_139 : decode cX12_item 139 = .ok (.iadd, 1) := by decide +kernel
theorem dX12_item_140 : decode cX12_item 140 = .ok (.iaload, 1) := by decide +kernel
theorem dX12_item_141 : decode cX12_item 141 = .ok (.iadd, 1) := by decide +kernel
theorem dX12_item_142 : decode cX12_item 142 = .ok (.aload_n 0, 1) := by decide +kernel
theorem dX12_item_143 : decode cX12_item 143 = .ok (.getfield 35, 3) := by decide +kernel
theorem dX12_item_146 : decode cX12_item 146 = .ok (.iload_n 3, 1) := by decide +kernel
theorem dX12_item_147 : decode cX12_item 147 = .ok (.baload, 1) := by decide +kernel
theorem dX12_item_148 : decode cX12_item 148 = .ok (.iastore, 1) := by decide +kernel
theorem dX12_item_149 : decode cX12_item 149 = .ok (.aload_n 0, 1) := by decide +kernel
theorem dX12_item_150 : decode cX12_item 150 = .ok (.getfield 13, 3) := by decide +kernel
theorem dX12_item_153 : decode cX12_item 153 = .ok (.sipush 219, 3) := by decide +kernel
theorem dX12_item_156 : decode cX12_item 156 = .ok (.iload_n 2, 1) := by decide +kernel
theorem dX12_item_157 : decode cX12_item 157 = .ok (.iadd, 1) := by decide +kernel
theorem dX12_item_158 : decode cX12_item 158 = .ok (.dup2, 1) := by decide +kernel
theorem dX12_item_159 : decode cX12_item 159 = .ok (.iaload, 1) := by decide +kernel
theorem dX12_item_160 : decode cX12_item 160 = .ok (.iconst 1, 1) := by decide +kernel
theorem dX12_item_161 : decode cX12_item 161 = .ok (.iadd, 1) := by decide +kernel
theorem dX12_item_162 : decode cX12_item 162 = .ok (.iastore, 1) := by decide +kernel
theorem dX12_item_163 : decode cX12_item 163 = .ok (.iinc 3 1, 3) := by decide +kernel
theorem dX12_item_166 : decode cX12_item 166 = .ok (.goto (-62), 3) := by decide +kernel
theorem dX12_item_169 : decode cX12_item 169 = .ok (.return_, 1) := by decide +kernel
theorem dX12_isItem_0 : decode cX12_isItem 0 = .ok (.aload_n 0, 1) := by decide +kernel
theorem dX12_isItem_1 : decode cX12_isItem 1 = .ok (.getfield 280, 3) := by decide +kernel
theorem dX12_isItem_4 : decode cX12_isItem 4 = .ok (.ifCond .ne 31, 3) := by decide +kernel
theorem dX12_isItem_7 : decode cX12_isItem 7 = .ok (.aload_n 0, 1) := by decide +kernel
theorem dX12_isItem_8 : decode cX12_isItem 8 = .ok (.getfield 266, 3) := by decide +kernel
theorem dX12_isItem_11 : decode cX12_isItem 11 = .ok (.iconst 1, 1) := by decide +kernel
theorem dX12_isItem_12 : decode cX12_isItem 12 = .ok (.if_icmp .eq 19, 3) := by decide +kernel
theorem dX12_isItem_15 : decode cX12_isItem 15 = .ok (.aload_n 0, 1) := by decide +kernel
theorem dX12_isItem_16 : decode cX12_isItem 16 = .ok (.getfield 266, 3) := by decide +kernel
theorem dX12_isItem_19 : decode cX12_isItem 19 = .ok (.iconst 2, 1) := by decide +kernel
theorem dX12_isItem_20 : decode cX12_isItem 20 = .ok (.if_icmp .eq 11, 3) := by decide +kernel
theorem dX12_isItem_23 : decode cX12_isItem 23 = .ok (.aload_n 0, 1) := by decide +kernel
theorem dX12_isItem_24 : decode cX12_isItem 24 = .ok (.getfield 266, 3) := by decide +kernel
theorem dX12_isItem_27 : decode cX12_isItem 27 = .ok (.iconst 4, 1) := by decide +kernel
theorem dX12_isItem_28 : decode cX12_isItem 28 = .ok (.if_icmp .ne 7, 3) := by decide +kernel
theorem dX12_isItem_31 : decode cX12_isItem 31 = .ok (.iconst 1, 1) := by decide +kernel
theorem dX12_isItem_32 : decode cX12_isItem 32 = .ok (.goto 4, 3) := by decide +kernel
theorem dX12_isItem_35 : decode cX12_isItem 35 = .ok (.iconst 0, 1) := by decide +kernel
theorem dX12_isItem_36 : decode cX12_isItem 36 = .ok (.ireturn, 1) := by decide +kernel
theorem dX12_messageLine_0 : decode cX12_messageLine 0 = .ok (.aload_n 0, 1) := by decide +kernel
theorem dX12_messageLine_1 : decode cX12_messageLine 1 = .ok (.invokevirtual 290, 3) := by decide +kernel
theorem dX12_messageLine_4 : decode cX12_messageLine 4 = .ok (.aload_n 0, 1) := by decide +kernel
theorem dX12_messageLine_5 : decode cX12_messageLine 5 = .ok (.aload_n 0, 1) := by decide +kernel
theorem dX12_messageLine_6 : decode cX12_messageLine 6 = .ok (.getfield 266, 3) := by decide +kernel
theorem dX12_messageLine_9 : decode cX12_messageLine 9 = .ok (.iconst 2, 1) := by decide +kernel
theorem dX12_messageLine_10 : decode cX12_messageLine 10 = .ok (.if_icmp .ne 20, 3) := by decide +kernel
theorem dX12_messageLine_13 : decode cX12_messageLine 13 = .ok (.aload_n 0, 1) := by decide +kernel
theorem dX12_messageLine_14 : decode cX12_messageLine 14 = .ok (.getfield 277, 3) := by decide +kernel
theorem dX12_messageLine_17 : decode cX12_messageLine 17 = .ok (.i2l, 1) := by decide +kernel
theorem dX12_messageLine_18 : decode cX12_messageLine 18 = .ok (.lconst 0, 1) := by decide +kernel
theorem dX12_messageLine_19 : decode cX12_messageLine 19 = .ok (.lconst 1, 1) := by decide +kernel
theorem dX12_messageLine_20 : decode cX12_messageLine 20 = .ok (.invokestatic 58, 3) := by decide +kernel
theorem dX12_messageLine_23 : decode cX12_messageLine 23 = .ok (.ifCond .eq 7, 3) := by decide +kernel
theorem dX12_messageLine_26 : decode cX12_messageLine 26 = .ok (.iconst 1, 1) := by decide +kernel
theorem dX12_messageLine_27 : decode cX12_messageLine 27 = .ok (.goto 4, 3) := by decide +kernel
theorem dX12_messageLine_30 : decode cX12_messageLine 30 = .ok (.iconst 0, 1) := by decide +kernel
theorem dX12_messageLine_31 : decode cX12_messageLine 31 = .ok (.invokevirtual 287, 3) := by decide +kernel
theorem dX12_messageLine_34 : decode cX12_messageLine 34 = .ok (.aload_n 0, 1) := by decide +kernel
theorem dX12_messageLine_35 : decode cX12_messageLine 35 = .ok (.getfield 280, 3) := by decide +kernel
theorem dX12_messageLine_38 : decode cX12_messageLine 38 = .ok (.ifCond .eq 7, 3) := by decide +kernel
theorem dX12_messageLine_41 : decode cX12_messageLine 41 = .ok (.iconst 0, 1) := by decide +kernel
theorem dX12_messageLine_42 : decode cX12_messageLine 42 = .ok (.goto 7, 3) := by decide +kernel
theorem dX12_messageLine_45 : decode cX12_messageLine 45 = .ok (.aload_n 0, 1) := by decide +kernel
theorem dX12_messageLine_46 : decode cX12_messageLine 46 = .ok (.getfield 277, 3) := by decide +kernel
theorem dX12_messageLine_49 : decode cX12_messageLine 49 = .ok (.istore_n 1, 1) := by decide +kernel
theorem dX12_messageLine_50 : decode cX12_messageLine 50 = .ok (.aload_n 0, 1) := by decide +kernel
theorem dX12_messageLine_51 : decode cX12_messageLine 51 = .ok (.iload_n 1, 1) := by decide +kernel
theorem dX12_messageLine_52 : decode cX12_messageLine 52 = .ok (.invokevirtual 302, 3) := by decide +kernel
theorem dX12_messageLine_55 : decode cX12_messageLine 55 = .ok (.aload_n 0, 1) := by decide +kernel
theorem dX12_messageLine_56 : decode cX12_messageLine 56 = .ok (.invokevirtual 290, 3) := by decide +kernel
theorem dX12_messageLine_59 : decode cX12_messageLine 59 = .ok (.aload_n 0, 1) := by decide +kernel
theorem dX12_messageLine_60 : decode cX12_messageLine 60 = .ok (.aload_n 0, 1) := by decide +kernel
theorem dX12_messageLine_61 : decode cX12_messageLine 61 = .ok (.invokevirtual 305, 3) := by decide +kernel
theorem dX12_messageLine_64 : decode cX12_messageLine 64 = .ok (.invokevirtual 287, 3) := by decide +kernel
theorem dX12_messageLine_67 : decode cX12_messageLine 67 = .ok (.aload_n 0, 1) := by decide +kernel
theorem dX12_messageLine_68 : decode cX12_messageLine 68 = .ok (.invokevirtual 305, 3) := by decide +kernel
theorem dX12_messageLine_71 : decode cX12_messageLine 71 = .ok (.ifCond .eq 31, 3) := by decide +kernel
theorem dX12_messageLine_74 : decode cX12_messageLine 74 = .ok (.aload_n 0, 1) := by decide +kernel
theorem dX12_messageLine_75 : decode cX12_messageLine 75 = .ok (.getfield 266, 3) := by decide +kernel
theorem dX12_messageLine_78 : decode cX12_messageLine 78 = .ok (.iconst 4, 1) := by decide +kernel
theorem dX12_messageLine_79 : decode cX12_messageLine 79 = .ok (.if_icmp .ne 11, 3) := by decide +kernel
theorem dX12_messageLine_82 : decode cX12_messageLine 82 = .ok (.aload_n 0, 1) := by decide +kernel
theorem dX12_messageLine_83 : decode cX12_messageLine 83 = .ok (.iload_n 1, 1) := by decide +kernel
theorem dX12_messageLine_84 : decode cX12_messageLine 84 = .ok (.invokevirtual 302, 3) := by decide +kernel
theorem dX12_messageLine_87 : decode cX12_messageLine 87 = .ok (.goto 8, 3) := by decide +kernel
theorem dX12_messageLine_90 : decode cX12_messageLine 90 = .ok (.aload_n 0, 1) := by decide +kernel
theorem dX12_messageLine_91 : decode cX12_messageLine 91 = .ok (.iload_n 1, 1) := by decide +kernel
theorem dX12_messageLine_92 : decode cX12_messageLine 92 = .ok (.invokevirtual 308, 3) := by decide +kernel
theorem dX12_messageLine_95 : decode cX12_messageLine 95 = .ok (.aload_n 0, 1) := by decide +kernel
theorem dX12_messageLine_96 : decode cX12_messageLine 96 = .ok (.invokevirtual 290, 3) := by decide +kernel
theorem dX12_messageLine_99 : decode cX12_messageLine 99 = .ok (.goto (-32), 3) := by decide +kernel
theorem dX12_messageLine_102 : decode cX12_messageLine 102 = .ok (.return_, 1) := by decide +kernel
theorem dX12_statement_0 : decode cX12_statement 0 = .ok (.aload_n 0, 1) := by decide +kernel
theorem dX12_statement_1 : decode cX12_statement 1 = .ok (.ldc2_w 311, 3) := by decide +kernel
theorem dX12_statement_4 : decode cX12_statement 4 = .ok (.invokevirtual 313, 3) := by decide +kernel
theorem dX12_statement_7 : decode cX12_statement 7 = .ok (.ifCond .eq 10, 3) := by decide +kernel
theorem dX12_statement_10 : decode cX12_statement 10 = .ok (.aload_n 0, 1) := by decide +kernel
theorem dX12_statement_11 : decode cX12_statement 11 = .ok (.invokevirtual 317, 3) := by decide +kernel
theorem dX12_statement_14 : decode cX12_statement 14 = .ok (.goto 145, 3) := by decide +kernel
theorem dX12_statement_17 : decode cX12_statement 17 = .ok (.aload_n 0, 1) := by decide +kernel
theorem dX12_statement_18 : decode cX12_statement 18 = .ok (.ldc2_w 320, 3) := by decide +kernel
theorem dX12_statement_21 : decode cX12_statement 21 = .ok (.invokevirtual 313, 3) := by decide +kernel
theorem dX12_statement_24 : decode cX12_statement 24 = .ok (.ifCond .eq 10, 3) := by decide +kernel
theorem dX12_statement_27 : decode cX12_statement 27 = .ok (.aload_n 0, 1) := by decide +kernel
theorem dX12_statement_28 : decode cX12_statement 28 = .ok (.invokevirtual 322, 3) := by decide +kernel
theorem dX12_statement_31 : decode cX12_statement 31 = .ok (.goto 128, 3) := by decide +kernel
theorem dX12_statement_34 : decode cX12_statement 34 = .ok (.aload_n 0, 1) := by decide +kernel
theorem dX12_statement_35 : decode cX12_statement 35 = .ok (.ldc2_w 325, 3) := by decide +kernel
theorem dX12_statement_38 : decode cX12_statement 38 = .ok (.invokevirtual 313, 3) := by decide +kernel
theorem dX12_statement_41 : decode cX12_statement 41 = .ok (.ifCond .eq 14, 3) := by decide +kernel
theorem dX12_statement_44 : decode cX12_statement 44 = .ok (.aload_n 0, 1) := by decide +kernel
theorem dX12_statement_45 : decode cX12_statement 45 = .ok (.iconst 1, 1) := by decide +kernel
theorem dX12_statement_46 : decode cX12_statement 46 = .ok (.iconst 1, 1) := by decide +kernel
theorem dX12_statement_47 : decode cX12_statement 47 = .ok (.bipush 50, 2) := by decide +kernel
theorem dX12_statement_49 : decode cX12_statement 49 = .ok (.invokevirtual 327, 3) := by decide +kernel
theorem dX12_statement_52 : decode cX12_statement 52 = .ok (.goto 107, 3) := by decide +kernel
theorem dX12_statement_55 : decode cX12_statement 55 = .ok (.aload_n 0, 1) := by decide +kernel
theorem dX12_statement_56 : decode cX12_statement 56 = .ok (.ldc2_w 331, 3) := by decide +kernel
theorem dX12_statement_59 : decode cX12_statement 59 = .ok (.invokevirtual 313, 3) := by decide +kernel
theorem dX12_statement_62 : decode cX12_statement 62 = .ok (.ifCond .eq 15, 3) := by decide +kernel
theorem dX12_statement_65 : decode cX12_statement 65 = .ok (.aload_n 0, 1) := by decide +kernel
theorem dX12_statement_66 : decode cX12_statement 66 = .ok (.iconst 2, 1) := by decide +kernel
theorem dX12_statement_67 : decode cX12_statement 67 = .ok (.iconst 0, 1) := by decide +kernel
theorem dX12_statement_68 : decode cX12_statement 68 = .ok (.sipush 500, 3) := by decide +kernel
theorem dX12_statement_71 : decode cX12_statement 71 = .ok (.invokevirtual 327, 3) := by decide +kernel
theorem dX12_statement_74 : decode cX12_statement 74 = .ok (.goto 85, 3) := by decide +kernel
theorem dX12_statement_77 : decode cX12_statement 77 = .ok (.aload_n 0, 1) := by decide +kernel
theorem dX12_statement_78 : decode cX12_statement 78 = .ok (.ldc2_w 333, 3) := by decide +kernel
theorem dX12_statement_81 : decode cX12_statement 81 = .ok (.invokevirtual 313, 3) := by decide +kernel
theorem dX12_statement_84 : decode cX12_statement 84 = .ok (.ifCond .eq 15, 3) := by decide +kernel
theorem dX12_statement_87 : decode cX12_statement 87 = .ok (.aload_n 0, 1) := by decide +kernel
theorem dX12_statement_88 : decode cX12_statement 88 = .ok (.iconst 3, 1) := by decide +kernel
theorem dX12_statement_89 : decode cX12_statement 89 = .ok (.iconst 1, 1) := by decide +kernel
theorem dX12_statement_90 : decode cX12_statement 90 = .ok (.sipush 5000, 3) := by decide +kernel
theorem dX12_statement_93 : decode cX12_statement 93 = .ok (.invokevirtual 327, 3) := by decide +kernel
theorem dX12_statement_96 : decode cX12_statement 96 = .ok (.goto 63, 3) := by decide +kernel
theorem dX12_statement_99 : decode cX12_statement 99 = .ok (.aload_n 0, 1) := by decide +kernel
theorem dX12_statement_100 : decode cX12_statement 100 = .ok (.ldc2_w 335, 3) := by decide +kernel
theorem dX12_statement_103 : decode cX12_statement 103 = .ok (.invokevirtual 313, 3) := by decide +kernel
theorem dX12_statement_106 : decode cX12_statement 106 = .ok (.ifCond .eq 14, 3) := by decide +kernel
theorem dX12_statement_109 : decode cX12_statement 109 = .ok (.aload_n 0, 1) := by decide +kernel
theorem dX12_statement_110 : decode cX12_statement 110 = .ok (.iconst 4, 1) := by decide +kernel
theorem dX12_statement_111 : decode cX12_statement 111 = .ok (.iconst 0, 1) := by decide +kernel
theorem dX12_statement_112 : decode cX12_statement 112 = .ok (.bipush 9, 2) := by decide +kernel
theorem dX12_statement_114 : decode cX12_statement 114 = .ok (.invokevirtual 327, 3) := by decide +kernel
theorem dX12_statement_117 : decode cX12_statement 117 = .ok (.goto 42, 3) := by decide +kernel
theorem dX12_statement_120 : decode cX12_statement 120 = .ok (.aload_n 0, 1) := by decide +kernel
theorem dX12_statement_121 : decode cX12_statement 121 = .ok (.ldc2_w 337, 3) := by decide +kernel
theorem dX12_statement_124 : decode cX12_statement 124 = .ok (.invokevirtual 313, 3) := by decide +kernel
theorem dX12_statement_127 : decode cX12_statement 127 = .ok (.ifCond .eq 10, 3) := by decide +kernel
theorem dX12_statement_130 : decode cX12_statement 130 = .ok (.aload_n 0, 1) := by decide +kernel
theorem dX12_statement_131 : decode cX12_statement 131 = .ok (.invokevirtual 339, 3) := by decide +kernel
theorem dX12_statement_134 : decode cX12_statement 134 = .ok (.goto 25, 3) := by decide +kernel
theorem dX12_statement_137 : decode cX12_statement 137 = .ok (.aload_n 0, 1) := by decide +kernel
theorem dX12_statement_138 : decode cX12_statement 138 = .ok (.aload_n 0, 1) := by decide +kernel
theorem dX12_statement_139 : decode cX12_statement 139 = .ok (.ldc2_w 342, 3) := by decide +kernel
theorem dX12_statement_142 : decode cX12_statement 142 = .ok (.invokevirtual 313, 3) := by decide +kernel
theorem dX12_statement_145 : decode cX12_statement 145 = .ok (.invokevirtual 287, 3) := by decide +kernel
theorem dX12_statement_148 : decode cX12_statement 148 = .ok (.aload_n 0, 1) := by decide +kernel
theorem dX12_statement_149 : decode cX12_statement 149 = .ok (.getfield 280, 3) := by decide +kernel
theorem dX12_statement_152 : decode cX12_statement 152 = .ok (.ifCond .ne 7, 3) := by decide +kernel
theorem dX12_statement_155 : decode cX12_statement 155 = .ok (.aload_n 0, 1) := by decide +kernel
theorem dX12_statement_156 : decode cX12_statement 156 = .ok (.invokevirtual 344, 3) := by decide +kernel
theorem dX12_statement_159 : decode cX12_statement 159 = .ok (.aload_n 0, 1) := by decide +kernel
theorem dX12_statement_160 : decode cX12_statement 160 = .ok (.aload_n 0, 1) := by decide +kernel
theorem dX12_statement_161 : decode cX12_statement 161 = .ok (.getfield 266, 3) := by decide +kernel
theorem dX12_statement_164 : decode cX12_statement 164 = .ok (.iconst 3, 1) := by decide +kernel
theorem dX12_statement_165 : decode cX12_statement 165 = .ok (.if_icmp .ne 7, 3) := by decide +kernel
theorem dX12_statement_168 : decode cX12_statement 168 = .ok (.iconst 1, 1) := by decide +kernel
theorem dX12_statement_169 : decode cX12_statement 169 = .ok (.goto 4, 3) := by decide +kernel
theorem dX12_statement_172 : decode cX12_statement 172 = .ok (.iconst 0, 1) := by decide +kernel
theorem dX12_statement_173 : decode cX12_statement 173 = .ok (.invokevirtual 287, 3) := by decide +kernel
theorem dX12_statement_176 : decode cX12_statement 176 = .ok (.aload_n 0, 1) := by decide +kernel
theorem dX12_statement_177 : decode cX12_statement 177 = .ok (.invokevirtual 290, 3) := by decide +kernel
theorem dX12_statement_180 : decode cX12_statement 180 = .ok (.aload_n 0, 1) := by decide +kernel
theorem dX12_statement_181 : decode cX12_statement 181 = .ok (.iconst 0, 1) := by decide +kernel
theorem dX12_statement_182 : decode cX12_statement 182 = .ok (.putfield 293, 3) := by decide +kernel
theorem dX12_statement_185 : decode cX12_statement 185 = .ok (.return_, 1) := by decide +kernel
theorem dX12_load_0 : decode cX12_load 0 = .ok (.aload_n 0, 1) := by decide +kernel
theorem dX12_load_1 : decode cX12_load 1 = .ok (.iconst 0, 1) := by decide +kernel
theorem dX12_load_2 : decode cX12_load 2 = .ok (.putfield 47, 3) := by decide +kernel
theorem dX12_load_5 : decode cX12_load 5 = .ok (.aload_n 0, 1) := by decide +kernel
theorem dX12_load_6 : decode cX12_load 6 = .ok (.getfield 13, 3) := by decide +kernel
theorem dX12_load_9 : decode cX12_load 9 = .ok (.invokestatic 43, 3) := by decide +kernel
theorem dX12_load_12 : decode cX12_load 12 = .ok (.aload_n 0, 1) := by decide +kernel
theorem dX12_load_13 : decode cX12_load 13 = .ok (.iconst 0, 1) := by decide +kernel
theorem dX12_load_14 : decode cX12_load 14 = .ok (.putfield 256, 3) := by decide +kernel
theorem dX12_load_17 : decode cX12_load 17 = .ok (.aload_n 0, 1) := by decide +kernel
theorem dX12_load_18 : decode cX12_load 18 = .ok (.iconst 0, 1) := by decide +kernel
theorem dX12_load_19 : decode cX12_load 19 = .ok (.putfield 299, 3) := by decide +kernel
theorem dX12_load_22 : decode cX12_load 22 = .ok (.aload_n 0, 1) := by decide +kernel
theorem dX12_load_23 : decode cX12_load 23 = .ok (.iconst 1, 1) := by decide +kernel
theorem dX12_load_24 : decode cX12_load 24 = .ok (.putfield 293, 3) := by decide +kernel
theorem dX12_load_27 : decode cX12_load 27 = .ok (.aload_n 0, 1) := by decide +kernel
theorem dX12_load_28 : decode cX12_load 28 = .ok (.iconst 0, 1) := by decide +kernel
theorem dX12_load_29 : decode cX12_load 29 = .ok (.putfield 280, 3) := by decide +kernel
theorem dX12_load_32 : decode cX12_load 32 = .ok (.aload_n 0, 1) := by decide +kernel
theorem dX12_load_33 : decode cX12_load 33 = .ok (.iconst (-1), 1) := by decide +kernel
theorem dX12_load_34 : decode cX12_load 34 = .ok (.putfield 39, 3) := by decide +kernel
theorem dX12_load_37 : decode cX12_load 37 = .ok (.aload_n 0, 1) := by decide +kernel
theorem dX12_load_38 : decode cX12_load 38 = .ok (.invokevirtual 284, 3) := by decide +kernel
theorem dX12_load_41 : decode cX12_load 41 = .ok (.aload_n 0, 1) := by decide +kernel
theorem dX12_load_42 : decode cX12_load 42 = .ok (.getfield 280, 3) := by decide +kernel
theorem dX12_load_45 : decode cX12_load 45 = .ok (.ifCond .ne 17, 3) := by decide +kernel
theorem dX12_load_48 : decode cX12_load 48 = .ok (.aload_n 0, 1) := by decide +kernel
theorem dX12_load_49 : decode cX12_load 49 = .ok (.getfield 266, 3) := by decide +kernel
theorem dX12_load_52 : decode cX12_load 52 = .ok (.ifCond .eq 10, 3) := by decide +kernel
theorem dX12_load_55 : decode cX12_load 55 = .ok (.aload_n 0, 1) := by decide +kernel
theorem dX12_load_56 : decode cX12_load 56 = .ok (.invokevirtual 347, 3) := by decide +kernel
theorem dX12_load_59 : decode cX12_load 59 = .ok (.goto (-18), 3) := by decide +kernel
theorem dX12_load_62 : decode cX12_load 62 = .ok (.aload_n 0, 1) := by decide +kernel
theorem dX12_load_63 : decode cX12_load 63 = .ok (.iconst 0, 1) := by decide +kernel
theorem dX12_load_64 : decode cX12_load 64 = .ok (.putfield 250, 3) := by decide +kernel
theorem dX12_load_67 : decode cX12_load 67 = .ok (.aload_n 0, 1) := by decide +kernel
theorem dX12_load_68 : decode cX12_load 68 = .ok (.getfield 280, 3) := by decide +kernel
theorem dX12_load_71 : decode cX12_load 71 = .ok (.ifCond .eq 9, 3) := by decide +kernel
theorem dX12_load_74 : decode cX12_load 74 = .ok (.aload_n 0, 1) := by decide +kernel
theorem dX12_load_75 : decode cX12_load 75 = .ok (.iconst 1, 1) := by decide +kernel
theorem dX12_load_76 : decode cX12_load 76 = .ok (.invokevirtual 174, 3) := by decide +kernel
theorem dX12_load_79 : decode cX12_load 79 = .ok (.ireturn, 1) := by decide +kernel
theorem dX12_load_80 : decode cX12_load 80 = .ok (.aload_n 0, 1) := by decide +kernel
theorem dX12_load_81 : decode cX12_load 81 = .ok (.getfield 13, 3) := by decide +kernel
theorem dX12_load_84 : decode cX12_load 84 = .ok (.aload_n 0, 1) := by decide +kernel
theorem dX12_load_85 : decode cX12_load 85 = .ok (.getfield 7, 3) := by decide +kernel
theorem dX12_load_88 : decode cX12_load 88 = .ok (.invokestatic 219, 3) := by decide +kernel
theorem dX12_load_91 : decode cX12_load 91 = .ok (.aload_n 0, 1) := by decide +kernel
theorem dX12_load_92 : decode cX12_load 92 = .ok (.iconst 0, 1) := by decide +kernel
theorem dX12_load_93 : decode cX12_load 93 = .ok (.putfield 50, 3) := by decide +kernel
theorem dX12_load_96 : decode cX12_load 96 = .ok (.aload_n 0, 1) := by decide +kernel
theorem dX12_load_97 : decode cX12_load 97 = .ok (.getfield 7, 3) := by decide +kernel
theorem dX12_load_100 : decode cX12_load 100 = .ok (.bipush 25, 2) := by decide +kernel
theorem dX12_load_102 : decode cX12_load 102 = .ok (.iaload, 1) := by decide +kernel
theorem dX12_load_103 : decode cX12_load 103 = .ok (.aload_n 0, 1) := by decide +kernel
theorem dX12_load_104 : decode cX12_load 104 = .ok (.getfield 7, 3) := by decide +kernel
theorem dX12_load_107 : decode cX12_load 107 = .ok (.bipush 26, 2) := by decide +kernel
theorem dX12_load_109 : decode cX12_load 109 = .ok (.iaload, 1) := by decide +kernel
theorem dX12_load_110 : decode cX12_load 110 = .ok (.iadd, 1) := by decide +kernel
theorem dX12_load_111 : decode cX12_load 111 = .ok (.ireturn, 1) := by decide +kernel
