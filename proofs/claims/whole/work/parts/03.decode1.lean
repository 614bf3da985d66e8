theorem d_S_init_0 : decode b_S_init 0 = .ok (.aload_n 0, 1) := by decide +kernel
theorem d_S_init_1 : decode b_S_init 1 = .ok (.invokespecial 1, 3) := by decide +kernel
theorem d_S_init_4 : decode b_S_init 4 = .ok (.aload_n 0, 1) := by decide +kernel
theorem d_S_init_5 : decode b_S_init 5 = .ok (.iconst 4, 1) := by decide +kernel
theorem d_S_init_6 : decode b_S_init 6 = .ok (.newarray .int, 2) := by decide +kernel
theorem d_S_init_8 : decode b_S_init 8 = .ok (.dup, 1) := by decide +kernel
theorem d_S_init_9 : decode b_S_init 9 = .ok (.iconst 0, 1) := by decide +kernel
theorem d_S_init_10 : decode b_S_init 10 = .ok (.iconst (-1), 1) := by decide +kernel
theorem d_S_init_11 : decode b_S_init 11 = .ok (.iastore, 1) := by decide +kernel
theorem d_S_init_12 : decode b_S_init 12 = .ok (.dup, 1) := by decide +kernel
theorem d_S_init_13 : decode b_S_init 13 = .ok (.iconst 1, 1) := by decide +kernel
theorem d_S_init_14 : decode b_S_init 14 = .ok (.iconst (-1), 1) := by decide +kernel
theorem d_S_init_15 : decode b_S_init 15 = .ok (.iastore, 1) := by decide +kernel
theorem d_S_init_16 : decode b_S_init 16 = .ok (.dup, 1) := by decide +kernel
theorem d_S_init_17 : decode b_S_init 17 = .ok (.iconst 2, 1) := by decide +kernel
theorem d_S_init_18 : decode b_S_init 18 = .ok (.iconst (-1), 1) := by decide +kernel
theorem d_S_init_19 : decode b_S_init 19 = .ok (.iastore, 1) := by decide +kernel
theorem d_S_init_20 : decode b_S_init 20 = .ok (.dup, 1) := by decide +kernel
theorem d_S_init_21 : decode b_S_init 21 = .ok (.iconst 3, 1) := by decide +kernel
theorem d_S_init_22 : decode b_S_init 22 = .ok (.iconst (-1), 1) := by decide +kernel
theorem d_S_init_23 : decode b_S_init 23 = .ok (.iastore, 1) := by decide +kernel
theorem d_S_init_24 : decode b_S_init 24 = .ok (.putfield 9, 3) := by decide +kernel
theorem d_S_init_27 : decode b_S_init 27 = .ok (.aload_n 0, 1) := by decide +kernel
theorem d_S_init_28 : decode b_S_init 28 = .ok (.iconst 4, 1) := by decide +kernel
theorem d_S_init_29 : decode b_S_init 29 = .ok (.newarray .int, 2) := by decide +kernel
theorem d_S_init_31 : decode b_S_init 31 = .ok (.putfield 13, 3) := by decide +kernel
theorem d_S_init_34 : decode b_S_init 34 = .ok (.aload_n 0, 1) := by decide +kernel
theorem d_S_init_35 : decode b_S_init 35 = .ok (.sipush 240, 3) := by decide +kernel
theorem d_S_init_38 : decode b_S_init 38 = .ok (.newarray .int, 2) := by decide +kernel
theorem d_S_init_40 : decode b_S_init 40 = .ok (.putfield 16, 3) := by decide +kernel
theorem d_S_init_43 : decode b_S_init 43 = .ok (.return_, 1) := by decide +kernel
theorem d_S_isLost_0 : decode b_S_isLost 0 = .ok (.aload_n 0, 1) := by decide +kernel
theorem d_S_isLost_1 : decode b_S_isLost 1 = .ok (.getfield 9, 3) := by decide +kernel
theorem d_S_isLost_4 : decode b_S_isLost 4 = .ok (.iload_n 1, 1) := by decide +kernel
theorem d_S_isLost_5 : decode b_S_isLost 5 = .ok (.iaload, 1) := by decide +kernel
theorem d_S_isLost_6 : decode b_S_isLost 6 = .ok (.iconst (-1), 1) := by decide +kernel
theorem d_S_isLost_7 : decode b_S_isLost 7 = .ok (.if_icmp .ne 7, 3) := by decide +kernel
theorem d_S_isLost_10 : decode b_S_isLost 10 = .ok (.iconst 1, 1) := by decide +kernel
theorem d_S_isLost_11 : decode b_S_isLost 11 = .ok (.goto 4, 3) := by decide +kernel
theorem d_S_isLost_14 : decode b_S_isLost 14 = .ok (.iconst 0, 1) := by decide +kernel
theorem d_S_isLost_15 : decode b_S_isLost 15 = .ok (.ireturn, 1) := by decide +kernel
theorem d_S_formOf_0 : decode b_S_formOf 0 = .ok (.aload_n 0, 1) := by decide +kernel
theorem d_S_formOf_1 : decode b_S_formOf 1 = .ok (.getfield 9, 3) := by decide +kernel
theorem d_S_formOf_4 : decode b_S_formOf 4 = .ok (.iload_n 1, 1) := by decide +kernel
theorem d_S_formOf_5 : decode b_S_formOf 5 = .ok (.iaload, 1) := by decide +kernel
theorem d_S_formOf_6 : decode b_S_formOf 6 = .ok (.ireturn, 1) := by decide +kernel
theorem d_S_sizeOf_0 : decode b_S_sizeOf 0 = .ok (.aload_n 0, 1) := by decide +kernel
theorem d_S_sizeOf_1 : decode b_S_sizeOf 1 = .ok (.getfield 13, 3) := by decide +kernel
theorem d_S_sizeOf_4 : decode b_S_sizeOf 4 = .ok (.iload_n 1, 1) := by decide +kernel
theorem d_S_sizeOf_5 : decode b_S_sizeOf 5 = .ok (.iaload, 1) := by decide +kernel
theorem d_S_sizeOf_6 : decode b_S_sizeOf 6 = .ok (.ireturn, 1) := by decide +kernel
theorem d_S_lay_0 : decode b_S_lay 0 = .ok (.aload_n 0, 1) := by decide +kernel
theorem d_S_lay_1 : decode b_S_lay 1 = .ok (.getfield 9, 3) := by decide +kernel
theorem d_S_lay_4 : decode b_S_lay 4 = .ok (.iload_n 1, 1) := by decide +kernel
theorem d_S_lay_5 : decode b_S_lay 5 = .ok (.iload_n 2, 1) := by decide +kernel
theorem d_S_lay_6 : decode b_S_lay 6 = .ok (.iastore, 1) := by decide +kernel
theorem d_S_lay_7 : decode b_S_lay 7 = .ok (.aload_n 0, 1) := by decide +kernel
theorem d_S_lay_8 : decode b_S_lay 8 = .ok (.getfield 13, 3) := by decide +kernel
theorem d_S_lay_11 : decode b_S_lay 11 = .ok (.iload_n 1, 1) := by decide +kernel
theorem d_S_lay_12 : decode b_S_lay 12 = .ok (.iload_n 3, 1) := by decide +kernel
theorem d_S_lay_13 : decode b_S_lay 13 = .ok (.iastore, 1) := by decide +kernel
theorem d_S_lay_14 : decode b_S_lay 14 = .ok (.iconst 0, 1) := by decide +kernel
theorem d_S_lay_15 : decode b_S_lay 15 = .ok (.istore 4, 2) := by decide +kernel
theorem d_S_lay_17 : decode b_S_lay 17 = .ok (.iload 4, 2) := by decide +kernel
theorem d_S_lay_19 : decode b_S_lay 19 = .ok (.iload_n 3, 1) := by decide +kernel
theorem d_S_lay_20 : decode b_S_lay 20 = .ok (.if_icmp .ge 22, 3) := by decide +kernel
theorem d_S_lay_23 : decode b_S_lay 23 = .ok (.aload_n 0, 1) := by decide +kernel
theorem d_S_lay_24 : decode b_S_lay 24 = .ok (.getfield 16, 3) := by decide +kernel
theorem d_S_lay_27 : decode b_S_lay 27 = .ok (.iload_n 1, 1) := by decide +kernel
theorem d_S_lay_28 : decode b_S_lay 28 = .ok (.bipush 60, 2) := by decide +kernel
theorem d_S_lay_30 : decode b_S_lay 30 = .ok (.imul, 1) := by decide +kernel
theorem d_S_lay_31 : decode b_S_lay 31 = .ok (.iload 4, 2) := by decide +kernel
theorem d_S_lay_33 : decode b_S_lay 33 = .ok (.iadd, 1) := by decide +kernel
theorem d_S_lay_34 : decode b_S_lay 34 = .ok (.iconst 0, 1) := by decide +kernel
theorem d_S_lay_35 : decode b_S_lay 35 = .ok (.iastore, 1) := by decide +kernel
theorem d_S_lay_36 : decode b_S_lay 36 = .ok (.iinc 4 1, 3) := by decide +kernel
theorem d_S_lay_39 : decode b_S_lay 39 = .ok (.goto (-22), 3) := by decide +kernel
theorem d_S_lay_42 : decode b_S_lay 42 = .ok (.return_, 1) := by decide +kernel
theorem d_S_drop_0 : decode b_S_drop 0 = .ok (.aload_n 0, 1) := by decide +kernel
theorem d_S_drop_1 : decode b_S_drop 1 = .ok (.getfield 9, 3) := by decide +kernel
theorem d_S_drop_4 : decode b_S_drop 4 = .ok (.iload_n 1, 1) := by decide +kernel
theorem d_S_drop_5 : decode b_S_drop 5 = .ok (.iconst (-1), 1) := by decide +kernel
theorem d_S_drop_6 : decode b_S_drop 6 = .ok (.iastore, 1) := by decide +kernel
theorem d_S_drop_7 : decode b_S_drop 7 = .ok (.aload_n 0, 1) := by decide +kernel
theorem d_S_drop_8 : decode b_S_drop 8 = .ok (.getfield 13, 3) := by decide +kernel
theorem d_S_drop_11 : decode b_S_drop 11 = .ok (.iload_n 1, 1) := by decide +kernel
theorem d_S_drop_12 : decode b_S_drop 12 = .ok (.iconst 0, 1) := by decide +kernel
theorem d_S_drop_13 : decode b_S_drop 13 = .ok (.iastore, 1) := by decide +kernel
theorem d_S_drop_14 : decode b_S_drop 14 = .ok (.return_, 1) := by decide +kernel
theorem d_S_hasItems_0 : decode b_S_hasItems 0 = .ok (.iload_n 2, 1) := by decide +kernel
theorem d_S_hasItems_1 : decode b_S_hasItems 1 = .ok (.ifCond .lt 23, 3) := by decide +kernel
theorem d_S_hasItems_4 : decode b_S_hasItems 4 = .ok (.iload_n 3, 1) := by decide +kernel
theorem d_S_hasItems_5 : decode b_S_hasItems 5 = .ok (.ifCond .lt 19, 3) := by decide +kernel
theorem d_S_hasItems_8 : decode b_S_hasItems 8 = .ok (.iload_n 2, 1) := by decide +kernel
theorem d_S_hasItems_9 : decode b_S_hasItems 9 = .ok (.aload_n 0, 1) := by decide +kernel
theorem d_S_hasItems_10 : decode b_S_hasItems 10 = .ok (.getfield 13, 3) := by decide +kernel
theorem d_S_hasItems_13 : decode b_S_hasItems 13 = .ok (.iload_n 1, 1) := by decide +kernel
theorem d_S_hasItems_14 : decode b_S_hasItems 14 = .ok (.iaload, 1) := by decide +kernel
theorem d_S_hasItems_15 : decode b_S_hasItems 15 = .ok (.iload_n 3, 1) := by decide +kernel
theorem d_S_hasItems_16 : decode b_S_hasItems 16 = .ok (.isub, 1) := by decide +kernel
theorem d_S_hasItems_17 : decode b_S_hasItems 17 = .ok (.if_icmp .gt 7, 3) := by decide +kernel
theorem d_S_hasItems_20 : decode b_S_hasItems 20 = .ok (.iconst 1, 1) := by decide +kernel
theorem d_S_hasItems_21 : decode b_S_hasItems 21 = .ok (.goto 4, 3) := by decide +kernel
theorem d_S_hasItems_24 : decode b_S_hasItems 24 = .ok (.iconst 0, 1) := by decide +kernel
theorem d_S_hasItems_25 : decode b_S_hasItems 25 = .ok (.ireturn, 1) := by decide +kernel
theorem d_S_item_0 : decode b_S_item 0 = .ok (.aload_n 0, 1) := by decide +kernel
theorem d_S_item_1 : decode b_S_item 1 = .ok (.getfield 16, 3) := by decide +kernel
theorem d_S_item_4 : decode b_S_item 4 = .ok (.iload_n 1, 1) := by decide +kernel
theorem d_S_item_5 : decode b_S_item 5 = .ok (.bipush 60, 2) := by decide +kernel
theorem d_S_item_7 : decode b_S_item 7 = .ok (.imul, 1) := by decide +kernel
theorem d_S_item_8 : decode b_S_item 8 = .ok (.iload_n 2, 1) := by decide +kernel
theorem d_S_item_9 : decode b_S_item 9 = .ok (.iadd, 1) := by decide +kernel
theorem d_S_item_10 : decode b_S_item 10 = .ok (.iaload, 1) := by decide +kernel
theorem d_S_item_11 : decode b_S_item 11 = .ok (.ireturn, 1) := by decide +kernel
theorem d_S_setItem_0 : decode b_S_setItem 0 = .ok (.iload_n 3, 1) := by decide +kernel
theorem d_S_setItem_1 : decode b_S_setItem 1 = .ok (.istore 4, 2) := by decide +kernel
theorem d_S_setItem_3 : decode b_S_setItem 3 = .ok (.aload_n 0, 1) := by decide +kernel
theorem d_S_setItem_4 : decode b_S_setItem 4 = .ok (.getfield 9, 3) := by decide +kernel
theorem d_S_setItem_7 : decode b_S_setItem 7 = .ok (.iload_n 1, 1) := by decide +kernel
theorem d_S_setItem_8 : decode b_S_setItem 8 = .ok (.iaload, 1) := by decide +kernel
theorem d_S_setItem_9 : decode b_S_setItem 9 = .ok (.ifCond .ne 10, 3) := by decide +kernel
theorem d_S_setItem_12 : decode b_S_setItem 12 = .ok (.iload_n 3, 1) := by decide +kernel
theorem d_S_setItem_13 : decode b_S_setItem 13 = .ok (.i2b, 1) := by decide +kernel
theorem d_S_setItem_14 : decode b_S_setItem 14 = .ok (.istore 4, 2) := by decide +kernel
theorem d_S_setItem_16 : decode b_S_setItem 16 = .ok (.goto 17, 3) := by decide +kernel
theorem d_S_setItem_19 : decode b_S_setItem 19 = .ok (.aload_n 0, 1) := by decide +kernel
theorem d_S_setItem_20 : decode b_S_setItem 20 = .ok (.getfield 9, 3) := by decide +kernel
theorem d_S_setItem_23 : decode b_S_setItem 23 = .ok (.iload_n 1, 1) := by decide +kernel
theorem d_S_setItem_24 : decode b_S_setItem 24 = .ok (.iaload, 1) := by decide +kernel
theorem d_S_setItem_25 : decode b_S_setItem 25 = .ok (.iconst 1, 1) := by decide +kernel
theorem d_S_setItem_26 : decode b_S_setItem 26 = .ok (.if_icmp .ne 7, 3) := by decide +kernel
theorem d_S_setItem_29 : decode b_S_setItem 29 = .ok (.iload_n 3, 1) := by decide +kernel
theorem d_S_setItem_30 : decode b_S_setItem 30 = .ok (.i2s, 1) := by decide +kernel
theorem d_S_setItem_31 : decode b_S_setItem 31 = .ok (.istore 4, 2) := by decide +kernel
theorem d_S_setItem_33 : decode b_S_setItem 33 = .ok (.aload_n 0, 1) := by decide +kernel
theorem d_S_setItem_34 : decode b_S_setItem 34 = .ok (.getfield 16, 3) := by decide +kernel
theorem d_S_setItem_37 : decode b_S_setItem 37 = .ok (.iload_n 1, 1) := by decide +kernel
theorem d_S_setItem_38 : decode b_S_setItem 38 = .ok (.bipush 60, 2) := by decide +kernel
theorem d_S_setItem_40 : decode b_S_setItem 40 = .ok (.imul, 1) := by decide +kernel
theorem d_S_setItem_41 : decode b_S_setItem 41 = .ok (.iload_n 2, 1) := by decide +kernel
theorem d_S_setItem_42 : decode b_S_setItem 42 = .ok (.iadd, 1) := by decide +kernel
theorem d_S_setItem_43 : decode b_S_setItem 43 = .ok (.iload 4, 2) := by decide +kernel
theorem d_S_setItem_45 : decode b_S_setItem 45 = .ok (.iastore, 1) := by decide +kernel
theorem d_S_setItem_46 : decode b_S_setItem 46 = .ok (.return_, 1) := by decide +kernel
theorem d_S_move_0 : decode b_S_move 0 = .ok (.aload_n 0, 1) := by decide +kernel
theorem d_S_move_1 : decode b_S_move 1 = .ok (.getfield 16, 3) := by decide +kernel
theorem d_S_move_4 : decode b_S_move 4 = .ok (.iload_n 1, 1) := by decide +kernel
theorem d_S_move_5 : decode b_S_move 5 = .ok (.bipush 60, 2) := by decide +kernel
theorem d_S_move_7 : decode b_S_move 7 = .ok (.imul, 1) := by decide +kernel
theorem d_S_move_8 : decode b_S_move 8 = .ok (.iload_n 2, 1) := by decide +kernel
theorem d_S_move_9 : decode b_S_move 9 = .ok (.iadd, 1) := by decide +kernel
theorem d_S_move_10 : decode b_S_move 10 = .ok (.aload_n 0, 1) := by decide +kernel
theorem d_S_move_11 : decode b_S_move 11 = .ok (.getfield 16, 3) := by decide +kernel
theorem d_S_move_14 : decode b_S_move 14 = .ok (.iload_n 3, 1) := by decide +kernel
theorem d_S_move_15 : decode b_S_move 15 = .ok (.bipush 60, 2) := by decide +kernel
theorem d_S_move_17 : decode b_S_move 17 = .ok (.imul, 1) := by decide +kernel
theorem d_S_move_18 : decode b_S_move 18 = .ok (.iload 4, 2) := by decide +kernel
theorem d_S_move_20 : decode b_S_move 20 = .ok (.iadd, 1) := by decide +kernel
theorem d_S_move_21 : decode b_S_move 21 = .ok (.iload 5, 2) := by decide +kernel
theorem d_S_move_23 : decode b_S_move 23 = .ok (.invokestatic 19, 3) := by decide +kernel
theorem d_S_move_26 : decode b_S_move 26 = .ok (.return_, 1) := by decide +kernel
theorem d_T_init_0 : decode b_T_init 0 = .ok (.aload_n 0, 1) := by decide +kernel
theorem d_T_init_1 : decode b_T_init 1 = .ok (.invokespecial 5, 3) := by decide +kernel
theorem d_T_init_4 : decode b_T_init 4 = .ok (.aload_n 0, 1) := by decide +kernel
theorem d_T_init_5 : decode b_T_init 5 = .ok (.bipush 24, 2) := by decide +kernel
theorem d_T_init_7 : decode b_T_init 7 = .ok (.newarray .int, 2) := by decide +kernel
theorem d_T_init_9 : decode b_T_init 9 = .ok (.putfield 11, 3) := by decide +kernel
theorem d_T_init_12 : decode b_T_init 12 = .ok (.aload_n 0, 1) := by decide +kernel
theorem d_T_init_13 : decode b_T_init 13 = .ok (.bipush 24, 2) := by decide +kernel
theorem d_T_init_15 : decode b_T_init 15 = .ok (.newarray .int, 2) := by decide +kernel
theorem d_T_init_17 : decode b_T_init 17 = .ok (.putfield 15, 3) := by decide +kernel
theorem d_T_init_20 : decode b_T_init 20 = .ok (.aload_n 0, 1) := by decide +kernel
theorem d_T_init_21 : decode b_T_init 21 = .ok (.bipush 24, 2) := by decide +kernel
theorem d_T_init_23 : decode b_T_init 23 = .ok (.newarray .int, 2) := by decide +kernel
theorem d_T_init_25 : decode b_T_init 25 = .ok (.putfield 18, 3) := by decide +kernel
theorem d_T_init_28 : decode b_T_init 28 = .ok (.aload_n 0, 1) := by decide +kernel
theorem d_T_init_29 : decode b_T_init 29 = .ok (.sipush 192, 3) := by decide +kernel
theorem d_T_init_32 : decode b_T_init 32 = .ok (.newarray .int, 2) := by decide +kernel
theorem d_T_init_34 : decode b_T_init 34 = .ok (.putfield 21, 3) := by decide +kernel
theorem d_T_init_37 : decode b_T_init 37 = .ok (.aload_n 0, 1) := by decide +kernel
theorem d_T_init_38 : decode b_T_init 38 = .ok (.iconst 0, 1) := by decide +kernel
theorem d_T_init_39 : decode b_T_init 39 = .ok (.putfield 24, 3) := by decide +kernel
theorem d_T_init_42 : decode b_T_init 42 = .ok (.aload_n 0, 1) := by decide +kernel
theorem d_T_init_43 : decode b_T_init 43 = .ok (.iconst 0, 1) := by decide +kernel
theorem d_T_init_44 : decode b_T_init 44 = .ok (.putfield 28, 3) := by decide +kernel
theorem d_T_init_47 : decode b_T_init 47 = .ok (.aload_n 0, 1) := by decide +kernel
theorem d_T_init_48 : decode b_T_init 48 = .ok (.bipush 8, 2) := by decide +kernel
theorem d_T_init_50 : decode b_T_init 50 = .ok (.newarray .int, 2) := by decide +kernel
theorem d_T_init_52 : decode b_T_init 52 = .ok (.putfield 31, 3) := by decide +kernel
theorem d_T_init_55 : decode b_T_init 55 = .ok (.aload_n 0, 1) := by decide +kernel
theorem d_T_init_56 : decode b_T_init 56 = .ok (.iconst 0, 1) := by decide +kernel
theorem d_T_init_57 : decode b_T_init 57 = .ok (.putfield 34, 3) := by decide +kernel
theorem d_T_init_60 : decode b_T_init 60 = .ok (.aload_n 0, 1) := by decide +kernel
theorem d_T_init_61 : decode b_T_init 61 = .ok (.bipush 8, 2) := by decide +kernel
theorem d_T_init_63 : decode b_T_init 63 = .ok (.newarray .int, 2) := by decide +kernel
theorem d_T_init_65 : decode b_T_init 65 = .ok (.putfield 37, 3) := by decide +kernel
theorem d_T_init_68 : decode b_T_init 68 = .ok (.aload_n 0, 1) := by decide +kernel
theorem d_T_init_69 : decode b_T_init 69 = .ok (.iconst 0, 1) := by decide +kernel
theorem d_T_init_70 : decode b_T_init 70 = .ok (.putfield 40, 3) := by decide +kernel
theorem d_T_init_73 : decode b_T_init 73 = .ok (.aload_n 0, 1) := by decide +kernel
theorem d_T_init_74 : decode b_T_init 74 = .ok (.bipush 7, 2) := by decide +kernel
theorem d_T_init_76 : decode b_T_init 76 = .ok (.newarray .int, 2) := by decide +kernel
theorem d_T_init_78 : decode b_T_init 78 = .ok (.putfield 43, 3) := by decide +kernel
theorem d_T_init_81 : decode b_T_init 81 = .ok (.aload_n 0, 1) := by decide +kernel
theorem d_T_init_82 : decode b_T_init 82 = .ok (.iconst 0, 1) := by decide +kernel
theorem d_T_init_83 : decode b_T_init 83 = .ok (.putfield 46, 3) := by decide +kernel
theorem d_T_init_86 : decode b_T_init 86 = .ok (.aload_n 0, 1) := by decide +kernel
theorem d_T_init_87 : decode b_T_init 87 = .ok (.bipush 24, 2) := by decide +kernel
theorem d_T_init_89 : decode b_T_init 89 = .ok (.newarray .int, 2) := by decide +kernel
theorem d_T_init_91 : decode b_T_init 91 = .ok (.putfield 49, 3) := by decide +kernel
theorem d_T_init_94 : decode b_T_init 94 = .ok (.aload_n 0, 1) := by decide +kernel
theorem d_T_init_95 : decode b_T_init 95 = .ok (.bipush 24, 2) := by decide +kernel
theorem d_T_init_97 : decode b_T_init 97 = .ok (.newarray .int, 2) := by decide +kernel
theorem d_T_init_99 : decode b_T_init 99 = .ok (.putfield 52, 3) := by decide +kernel
theorem d_T_init_102 : decode b_T_init 102 = .ok (.aload_n 0, 1) := by decide +kernel
theorem d_T_init_103 : decode b_T_init 103 = .ok (.bipush 24, 2) := by decide +kernel
theorem d_T_init_105 : decode b_T_init 105 = .ok (.newarray .int, 2) := by decide +kernel
theorem d_T_init_107 : decode b_T_init 107 = .ok (.putfield 55, 3) := by decide +kernel
theorem d_T_init_110 : decode b_T_init 110 = .ok (.iconst 0, 1) := by decide +kernel
theorem d_T_init_111 : decode b_T_init 111 = .ok (.istore_n 1, 1) := by decide +kernel
theorem d_T_init_112 : decode b_T_init 112 = .ok (.iload_n 1, 1) := by decide +kernel
theorem d_T_init_113 : decode b_T_init 113 = .ok (.bipush 8, 2) := by decide +kernel
theorem d_T_init_115 : decode b_T_init 115 = .ok (.if_icmp .ge 25, 3) := by decide +kernel
theorem d_T_init_118 : decode b_T_init 118 = .ok (.aload_n 0, 1) := by decide +kernel
theorem d_T_init_119 : decode b_T_init 119 = .ok (.getfield 15, 3) := by decide +kernel
theorem d_T_init_122 : decode b_T_init 122 = .ok (.iload_n 1, 1) := by decide +kernel
theorem d_T_init_123 : decode b_T_init 123 = .ok (.iconst 1, 1) := by decide +kernel
theorem d_T_init_124 : decode b_T_init 124 = .ok (.iload_n 1, 1) := by decide +kernel
theorem d_T_init_125 : decode b_T_init 125 = .ok (.ishl, 1) := by decide +kernel
theorem d_T_init_126 : decode b_T_init 126 = .ok (.iastore, 1) := by decide +kernel
theorem d_T_init_127 : decode b_T_init 127 = .ok (.aload_n 0, 1) := by decide +kernel
theorem d_T_init_128 : decode b_T_init 128 = .ok (.getfield 52, 3) := by decide +kernel
theorem d_T_init_131 : decode b_T_init 131 = .ok (.iload_n 1, 1) := by decide +kernel
theorem d_T_init_132 : decode b_T_init 132 = .ok (.iconst 1, 1) := by decide +kernel
theorem d_T_init_133 : decode b_T_init 133 = .ok (.iastore, 1) := by decide +kernel
theorem d_T_init_134 : decode b_T_init 134 = .ok (.iinc 1 1, 3) := by decide +kernel
theorem d_T_init_137 : decode b_T_init 137 = .ok (.goto (-25), 3) := by decide +kernel
theorem d_T_init_140 : decode b_T_init 140 = .ok (.return_, 1) := by decide +kernel
theorem d_T_add_0 : decode b_T_add 0 = .ok (.aload_n 0, 1) := by decide +kernel
theorem d_T_add_1 : decode b_T_add 1 = .ok (.getfield 18, 3) := by decide +kernel
theorem d_T_add_4 : decode b_T_add 4 = .ok (.iload_n 1, 1) := by decide +kernel
theorem d_T_add_5 : decode b_T_add 5 = .ok (.iaload, 1) := by decide +kernel
theorem d_T_add_6 : decode b_T_add 6 = .ok (.bipush 8, 2) := by decide +kernel
theorem d_T_add_8 : decode b_T_add 8 = .ok (.if_icmp .ge 45, 3) := by decide +kernel
theorem d_T_add_11 : decode b_T_add 11 = .ok (.aload_n 0, 1) := by decide +kernel
theorem d_T_add_12 : decode b_T_add 12 = .ok (.getfield 21, 3) := by decide +kernel
theorem d_T_add_15 : decode b_T_add 15 = .ok (.iload_n 1, 1) := by decide +kernel
theorem d_T_add_16 : decode b_T_add 16 = .ok (.bipush 8, 2) := by decide +kernel
theorem d_T_add_18 : decode b_T_add 18 = .ok (.imul, 1) := by decide +kernel
theorem d_T_add_19 : decode b_T_add 19 = .ok (.aload_n 0, 1) := by decide +kernel
theorem d_T_add_20 : decode b_T_add 20 = .ok (.getfield 18, 3) := by decide +kernel
theorem d_T_add_23 : decode b_T_add 23 = .ok (.iload_n 1, 1) := by decide +kernel
theorem d_T_add_24 : decode b_T_add 24 = .ok (.iaload, 1) := by decide +kernel
theorem d_T_add_25 : decode b_T_add 25 = .ok (.iadd, 1) := by decide +kernel
theorem d_T_add_26 : decode b_T_add 26 = .ok (.iload_n 2, 1) := by decide +kernel
theorem d_T_add_27 : decode b_T_add 27 = .ok (.iastore, 1) := by decide +kernel
theorem d_T_add_28 : decode b_T_add 28 = .ok (.aload_n 0, 1) := by decide +kernel
theorem d_T_add_29 : decode b_T_add 29 = .ok (.getfield 18, 3) := by decide +kernel
theorem d_T_add_32 : decode b_T_add 32 = .ok (.iload_n 1, 1) := by decide +kernel
theorem d_T_add_33 : decode b_T_add 33 = .ok (.dup2, 1) := by decide +kernel
theorem d_T_add_34 : decode b_T_add 34 = .ok (.iaload, 1) := by decide +kernel
theorem d_T_add_35 : decode b_T_add 35 = .ok (.iconst 1, 1) := by decide +kernel
theorem d_T_add_36 : decode b_T_add 36 = .ok (.iadd, 1) := by decide +kernel
theorem d_T_add_37 : decode b_T_add 37 = .ok (.iastore, 1) := by decide +kernel
theorem d_T_add_38 : decode b_T_add 38 = .ok (.aload_n 0, 1) := by decide +kernel
theorem d_T_add_39 : decode b_T_add 39 = .ok (.getfield 15, 3) := by decide +kernel
theorem d_T_add_42 : decode b_T_add 42 = .ok (.iload_n 1, 1) := by decide +kernel
theorem d_T_add_43 : decode b_T_add 43 = .ok (.dup2, 1) := by decide +kernel
theorem d_T_add_44 : decode b_T_add 44 = .ok (.iaload, 1) := by decide +kernel
theorem d_T_add_45 : decode b_T_add 45 = .ok (.aload_n 0, 1) := by decide +kernel
theorem d_T_add_46 : decode b_T_add 46 = .ok (.getfield 15, 3) := by decide +kernel
theorem d_T_add_49 : decode b_T_add 49 = .ok (.iload_n 2, 1) := by decide +kernel
theorem d_T_add_50 : decode b_T_add 50 = .ok (.iaload, 1) := by decide +kernel
theorem d_T_add_51 : decode b_T_add 51 = .ok (.ior, 1) := by decide +kernel
theorem d_T_add_52 : decode b_T_add 52 = .ok (.iastore, 1) := by decide +kernel
theorem d_T_add_53 : decode b_T_add 53 = .ok (.return_, 1) := by decide +kernel
theorem d_T_clear_0 : decode b_T_clear 0 = .ok (.bipush 8, 2) := by decide +kernel
theorem d_T_clear_2 : decode b_T_clear 2 = .ok (.istore_n 1, 1) := by decide +kernel
theorem d_T_clear_3 : decode b_T_clear 3 = .ok (.iload_n 1, 1) := by decide +kernel
theorem d_T_clear_4 : decode b_T_clear 4 = .ok (.bipush 24, 2) := by decide +kernel
theorem d_T_clear_6 : decode b_T_clear 6 = .ok (.if_icmp .ge 23, 3) := by decide +kernel
theorem d_T_clear_9 : decode b_T_clear 9 = .ok (.aload_n 0, 1) := by decide +kernel
theorem d_T_clear_10 : decode b_T_clear 10 = .ok (.getfield 18, 3) := by decide +kernel
theorem d_T_clear_13 : decode b_T_clear 13 = .ok (.iload_n 1, 1) := by decide +kernel
theorem d_T_clear_14 : decode b_T_clear 14 = .ok (.iconst 0, 1) := by decide +kernel
theorem d_T_clear_15 : decode b_T_clear 15 = .ok (.iastore, 1) := by decide +kernel
theorem d_T_clear_16 : decode b_T_clear 16 = .ok (.aload_n 0, 1) := by decide +kernel
theorem d_T_clear_17 : decode b_T_clear 17 = .ok (.getfield 15, 3) := by decide +kernel
theorem d_T_clear_20 : decode b_T_clear 20 = .ok (.iload_n 1, 1) := by decide +kernel
theorem d_T_clear_21 : decode b_T_clear 21 = .ok (.iconst 0, 1) := by decide +kernel
theorem d_T_clear_22 : decode b_T_clear 22 = .ok (.iastore, 1) := by decide +kernel
theorem d_T_clear_23 : decode b_T_clear 23 = .ok (.iinc 1 1, 3) := by decide +kernel
theorem d_T_clear_26 : decode b_T_clear 26 = .ok (.goto (-23), 3) := by decide +kernel
theorem d_T_clear_29 : decode b_T_clear 29 = .ok (.aload_n 0, 1) := by decide +kernel
theorem d_T_clear_30 : decode b_T_clear 30 = .ok (.iconst 0, 1) := by decide +kernel
theorem d_T_clear_31 : decode b_T_clear 31 = .ok (.putfield 24, 3) := by decide +kernel
theorem d_T_clear_34 : decode b_T_clear 34 = .ok (.aload_n 0, 1) := by decide +kernel
theorem d_T_clear_35 : decode b_T_clear 35 = .ok (.iconst 0, 1) := by decide +kernel
theorem d_T_clear_36 : decode b_T_clear 36 = .ok (.putfield 28, 3) := by decide +kernel
theorem d_T_clear_39 : decode b_T_clear 39 = .ok (.return_, 1) := by decide +kernel
theorem d_T_plant_0 : decode b_T_plant 0 = .ok (.aload_n 0, 1) := by decide +kernel
theorem d_T_plant_1 : decode b_T_plant 1 = .ok (.invokevirtual 58, 3) := by decide +kernel
theorem d_T_plant_4 : decode b_T_plant 4 = .ok (.iload_n 1, 1) := by decide +kernel
theorem d_T_plant_5 : decode b_T_plant 5 = .ok (.iconst 2, 1) := by decide +kernel
theorem d_T_plant_6 : decode b_T_plant 6 = .ok (.if_icmp .ge 4, 3) := by decide +kernel
theorem d_T_plant_9 : decode b_T_plant 9 = .ok (.return_, 1) := by decide +kernel
theorem d_T_plant_10 : decode b_T_plant 10 = .ok (.aload_n 0, 1) := by decide +kernel
theorem d_T_plant_11 : decode b_T_plant 11 = .ok (.bipush 8, 2) := by decide +kernel
theorem d_T_plant_13 : decode b_T_plant 13 = .ok (.putfield 24, 3) := by decide +kernel
theorem d_T_plant_16 : decode b_T_plant 16 = .ok (.aload_n 0, 1) := by decide +kernel
theorem d_T_plant_17 : decode b_T_plant 17 = .ok (.iconst 1, 1) := by decide +kernel
theorem d_T_plant_18 : decode b_T_plant 18 = .ok (.putfield 28, 3) := by decide +kernel
theorem d_T_plant_21 : decode b_T_plant 21 = .ok (.aload_n 0, 1) := by decide +kernel
theorem d_T_plant_22 : decode b_T_plant 22 = .ok (.getfield 11, 3) := by decide +kernel
theorem d_T_plant_25 : decode b_T_plant 25 = .ok (.aload_n 0, 1) := by decide +kernel
theorem d_T_plant_26 : decode b_T_plant 26 = .ok (.getfield 24, 3) := by decide +kernel
theorem d_T_plant_29 : decode b_T_plant 29 = .ok (.iconst 0, 1) := by decide +kernel
theorem d_T_plant_30 : decode b_T_plant 30 = .ok (.iastore, 1) := by decide +kernel
theorem d_T_plant_31 : decode b_T_plant 31 = .ok (.iconst 0, 1) := by decide +kernel
theorem d_T_plant_32 : decode b_T_plant 32 = .ok (.istore_n 2, 1) := by decide +kernel
theorem d_T_plant_33 : decode b_T_plant 33 = .ok (.iload_n 2, 1) := by decide +kernel
theorem d_T_plant_34 : decode b_T_plant 34 = .ok (.iload_n 1, 1) := by decide +kernel
theorem d_T_plant_35 : decode b_T_plant 35 = .ok (.if_icmp .ge 18, 3) := by decide +kernel
theorem d_T_plant_38 : decode b_T_plant 38 = .ok (.aload_n 0, 1) := by decide +kernel
theorem d_T_plant_39 : decode b_T_plant 39 = .ok (.aload_n 0, 1) := by decide +kernel
theorem d_T_plant_40 : decode b_T_plant 40 = .ok (.getfield 24, 3) := by decide +kernel
theorem d_T_plant_43 : decode b_T_plant 43 = .ok (.iload_n 2, 1) := by decide +kernel
theorem d_T_plant_44 : decode b_T_plant 44 = .ok (.invokevirtual 61, 3) := by decide +kernel
theorem d_T_plant_47 : decode b_T_plant 47 = .ok (.iinc 2 1, 3) := by decide +kernel
theorem d_T_plant_50 : decode b_T_plant 50 = .ok (.goto (-17), 3) := by decide +kernel
theorem d_T_plant_53 : decode b_T_plant 53 = .ok (.return_, 1) := by decide +kernel
theorem d_T_least_0 : decode b_T_least 0 = .ok (.aload_n 0, 1) := by decide +kernel
theorem d_T_least_1 : decode b_T_least 1 = .ok (.getfield 15, 3) := by decide +kernel
theorem d_T_least_4 : decode b_T_least 4 = .ok (.iload_n 1, 1) := by decide +kernel
theorem d_T_least_5 : decode b_T_least 5 = .ok (.iaload, 1) := by decide +kernel
theorem d_T_least_6 : decode b_T_least 6 = .ok (.aload_n 0, 1) := by decide +kernel
theorem d_T_least_7 : decode b_T_least 7 = .ok (.getfield 15, 3) := by decide +kernel
theorem d_T_least_10 : decode b_T_least 10 = .ok (.iload_n 1, 1) := by decide +kernel
theorem d_T_least_11 : decode b_T_least 11 = .ok (.iaload, 1) := by decide +kernel
theorem d_T_least_12 : decode b_T_least 12 = .ok (.ineg, 1) := by decide +kernel
theorem d_T_least_13 : decode b_T_least 13 = .ok (.iand, 1) := by decide +kernel
theorem d_T_least_14 : decode b_T_least 14 = .ok (.ireturn, 1) := by decide +kernel
theorem d_T_part_0 : decode b_T_part 0 = .ok (.iload_n 2, 1) := by decide +kernel
theorem d_T_part_1 : decode b_T_part 1 = .ok (.ifCond .lt 23, 3) := by decide +kernel
theorem d_T_part_4 : decode b_T_part 4 = .ok (.iload_n 2, 1) := by decide +kernel
theorem d_T_part_5 : decode b_T_part 5 = .ok (.bipush 8, 2) := by decide +kernel
theorem d_T_part_7 : decode b_T_part 7 = .ok (.if_icmp .ge 17, 3) := by decide +kernel
theorem d_T_part_10 : decode b_T_part 10 = .ok (.aload_n 0, 1) := by decide +kernel
theorem d_T_part_11 : decode b_T_part 11 = .ok (.getfield 21, 3) := by decide +kernel
theorem d_T_part_14 : decode b_T_part 14 = .ok (.iload_n 1, 1) := by decide +kernel
theorem d_T_part_15 : decode b_T_part 15 = .ok (.bipush 8, 2) := by decide +kernel
theorem d_T_part_17 : decode b_T_part 17 = .ok (.imul, 1) := by decide +kernel
theorem d_T_part_18 : decode b_T_part 18 = .ok (.iload_n 2, 1) := by decide +kernel
theorem d_T_part_19 : decode b_T_part 19 = .ok (.iadd, 1) := by decide +kernel
theorem d_T_part_20 : decode b_T_part 20 = .ok (.iaload, 1) := by decide +kernel
theorem d_T_part_21 : decode b_T_part 21 = .ok (.goto 4, 3) := by decide +kernel
theorem d_T_part_24 : decode b_T_part 24 = .ok (.iconst 0, 1) := by decide +kernel
theorem d_T_part_25 : decode b_T_part 25 = .ok (.ireturn, 1) := by decide +kernel
theorem d_T_setPart_0 : decode b_T_setPart 0 = .ok (.iload_n 2, 1) := by decide +kernel
theorem d_T_setPart_1 : decode b_T_setPart 1 = .ok (.ifCond .lt 21, 3) := by decide +kernel
theorem d_T_setPart_4 : decode b_T_setPart 4 = .ok (.iload_n 2, 1) := by decide +kernel
theorem d_T_setPart_5 : decode b_T_setPart 5 = .ok (.bipush 8, 2) := by decide +kernel
theorem d_T_setPart_7 : decode b_T_setPart 7 = .ok (.if_icmp .ge 15, 3) := by decide +kernel
theorem d_T_setPart_10 : decode b_T_setPart 10 = .ok (.aload_n 0, 1) := by decide +kernel
theorem d_T_setPart_11 : decode b_T_setPart 11 = .ok (.getfield 21, 3) := by decide +kernel
theorem d_T_setPart_14 : decode b_T_setPart 14 = .ok (.iload_n 1, 1) := by decide +kernel
theorem d_T_setPart_15 : decode b_T_setPart 15 = .ok (.bipush 8, 2) := by decide +kernel
theorem d_T_setPart_17 : decode b_T_setPart 17 = .ok (.imul, 1) := by decide +kernel
theorem d_T_setPart_18 : decode b_T_setPart 18 = .ok (.iload_n 2, 1) := by decide +kernel
theorem d_T_setPart_19 : decode b_T_setPart 19 = .ok (.iadd, 1) := by decide +kernel
theorem d_T_setPart_20 : decode b_T_setPart 20 = .ok (.iload_n 3, 1) := by decide +kernel
theorem d_T_setPart_21 : decode b_T_setPart 21 = .ok (.iastore, 1) := by decide +kernel
theorem d_T_setPart_22 : decode b_T_setPart 22 = .ok (.return_, 1) := by decide +kernel
theorem d_T_turn_0 : decode b_T_turn 0 = .ok (.iload_n 1, 1) := by decide +kernel
theorem d_T_turn_1 : decode b_T_turn 1 = .ok (.istore_n 3, 1) := by decide +kernel
theorem d_T_turn_2 : decode b_T_turn 2 = .ok (.iload_n 2, 1) := by decide +kernel
theorem d_T_turn_3 : decode b_T_turn 3 = .ok (.istore 4, 2) := by decide +kernel
theorem d_T_turn_5 : decode b_T_turn 5 = .ok (.iload_n 3, 1) := by decide +kernel
theorem d_T_turn_6 : decode b_T_turn 6 = .ok (.iload 4, 2) := by decide +kernel
theorem d_T_turn_8 : decode b_T_turn 8 = .ok (.if_icmp .ge 30, 3) := by decide +kernel
theorem d_T_turn_11 : decode b_T_turn 11 = .ok (.aload_n 0, 1) := by decide +kernel
theorem d_T_turn_12 : decode b_T_turn 12 = .ok (.iload_n 3, 1) := by decide +kernel
theorem d_T_turn_13 : decode b_T_turn 13 = .ok (.iaload, 1) := by decide +kernel
theorem d_T_turn_14 : decode b_T_turn 14 = .ok (.istore 5, 2) := by decide +kernel
theorem d_T_turn_16 : decode b_T_turn 16 = .ok (.aload_n 0, 1) := by decide +kernel
theorem d_T_turn_17 : decode b_T_turn 17 = .ok (.iload_n 3, 1) := by decide +kernel
theorem d_T_turn_18 : decode b_T_turn 18 = .ok (.aload_n 0, 1) := by decide +kernel
theorem d_T_turn_19 : decode b_T_turn 19 = .ok (.iload 4, 2) := by decide +kernel
theorem d_T_turn_21 : decode b_T_turn 21 = .ok (.iaload, 1) := by decide +kernel
theorem d_T_turn_22 : decode b_T_turn 22 = .ok (.iastore, 1) := by decide +kernel
theorem d_T_turn_23 : decode b_T_turn 23 = .ok (.aload_n 0, 1) := by decide +kernel
theorem d_T_turn_24 : decode b_T_turn 24 = .ok (.iload 4, 2) := by decide +kernel
theorem d_T_turn_26 : decode b_T_turn 26 = .ok (.iload 5, 2) := by decide +kernel
theorem d_T_turn_28 : decode b_T_turn 28 = .ok (.iastore, 1) := by decide +kernel
theorem d_T_turn_29 : decode b_T_turn 29 = .ok (.iinc 3 1, 3) := by decide +kernel
theorem d_T_turn_32 : decode b_T_turn 32 = .ok (.iinc 4 (-1), 3) := by decide +kernel
theorem d_T_turn_35 : decode b_T_turn 35 = .ok (.goto (-30), 3) := by decide +kernel
theorem d_T_turn_38 : decode b_T_turn 38 = .ok (.return_, 1) := by decide +kernel
theorem d_T_order_0 : decode b_T_order 0 = .ok (.aload_n 0, 1) := by decide +kernel
theorem d_T_order_1 : decode b_T_order 1 = .ok (.getfield 18, 3) := by decide +kernel
theorem d_T_order_4 : decode b_T_order 4 = .ok (.iload_n 1, 1) := by decide +kernel
theorem d_T_order_5 : decode b_T_order 5 = .ok (.iaload, 1) := by decide +kernel
theorem d_T_order_6 : decode b_T_order 6 = .ok (.iconst 1, 1) := by decide +kernel
theorem d_T_order_7 : decode b_T_order 7 = .ok (.isub, 1) := by decide +kernel
theorem d_T_order_8 : decode b_T_order 8 = .ok (.istore_n 2, 1) := by decide +kernel
theorem d_T_order_9 : decode b_T_order 9 = .ok (.aload_n 0, 1) := by decide +kernel
theorem d_T_order_10 : decode b_T_order 10 = .ok (.getfield 11, 3) := by decide +kernel
theorem d_T_order_13 : decode b_T_order 13 = .ok (.iload_n 1, 1) := by decide +kernel
theorem d_T_order_14 : decode b_T_order 14 = .ok (.iaload, 1) := by decide +kernel
theorem d_T_order_15 : decode b_T_order 15 = .ok (.iconst 1, 1) := by decide +kernel
theorem d_T_order_16 : decode b_T_order 16 = .ok (.if_icmp .ne 44, 3) := by decide +kernel
theorem d_T_order_19 : decode b_T_order 19 = .ok (.aload_n 0, 1) := by decide +kernel
theorem d_T_order_20 : decode b_T_order 20 = .ok (.aload_n 0, 1) := by decide +kernel
theorem d_T_order_21 : decode b_T_order 21 = .ok (.iload_n 1, 1) := by decide +kernel
theorem d_T_order_22 : decode b_T_order 22 = .ok (.iconst 0, 1) := by decide +kernel
theorem d_T_order_23 : decode b_T_order 23 = .ok (.invokevirtual 73, 3) := by decide +kernel
theorem d_T_order_26 : decode b_T_order 26 = .ok (.invokevirtual 77, 3) := by decide +kernel
theorem d_T_order_29 : decode b_T_order 29 = .ok (.aload_n 0, 1) := by decide +kernel
theorem d_T_order_30 : decode b_T_order 30 = .ok (.aload_n 0, 1) := by decide +kernel
theorem d_T_order_31 : decode b_T_order 31 = .ok (.iload_n 1, 1) := by decide +kernel
theorem d_T_order_32 : decode b_T_order 32 = .ok (.iload_n 2, 1) := by decide +kernel
theorem d_T_order_33 : decode b_T_order 33 = .ok (.invokevirtual 73, 3) := by decide +kernel
theorem d_T_order_36 : decode b_T_order 36 = .ok (.invokevirtual 77, 3) := by decide +kernel
theorem d_T_order_39 : decode b_T_order 39 = .ok (.if_icmp .le 20, 3) := by decide +kernel
theorem d_T_order_42 : decode b_T_order 42 = .ok (.aload_n 0, 1) := by decide +kernel
theorem d_T_order_43 : decode b_T_order 43 = .ok (.getfield 21, 3) := by decide +kernel
theorem d_T_order_46 : decode b_T_order 46 = .ok (.iload_n 1, 1) := by decide +kernel
theorem d_T_order_47 : decode b_T_order 47 = .ok (.bipush 8, 2) := by decide +kernel
theorem d_T_order_49 : decode b_T_order 49 = .ok (.imul, 1) := by decide +kernel
theorem d_T_order_50 : decode b_T_order 50 = .ok (.iload_n 1, 1) := by decide +kernel
theorem d_T_order_51 : decode b_T_order 51 = .ok (.bipush 8, 2) := by decide +kernel
theorem d_T_order_53 : decode b_T_order 53 = .ok (.imul, 1) := by decide +kernel
theorem d_T_order_54 : decode b_T_order 54 = .ok (.iload_n 2, 1) := by decide +kernel
theorem d_T_order_55 : decode b_T_order 55 = .ok (.iadd, 1) := by decide +kernel
theorem d_T_order_56 : decode b_T_order 56 = .ok (.invokestatic 81, 3) := by decide +kernel
theorem d_T_order_59 : decode b_T_order 59 = .ok (.return_, 1) := by decide +kernel
theorem d_T_order_60 : decode b_T_order 60 = .ok (.iconst 1, 1) := by decide +kernel
theorem d_T_order_61 : decode b_T_order 61 = .ok (.istore_n 3, 1) := by decide +kernel
theorem d_T_order_62 : decode b_T_order 62 = .ok (.iload_n 3, 1) := by decide +kernel
theorem d_T_order_63 : decode b_T_order 63 = .ok (.iload_n 2, 1) := by decide +kernel
theorem d_T_order_64 : decode b_T_order 64 = .ok (.if_icmp .gt 78, 3) := by decide +kernel
theorem d_T_order_67 : decode b_T_order 67 = .ok (.aload_n 0, 1) := by decide +kernel
theorem d_T_order_68 : decode b_T_order 68 = .ok (.iload_n 1, 1) := by decide +kernel
theorem d_T_order_69 : decode b_T_order 69 = .ok (.iload_n 3, 1) := by decide +kernel
theorem d_T_order_70 : decode b_T_order 70 = .ok (.invokevirtual 73, 3) := by decide +kernel
theorem d_T_order_73 : decode b_T_order 73 = .ok (.istore 4, 2) := by decide +kernel
theorem d_T_order_75 : decode b_T_order 75 = .ok (.iload_n 3, 1) := by decide +kernel
theorem d_T_order_76 : decode b_T_order 76 = .ok (.istore 5, 2) := by decide +kernel
theorem d_T_order_78 : decode b_T_order 78 = .ok (.iload 5, 2) := by decide +kernel
theorem d_T_order_80 : decode b_T_order 80 = .ok (.ifCond .le 47, 3) := by decide +kernel
theorem d_T_order_83 : decode b_T_order 83 = .ok (.aload_n 0, 1) := by decide +kernel
theorem d_T_order_84 : decode b_T_order 84 = .ok (.aload_n 0, 1) := by decide +kernel
theorem d_T_order_85 : decode b_T_order 85 = .ok (.iload_n 1, 1) := by decide +kernel
theorem d_T_order_86 : decode b_T_order 86 = .ok (.iload 5, 2) := by decide +kernel
theorem d_T_order_88 : decode b_T_order 88 = .ok (.iconst 1, 1) := by decide +kernel
theorem d_T_order_89 : decode b_T_order 89 = .ok (.isub, 1) := by decide +kernel
theorem d_T_order_90 : decode b_T_order 90 = .ok (.invokevirtual 73, 3) := by decide +kernel
theorem d_T_order_93 : decode b_T_order 93 = .ok (.invokevirtual 77, 3) := by decide +kernel
theorem d_T_order_96 : decode b_T_order 96 = .ok (.aload_n 0, 1) := by decide +kernel
theorem d_T_order_97 : decode b_T_order 97 = .ok (.iload 4, 2) := by decide +kernel
theorem d_T_order_99 : decode b_T_order 99 = .ok (.invokevirtual 77, 3) := by decide +kernel
theorem d_T_order_102 : decode b_T_order 102 = .ok (.if_icmp .le 25, 3) := by decide +kernel
theorem d_T_order_105 : decode b_T_order 105 = .ok (.aload_n 0, 1) := by decide +kernel
theorem d_T_order_106 : decode b_T_order 106 = .ok (.iload_n 1, 1) := by decide +kernel
theorem d_T_order_107 : decode b_T_order 107 = .ok (.iload 5, 2) := by decide +kernel
theorem d_T_order_109 : decode b_T_order 109 = .ok (.aload_n 0, 1) := by decide +kernel
theorem d_T_order_110 : decode b_T_order 110 = .ok (.iload_n 1, 1) := by decide +kernel
theorem d_T_order_111 : decode b_T_order 111 = .ok (.iload 5, 2) := by decide +kernel
theorem d_T_order_113 : decode b_T_order 113 = .ok (.iconst 1, 1) := by decide +kernel
theorem d_T_order_114 : decode b_T_order 114 = .ok (.isub, 1) := by decide +kernel
theorem d_T_order_115 : decode b_T_order 115 = .ok (.invokevirtual 73, 3) := by decide +kernel
theorem d_T_order_118 : decode b_T_order 118 = .ok (.invokevirtual 85, 3) := by decide +kernel
theorem d_T_order_121 : decode b_T_order 121 = .ok (.iinc 5 (-1), 3) := by decide +kernel
theorem d_T_order_124 : decode b_T_order 124 = .ok (.goto (-46), 3) := by decide +kernel
theorem d_T_order_127 : decode b_T_order 127 = .ok (.aload_n 0, 1) := by decide +kernel
theorem d_T_order_128 : decode b_T_order 128 = .ok (.iload_n 1, 1) := by decide +kernel
theorem d_T_order_129 : decode b_T_order 129 = .ok (.iload 5, 2) := by decide +kernel
theorem d_T_order_131 : decode b_T_order 131 = .ok (.iload 4, 2) := by decide +kernel
theorem d_T_order_133 : decode b_T_order 133 = .ok (.invokevirtual 85, 3) := by decide +kernel
theorem d_T_order_136 : decode b_T_order 136 = .ok (.iinc 3 1, 3) := by decide +kernel
theorem d_T_order_139 : decode b_T_order 139 = .ok (.goto (-77), 3) := by decide +kernel
theorem d_T_order_142 : decode b_T_order 142 = .ok (.return_, 1) := by decide +kernel
theorem d_T_place_0 : decode b_T_place 0 = .ok (.iload_n 1, 1) := by decide +kernel
theorem d_T_place_1 : decode b_T_place 1 = .ok (.bipush 8, 2) := by decide +kernel
theorem d_T_place_3 : decode b_T_place 3 = .ok (.if_icmp .ge 5, 3) := by decide +kernel
theorem d_T_place_6 : decode b_T_place 6 = .ok (.iload_n 1, 1) := by decide +kernel
theorem d_T_place_7 : decode b_T_place 7 = .ok (.ireturn, 1) := by decide +kernel
theorem d_T_place_8 : decode b_T_place 8 = .ok (.iload_n 3, 1) := by decide +kernel
theorem d_T_place_9 : decode b_T_place 9 = .ok (.bipush 8, 2) := by decide +kernel
theorem d_T_place_11 : decode b_T_place 11 = .ok (.if_icmp .ge 12, 3) := by decide +kernel
theorem d_T_place_14 : decode b_T_place 14 = .ok (.aload_n 2, 1) := by decide +kernel
theorem d_T_place_15 : decode b_T_place 15 = .ok (.getfield 28, 3) := by decide +kernel
theorem d_T_place_18 : decode b_T_place 18 = .ok (.bipush 7, 2) := by decide +kernel
theorem d_T_place_20 : decode b_T_place 20 = .ok (.if_icmp .lt 5, 3) := by decide +kernel
theorem d_T_place_23 : decode b_T_place 23 = .ok (.iconst 0, 1) := by decide +kernel
theorem d_T_place_24 : decode b_T_place 24 = .ok (.ireturn, 1) := by decide +kernel
theorem d_T_place_25 : decode b_T_place 25 = .ok (.bipush 8, 2) := by decide +kernel
theorem d_T_place_27 : decode b_T_place 27 = .ok (.aload_n 2, 1) := by decide +kernel
theorem d_T_place_28 : decode b_T_place 28 = .ok (.getfield 28, 3) := by decide +kernel
theorem d_T_place_31 : decode b_T_place 31 = .ok (.iadd, 1) := by decide +kernel
theorem d_T_place_32 : decode b_T_place 32 = .ok (.istore 4, 2) := by decide +kernel
theorem d_T_place_34 : decode b_T_place 34 = .ok (.aload_n 2, 1) := by decide +kernel
theorem d_T_place_35 : decode b_T_place 35 = .ok (.dup, 1) := by decide +kernel
theorem d_T_place_36 : decode b_T_place 36 = .ok (.getfield 28, 3) := by decide +kernel
theorem d_T_place_39 : decode b_T_place 39 = .ok (.iconst 1, 1) := by decide +kernel
theorem d_T_place_40 : decode b_T_place 40 = .ok (.iadd, 1) := by decide +kernel
theorem d_T_place_41 : decode b_T_place 41 = .ok (.putfield 28, 3) := by decide +kernel
theorem d_T_place_44 : decode b_T_place 44 = .ok (.aload_n 2, 1) := by decide +kernel
theorem d_T_place_45 : decode b_T_place 45 = .ok (.getfield 11, 3) := by decide +kernel
theorem d_T_place_48 : decode b_T_place 48 = .ok (.iload 4, 2) := by decide +kernel
theorem d_T_place_50 : decode b_T_place 50 = .ok (.aload_n 0, 1) := by decide +kernel
theorem d_T_place_51 : decode b_T_place 51 = .ok (.getfield 11, 3) := by decide +kernel
theorem d_T_place_54 : decode b_T_place 54 = .ok (.iload_n 1, 1) := by decide +kernel
theorem d_T_place_55 : decode b_T_place 55 = .ok (.iaload, 1) := by decide +kernel
theorem d_T_place_56 : decode b_T_place 56 = .ok (.iastore, 1) := by decide +kernel
theorem d_T_place_57 : decode b_T_place 57 = .ok (.aload_n 0, 1) := by decide +kernel
theorem d_T_place_58 : decode b_T_place 58 = .ok (.iload_n 1, 1) := by decide +kernel
theorem d_T_place_59 : decode b_T_place 59 = .ok (.invokevirtual 69, 3) := by decide +kernel
theorem d_T_place_62 : decode b_T_place 62 = .ok (.iconst 0, 1) := by decide +kernel
theorem d_T_place_63 : decode b_T_place 63 = .ok (.istore 5, 2) := by decide +kernel
theorem d_T_place_65 : decode b_T_place 65 = .ok (.iload 5, 2) := by decide +kernel
theorem d_T_place_67 : decode b_T_place 67 = .ok (.aload_n 0, 1) := by decide +kernel
theorem d_T_place_68 : decode b_T_place 68 = .ok (.getfield 18, 3) := by decide +kernel
theorem d_T_place_71 : decode b_T_place 71 = .ok (.iload_n 1, 1) := by decide +kernel
theorem d_T_place_72 : decode b_T_place 72 = .ok (.iaload, 1) := by decide +kernel
theorem d_T_place_73 : decode b_T_place 73 = .ok (.if_icmp .ge 30, 3) := by decide +kernel
theorem d_T_place_76 : decode b_T_place 76 = .ok (.aload_n 2, 1) := by decide +kernel
theorem d_T_place_77 : decode b_T_place 77 = .ok (.iload 4, 2) := by decide +kernel
theorem d_T_place_79 : decode b_T_place 79 = .ok (.aload_n 0, 1) := by decide +kernel
theorem d_T_place_80 : decode b_T_place 80 = .ok (.aload_n 0, 1) := by decide +kernel
theorem d_T_place_81 : decode b_T_place 81 = .ok (.iload_n 1, 1) := by decide +kernel
theorem d_T_place_82 : decode b_T_place 82 = .ok (.iload 5, 2) := by decide +kernel
theorem d_T_place_84 : decode b_T_place 84 = .ok (.invokevirtual 73, 3) := by decide +kernel
theorem d_T_place_87 : decode b_T_place 87 = .ok (.aload_n 2, 1) := by decide +kernel
theorem d_T_place_88 : decode b_T_place 88 = .ok (.iload_n 3, 1) := by decide +kernel
theorem d_T_place_89 : decode b_T_place 89 = .ok (.iconst 1, 1) := by decide +kernel
theorem d_T_place_90 : decode b_T_place 90 = .ok (.iadd, 1) := by decide +kernel
theorem d_T_place_91 : decode b_T_place 91 = .ok (.invokestatic 65, 3) := by decide +kernel
theorem d_T_place_94 : decode b_T_place 94 = .ok (.invokevirtual 61, 3) := by decide +kernel
theorem d_T_place_97 : decode b_T_place 97 = .ok (.iinc 5 1, 3) := by decide +kernel
theorem d_T_place_100 : decode b_T_place 100 = .ok (.goto (-35), 3) := by decide +kernel
theorem d_T_place_103 : decode b_T_place 103 = .ok (.iload 4, 2) := by decide +kernel
theorem d_T_place_105 : decode b_T_place 105 = .ok (.ireturn, 1) := by decide +kernel
theorem d_T_draw_0 : decode b_T_draw 0 = .ok (.aload_n 0, 1) := by decide +kernel
theorem d_T_draw_1 : decode b_T_draw 1 = .ok (.invokevirtual 58, 3) := by decide +kernel
theorem d_T_draw_4 : decode b_T_draw 4 = .ok (.aload_n 0, 1) := by decide +kernel
theorem d_T_draw_5 : decode b_T_draw 5 = .ok (.aload_n 1, 1) := by decide +kernel
theorem d_T_draw_6 : decode b_T_draw 6 = .ok (.aload_n 1, 1) := by decide +kernel
theorem d_T_draw_7 : decode b_T_draw 7 = .ok (.getfield 24, 3) := by decide +kernel
theorem d_T_draw_10 : decode b_T_draw 10 = .ok (.aload_n 0, 1) := by decide +kernel
theorem d_T_draw_11 : decode b_T_draw 11 = .ok (.iconst 0, 1) := by decide +kernel
theorem d_T_draw_12 : decode b_T_draw 12 = .ok (.invokestatic 65, 3) := by decide +kernel
theorem d_T_draw_15 : decode b_T_draw 15 = .ok (.putfield 24, 3) := by decide +kernel
theorem d_T_draw_18 : decode b_T_draw 18 = .ok (.return_, 1) := by decide +kernel
theorem d_J_bitCount_0 : decode b_J_bitCount 0 = .ok (.iload_n 0, 1) := by decide +kernel
theorem d_J_bitCount_1 : decode b_J_bitCount 1 = .ok (.iload_n 0, 1) := by decide +kernel
theorem d_J_bitCount_2 : decode b_J_bitCount 2 = .ok (.iconst 1, 1) := by decide +kernel
theorem d_J_bitCount_3 : decode b_J_bitCount 3 = .ok (.iushr, 1) := by decide +kernel
theorem d_J_bitCount_4 : decode b_J_bitCount 4 = .ok (.ldc_w 265, 3) := by decide +kernel
theorem d_J_bitCount_7 : decode b_J_bitCount 7 = .ok (.iand, 1) := by decide +kernel
theorem d_J_bitCount_8 : decode b_J_bitCount 8 = .ok (.isub, 1) := by decide +kernel
theorem d_J_bitCount_9 : decode b_J_bitCount 9 = .ok (.istore_n 0, 1) := by decide +kernel
theorem d_J_bitCount_10 : decode b_J_bitCount 10 = .ok (.iload_n 0, 1) := by decide +kernel
theorem d_J_bitCount_11 : decode b_J_bitCount 11 = .ok (.ldc_w 266, 3) := by decide +kernel
theorem d_J_bitCount_14 : decode b_J_bitCount 14 = .ok (.iand, 1) := by decide +kernel
theorem d_J_bitCount_15 : decode b_J_bitCount 15 = .ok (.iload_n 0, 1) := by decide +kernel
theorem d_J_bitCount_16 : decode b_J_bitCount 16 = .ok (.iconst 2, 1) := by decide +kernel
theorem d_J_bitCount_17 : decode b_J_bitCount 17 = .ok (.iushr, 1) := by decide +kernel
theorem d_J_bitCount_18 : decode b_J_bitCount 18 = .ok (.ldc_w 266, 3) := by decide +kernel
theorem d_J_bitCount_21 : decode b_J_bitCount 21 = .ok (.iand, 1) := by decide +kernel
theorem d_J_bitCount_22 : decode b_J_bitCount 22 = .ok (.iadd, 1) := by decide +kernel
theorem d_J_bitCount_23 : decode b_J_bitCount 23 = .ok (.istore_n 0, 1) := by decide +kernel
theorem d_J_bitCount_24 : decode b_J_bitCount 24 = .ok (.iload_n 0, 1) := by decide +kernel
theorem d_J_bitCount_25 : decode b_J_bitCount 25 = .ok (.iload_n 0, 1) := by decide +kernel
theorem d_J_bitCount_26 : decode b_J_bitCount 26 = .ok (.iconst 4, 1) := by decide +kernel
theorem d_J_bitCount_27 : decode b_J_bitCount 27 = .ok (.iushr, 1) := by decide +kernel
theorem d_J_bitCount_28 : decode b_J_bitCount 28 = .ok (.iadd, 1) := by decide +kernel
theorem d_J_bitCount_29 : decode b_J_bitCount 29 = .ok (.ldc_w 267, 3) := by decide +kernel
theorem d_J_bitCount_32 : decode b_J_bitCount 32 = .ok (.iand, 1) := by decide +kernel
theorem d_J_bitCount_33 : decode b_J_bitCount 33 = .ok (.istore_n 0, 1) := by decide +kernel
theorem d_J_bitCount_34 : decode b_J_bitCount 34 = .ok (.iload_n 0, 1) := by decide +kernel
theorem d_J_bitCount_35 : decode b_J_bitCount 35 = .ok (.iload_n 0, 1) := by decide +kernel
theorem d_J_bitCount_36 : decode b_J_bitCount 36 = .ok (.bipush 8, 2) := by decide +kernel
theorem d_J_bitCount_38 : decode b_J_bitCount 38 = .ok (.iushr, 1) := by decide +kernel
theorem d_J_bitCount_39 : decode b_J_bitCount 39 = .ok (.iadd, 1) := by decide +kernel
theorem d_J_bitCount_40 : decode b_J_bitCount 40 = .ok (.istore_n 0, 1) := by decide +kernel
theorem d_J_bitCount_41 : decode b_J_bitCount 41 = .ok (.iload_n 0, 1) := by decide +kernel
theorem d_J_bitCount_42 : decode b_J_bitCount 42 = .ok (.iload_n 0, 1) := by decide +kernel
theorem d_J_bitCount_43 : decode b_J_bitCount 43 = .ok (.bipush 16, 2) := by decide +kernel
theorem d_J_bitCount_45 : decode b_J_bitCount 45 = .ok (.iushr, 1) := by decide +kernel
theorem d_J_bitCount_46 : decode b_J_bitCount 46 = .ok (.iadd, 1) := by decide +kernel
theorem d_J_bitCount_47 : decode b_J_bitCount 47 = .ok (.istore_n 0, 1) := by decide +kernel
theorem d_J_bitCount_48 : decode b_J_bitCount 48 = .ok (.iload_n 0, 1) := by decide +kernel
theorem d_J_bitCount_49 : decode b_J_bitCount 49 = .ok (.bipush 63, 2) := by decide +kernel
theorem d_J_bitCount_51 : decode b_J_bitCount 51 = .ok (.iand, 1) := by decide +kernel
theorem d_J_bitCount_52 : decode b_J_bitCount 52 = .ok (.ireturn, 1) := by decide +kernel
theorem d_T_giveBackSplit_0 : decode b_T_giveBackSplit 0 = .ok (.iconst 0, 1) := by decide +kernel
theorem d_T_giveBackSplit_1 : decode b_T_giveBackSplit 1 = .ok (.istore_n 1, 1) := by decide +kernel
theorem d_T_giveBackSplit_2 : decode b_T_giveBackSplit 2 = .ok (.iload_n 1, 1) := by decide +kernel
theorem d_T_giveBackSplit_3 : decode b_T_giveBackSplit 3 = .ok (.aload_n 0, 1) := by decide +kernel
theorem d_T_giveBackSplit_4 : decode b_T_giveBackSplit 4 = .ok (.getfield 46, 3) := by decide +kernel
theorem d_T_giveBackSplit_7 : decode b_T_giveBackSplit 7 = .ok (.if_icmp .ge 21, 3) := by decide +kernel
theorem d_T_giveBackSplit_10 : decode b_T_giveBackSplit 10 = .ok (.aload_n 0, 1) := by decide +kernel
theorem d_T_giveBackSplit_11 : decode b_T_giveBackSplit 11 = .ok (.getfield 18, 3) := by decide +kernel
theorem d_T_giveBackSplit_14 : decode b_T_giveBackSplit 14 = .ok (.aload_n 0, 1) := by decide +kernel
theorem d_T_giveBackSplit_15 : decode b_T_giveBackSplit 15 = .ok (.getfield 43, 3) := by decide +kernel
theorem d_T_giveBackSplit_18 : decode b_T_giveBackSplit 18 = .ok (.iload_n 1, 1) := by decide +kernel
theorem d_T_giveBackSplit_19 : decode b_T_giveBackSplit 19 = .ok (.iaload, 1) := by decide +kernel
theorem d_T_giveBackSplit_20 : decode b_T_giveBackSplit 20 = .ok (.iconst 0, 1) := by decide +kernel
theorem d_T_giveBackSplit_21 : decode b_T_giveBackSplit 21 = .ok (.iastore, 1) := by decide +kernel
theorem d_T_giveBackSplit_22 : decode b_T_giveBackSplit 22 = .ok (.iinc 1 1, 3) := by decide +kernel
theorem d_T_giveBackSplit_25 : decode b_T_giveBackSplit 25 = .ok (.goto (-23), 3) := by decide +kernel
theorem d_T_giveBackSplit_28 : decode b_T_giveBackSplit 28 = .ok (.return_, 1) := by decide +kernel
theorem d_T_lowestWith_0 : decode b_T_lowestWith 0 = .ok (.aload_n 0, 1) := by decide +kernel
theorem d_T_lowestWith_1 : decode b_T_lowestWith 1 = .ok (.getfield 24, 3) := by decide +kernel
theorem d_T_lowestWith_4 : decode b_T_lowestWith 4 = .ok (.istore_n 2, 1) := by decide +kernel
theorem d_T_lowestWith_5 : decode b_T_lowestWith 5 = .ok (.iconst 0, 1) := by decide +kernel
theorem d_T_lowestWith_6 : decode b_T_lowestWith 6 = .ok (.istore_n 3, 1) := by decide +kernel
theorem d_T_lowestWith_7 : decode b_T_lowestWith 7 = .ok (.iload_n 3, 1) := by decide +kernel
theorem d_T_lowestWith_8 : decode b_T_lowestWith 8 = .ok (.bipush 8, 2) := by decide +kernel
theorem d_T_lowestWith_10 : decode b_T_lowestWith 10 = .ok (.if_icmp .ge 72, 3) := by decide +kernel
theorem d_T_lowestWith_13 : decode b_T_lowestWith 13 = .ok (.iconst (-1), 1) := by decide +kernel
theorem d_T_lowestWith_14 : decode b_T_lowestWith 14 = .ok (.istore 4, 2) := by decide +kernel
theorem d_T_lowestWith_16 : decode b_T_lowestWith 16 = .ok (.iconst 0, 1) := by decide +kernel
theorem d_T_lowestWith_17 : decode b_T_lowestWith 17 = .ok (.istore 5, 2) := by decide +kernel
theorem d_T_lowestWith_19 : decode b_T_lowestWith 19 = .ok (.iload 5, 2) := by decide +kernel
theorem d_T_lowestWith_21 : decode b_T_lowestWith 21 = .ok (.aload_n 0, 1) := by decide +kernel
theorem d_T_lowestWith_22 : decode b_T_lowestWith 22 = .ok (.getfield 18, 3) := by decide +kernel
theorem d_T_lowestWith_25 : decode b_T_lowestWith 25 = .ok (.iload_n 2, 1) := by decide +kernel
theorem d_T_lowestWith_26 : decode b_T_lowestWith 26 = .ok (.iaload, 1) := by decide +kernel
theorem d_T_lowestWith_27 : decode b_T_lowestWith 27 = .ok (.if_icmp .ge 37, 3) := by decide +kernel
theorem d_T_lowestWith_30 : decode b_T_lowestWith 30 = .ok (.iload_n 1, 1) := by decide +kernel
theorem d_T_lowestWith_31 : decode b_T_lowestWith 31 = .ok (.aload_n 0, 1) := by decide +kernel
theorem d_T_lowestWith_32 : decode b_T_lowestWith 32 = .ok (.getfield 15, 3) := by decide +kernel
theorem d_T_lowestWith_35 : decode b_T_lowestWith 35 = .ok (.aload_n 0, 1) := by decide +kernel
theorem d_T_lowestWith_36 : decode b_T_lowestWith 36 = .ok (.iload_n 2, 1) := by decide +kernel
theorem d_T_lowestWith_37 : decode b_T_lowestWith 37 = .ok (.iload 5, 2) := by decide +kernel
theorem d_T_lowestWith_39 : decode b_T_lowestWith 39 = .ok (.invokevirtual 73, 3) := by decide +kernel
theorem d_T_lowestWith_42 : decode b_T_lowestWith 42 = .ok (.iaload, 1) := by decide +kernel
theorem d_T_lowestWith_43 : decode b_T_lowestWith 43 = .ok (.iconst (-1), 1) := by decide +kernel
theorem d_T_lowestWith_44 : decode b_T_lowestWith 44 = .ok (.ixor, 1) := by decide +kernel
theorem d_T_lowestWith_45 : decode b_T_lowestWith 45 = .ok (.iand, 1) := by decide +kernel
theorem d_T_lowestWith_46 : decode b_T_lowestWith 46 = .ok (.ifCond .ne 12, 3) := by decide +kernel
theorem d_T_lowestWith_49 : decode b_T_lowestWith 49 = .ok (.aload_n 0, 1) := by decide +kernel
theorem d_T_lowestWith_50 : decode b_T_lowestWith 50 = .ok (.iload_n 2, 1) := by decide +kernel
theorem d_T_lowestWith_51 : decode b_T_lowestWith 51 = .ok (.iload 5, 2) := by decide +kernel
theorem d_T_lowestWith_53 : decode b_T_lowestWith 53 = .ok (.invokevirtual 73, 3) := by decide +kernel
theorem d_T_lowestWith_56 : decode b_T_lowestWith 56 = .ok (.istore 4, 2) := by decide +kernel
theorem d_T_lowestWith_58 : decode b_T_lowestWith 58 = .ok (.iinc 5 1, 3) := by decide +kernel
theorem d_T_lowestWith_61 : decode b_T_lowestWith 61 = .ok (.goto (-42), 3) := by decide +kernel
theorem d_T_lowestWith_64 : decode b_T_lowestWith 64 = .ok (.iload 4, 2) := by decide +kernel
theorem d_T_lowestWith_66 : decode b_T_lowestWith 66 = .ok (.iconst (-1), 1) := by decide +kernel
theorem d_T_lowestWith_67 : decode b_T_lowestWith 67 = .ok (.if_icmp .ne 6, 3) := by decide +kernel
theorem d_T_lowestWith_70 : decode b_T_lowestWith 70 = .ok (.goto 12, 3) := by decide +kernel
theorem d_T_lowestWith_73 : decode b_T_lowestWith 73 = .ok (.iload 4, 2) := by decide +kernel
theorem d_T_lowestWith_75 : decode b_T_lowestWith 75 = .ok (.istore_n 2, 1) := by decide +kernel
theorem d_T_lowestWith_76 : decode b_T_lowestWith 76 = .ok (.iinc 3 1, 3) := by decide +kernel
theorem d_T_lowestWith_79 : decode b_T_lowestWith 79 = .ok (.goto (-72), 3) := by decide +kernel
theorem d_T_lowestWith_82 : decode b_T_lowestWith 82 = .ok (.iload_n 2, 1) := by decide +kernel
theorem d_T_lowestWith_83 : decode b_T_lowestWith 83 = .ok (.ireturn, 1) := by decide +kernel
theorem d_T_append_0 : decode b_T_append 0 = .ok (.iload_n 1, 1) := by decide +kernel
theorem d_T_append_1 : decode b_T_append 1 = .ok (.iconst (-1), 1) := by decide +kernel
theorem d_T_append_2 : decode b_T_append 2 = .ok (.if_icmp .eq 32, 3) := by decide +kernel
theorem d_T_append_5 : decode b_T_append 5 = .ok (.aload_n 0, 1) := by decide +kernel
theorem d_T_append_6 : decode b_T_append 6 = .ok (.getfield 34, 3) := by decide +kernel
theorem d_T_append_9 : decode b_T_append 9 = .ok (.bipush 8, 2) := by decide +kernel
theorem d_T_append_11 : decode b_T_append 11 = .ok (.if_icmp .ge 23, 3) := by decide +kernel
theorem d_T_append_14 : decode b_T_append 14 = .ok (.aload_n 0, 1) := by decide +kernel
theorem d_T_append_15 : decode b_T_append 15 = .ok (.getfield 31, 3) := by decide +kernel
theorem d_T_append_18 : decode b_T_append 18 = .ok (.aload_n 0, 1) := by decide +kernel
theorem d_T_append_19 : decode b_T_append 19 = .ok (.getfield 34, 3) := by decide +kernel
theorem d_T_append_22 : decode b_T_append 22 = .ok (.iload_n 1, 1) := by decide +kernel
theorem d_T_append_23 : decode b_T_append 23 = .ok (.iastore, 1) := by decide +kernel
theorem d_T_append_24 : decode b_T_append 24 = .ok (.aload_n 0, 1) := by decide +kernel
theorem d_T_append_25 : decode b_T_append 25 = .ok (.dup, 1) := by decide +kernel
theorem d_T_append_26 : decode b_T_append 26 = .ok (.getfield 34, 3) := by decide +kernel
theorem d_T_append_29 : decode b_T_append 29 = .ok (.iconst 1, 1) := by decide +kernel
theorem d_T_append_30 : decode b_T_append 30 = .ok (.iadd, 1) := by decide +kernel
theorem d_T_append_31 : decode b_T_append 31 = .ok (.putfield 34, 3) := by decide +kernel
theorem d_T_append_34 : decode b_T_append 34 = .ok (.return_, 1) := by decide +kernel
theorem d_T_stateOf_0 : decode b_T_stateOf 0 = .ok (.aload_n 0, 1) := by decide +kernel
theorem d_T_stateOf_1 : decode b_T_stateOf 1 = .ok (.getfield 15, 3) := by decide +kernel
theorem d_T_stateOf_4 : decode b_T_stateOf 4 = .ok (.iload_n 1, 1) := by decide +kernel
theorem d_T_stateOf_5 : decode b_T_stateOf 5 = .ok (.iaload, 1) := by decide +kernel
theorem d_T_stateOf_6 : decode b_T_stateOf 6 = .ok (.iload_n 2, 1) := by decide +kernel
theorem d_T_stateOf_7 : decode b_T_stateOf 7 = .ok (.iand, 1) := by decide +kernel
theorem d_T_stateOf_8 : decode b_T_stateOf 8 = .ok (.istore_n 3, 1) := by decide +kernel
theorem d_T_stateOf_9 : decode b_T_stateOf 9 = .ok (.iload_n 3, 1) := by decide +kernel
theorem d_T_stateOf_10 : decode b_T_stateOf 10 = .ok (.ifCond .ne 5, 3) := by decide +kernel
theorem d_T_stateOf_13 : decode b_T_stateOf 13 = .ok (.iconst 0, 1) := by decide +kernel
theorem d_T_stateOf_14 : decode b_T_stateOf 14 = .ok (.ireturn, 1) := by decide +kernel
theorem d_T_stateOf_15 : decode b_T_stateOf 15 = .ok (.iload_n 3, 1) := by decide +kernel
theorem d_T_stateOf_16 : decode b_T_stateOf 16 = .ok (.aload_n 0, 1) := by decide +kernel
theorem d_T_stateOf_17 : decode b_T_stateOf 17 = .ok (.getfield 15, 3) := by decide +kernel
theorem d_T_stateOf_20 : decode b_T_stateOf 20 = .ok (.iload_n 1, 1) := by decide +kernel
theorem d_T_stateOf_21 : decode b_T_stateOf 21 = .ok (.iaload, 1) := by decide +kernel
theorem d_T_stateOf_22 : decode b_T_stateOf 22 = .ok (.if_icmp .ne 7, 3) := by decide +kernel
theorem d_T_stateOf_25 : decode b_T_stateOf 25 = .ok (.iconst 2, 1) := by decide +kernel
theorem d_T_stateOf_26 : decode b_T_stateOf 26 = .ok (.goto 4, 3) := by decide +kernel
theorem d_T_stateOf_29 : decode b_T_stateOf 29 = .ok (.iconst 1, 1) := by decide +kernel
theorem d_T_stateOf_30 : decode b_T_stateOf 30 = .ok (.ireturn, 1) := by decide +kernel
theorem d_T_unusedNode_0 : decode b_T_unusedNode 0 = .ok (.bipush 8, 2) := by decide +kernel
theorem d_T_unusedNode_2 : decode b_T_unusedNode 2 = .ok (.istore_n 1, 1) := by decide +kernel
theorem d_T_unusedNode_3 : decode b_T_unusedNode 3 = .ok (.iload_n 1, 1) := by decide +kernel
theorem d_T_unusedNode_4 : decode b_T_unusedNode 4 = .ok (.bipush 23, 2) := by decide +kernel
theorem d_T_unusedNode_6 : decode b_T_unusedNode 6 = .ok (.if_icmp .ge 18, 3) := by decide +kernel
theorem d_T_unusedNode_9 : decode b_T_unusedNode 9 = .ok (.aload_n 0, 1) := by decide +kernel
theorem d_T_unusedNode_10 : decode b_T_unusedNode 10 = .ok (.getfield 18, 3) := by decide +kernel
theorem d_T_unusedNode_13 : decode b_T_unusedNode 13 = .ok (.iload_n 1, 1) := by decide +kernel
theorem d_T_unusedNode_14 : decode b_T_unusedNode 14 = .ok (.iaload, 1) := by decide +kernel
theorem d_T_unusedNode_15 : decode b_T_unusedNode 15 = .ok (.ifCond .le 9, 3) := by decide +kernel
theorem d_T_unusedNode_18 : decode b_T_unusedNode 18 = .ok (.iinc 1 1, 3) := by decide +kernel
theorem d_T_unusedNode_21 : decode b_T_unusedNode 21 = .ok (.goto (-18), 3) := by decide +kernel
theorem d_T_unusedNode_24 : decode b_T_unusedNode 24 = .ok (.iload_n 1, 1) := by decide +kernel
theorem d_T_unusedNode_25 : decode b_T_unusedNode 25 = .ok (.ireturn, 1) := by decide +kernel
theorem d_T_bundle_0 : decode b_T_bundle 0 = .ok (.aload_n 0, 1) := by decide +kernel
theorem d_T_bundle_1 : decode b_T_bundle 1 = .ok (.invokevirtual 131, 3) := by decide +kernel
theorem d_T_bundle_4 : decode b_T_bundle 4 = .ok (.istore 4, 2) := by decide +kernel
theorem d_T_bundle_6 : decode b_T_bundle 6 = .ok (.aload_n 0, 1) := by decide +kernel
theorem d_T_bundle_7 : decode b_T_bundle 7 = .ok (.getfield 11, 3) := by decide +kernel
theorem d_T_bundle_10 : decode b_T_bundle 10 = .ok (.iload 4, 2) := by decide +kernel
theorem d_T_bundle_12 : decode b_T_bundle 12 = .ok (.iconst 0, 1) := by decide +kernel
theorem d_T_bundle_13 : decode b_T_bundle 13 = .ok (.iastore, 1) := by decide +kernel
theorem d_T_bundle_14 : decode b_T_bundle 14 = .ok (.aload_n 0, 1) := by decide +kernel
theorem d_T_bundle_15 : decode b_T_bundle 15 = .ok (.getfield 15, 3) := by decide +kernel
theorem d_T_bundle_18 : decode b_T_bundle 18 = .ok (.iload 4, 2) := by decide +kernel
theorem d_T_bundle_20 : decode b_T_bundle 20 = .ok (.iconst 0, 1) := by decide +kernel
theorem d_T_bundle_21 : decode b_T_bundle 21 = .ok (.iastore, 1) := by decide +kernel
theorem d_T_bundle_22 : decode b_T_bundle 22 = .ok (.iconst 0, 1) := by decide +kernel
theorem d_T_bundle_23 : decode b_T_bundle 23 = .ok (.istore 5, 2) := by decide +kernel
theorem d_T_bundle_25 : decode b_T_bundle 25 = .ok (.iload 5, 2) := by decide +kernel
theorem d_T_bundle_27 : decode b_T_bundle 27 = .ok (.aload_n 0, 1) := by decide +kernel
theorem d_T_bundle_28 : decode b_T_bundle 28 = .ok (.getfield 18, 3) := by decide +kernel
theorem d_T_bundle_31 : decode b_T_bundle 31 = .ok (.iload_n 1, 1) := by decide +kernel
theorem d_T_bundle_32 : decode b_T_bundle 32 = .ok (.iaload, 1) := by decide +kernel
theorem d_T_bundle_33 : decode b_T_bundle 33 = .ok (.if_icmp .ge 38, 3) := by decide +kernel
theorem d_T_bundle_36 : decode b_T_bundle 36 = .ok (.aload_n 0, 1) := by decide +kernel
theorem d_T_bundle_37 : decode b_T_bundle 37 = .ok (.aload_n 0, 1) := by decide +kernel
theorem d_T_bundle_38 : decode b_T_bundle 38 = .ok (.iload_n 1, 1) := by decide +kernel
theorem d_T_bundle_39 : decode b_T_bundle 39 = .ok (.iload 5, 2) := by decide +kernel
theorem d_T_bundle_41 : decode b_T_bundle 41 = .ok (.invokevirtual 73, 3) := by decide +kernel
theorem d_T_bundle_44 : decode b_T_bundle 44 = .ok (.iload_n 2, 1) := by decide +kernel
theorem d_T_bundle_45 : decode b_T_bundle 45 = .ok (.invokevirtual 97, 3) := by decide +kernel
theorem d_T_bundle_48 : decode b_T_bundle 48 = .ok (.iload_n 3, 1) := by decide +kernel
theorem d_T_bundle_49 : decode b_T_bundle 49 = .ok (.if_icmp .ne 16, 3) := by decide +kernel
theorem d_T_bundle_52 : decode b_T_bundle 52 = .ok (.aload_n 0, 1) := by decide +kernel
theorem d_T_bundle_53 : decode b_T_bundle 53 = .ok (.iload 4, 2) := by decide +kernel
theorem d_T_bundle_55 : decode b_T_bundle 55 = .ok (.aload_n 0, 1) := by decide +kernel
theorem d_T_bundle_56 : decode b_T_bundle 56 = .ok (.iload_n 1, 1) := by decide +kernel
theorem d_T_bundle_57 : decode b_T_bundle 57 = .ok (.iload 5, 2) := by decide +kernel
theorem d_T_bundle_59 : decode b_T_bundle 59 = .ok (.invokevirtual 73, 3) := by decide +kernel
theorem d_T_bundle_62 : decode b_T_bundle 62 = .ok (.invokevirtual 61, 3) := by decide +kernel
theorem d_T_bundle_65 : decode b_T_bundle 65 = .ok (.iinc 5 1, 3) := by decide +kernel
theorem d_T_bundle_68 : decode b_T_bundle 68 = .ok (.goto (-43), 3) := by decide +kernel
theorem d_T_bundle_71 : decode b_T_bundle 71 = .ok (.aload_n 0, 1) := by decide +kernel
theorem d_T_bundle_72 : decode b_T_bundle 72 = .ok (.getfield 18, 3) := by decide +kernel
theorem d_T_bundle_75 : decode b_T_bundle 75 = .ok (.iload 4, 2) := by decide +kernel
theorem d_T_bundle_77 : decode b_T_bundle 77 = .ok (.iaload, 1) := by decide +kernel
theorem d_T_bundle_78 : decode b_T_bundle 78 = .ok (.ifCond .ne 5, 3) := by decide +kernel
theorem d_T_bundle_81 : decode b_T_bundle 81 = .ok (.iconst (-1), 1) := by decide +kernel
theorem d_T_bundle_82 : decode b_T_bundle 82 = .ok (.ireturn, 1) := by decide +kernel
theorem d_T_bundle_83 : decode b_T_bundle 83 = .ok (.aload_n 0, 1) := by decide +kernel
theorem d_T_bundle_84 : decode b_T_bundle 84 = .ok (.getfield 18, 3) := by decide +kernel
theorem d_T_bundle_87 : decode b_T_bundle 87 = .ok (.iload 4, 2) := by decide +kernel
theorem d_T_bundle_89 : decode b_T_bundle 89 = .ok (.iaload, 1) := by decide +kernel
theorem d_T_bundle_90 : decode b_T_bundle 90 = .ok (.iconst 1, 1) := by decide +kernel
theorem d_T_bundle_91 : decode b_T_bundle 91 = .ok (.if_icmp .ne 19, 3) := by decide +kernel
theorem d_T_bundle_94 : decode b_T_bundle 94 = .ok (.aload_n 0, 1) := by decide +kernel
theorem d_T_bundle_95 : decode b_T_bundle 95 = .ok (.getfield 18, 3) := by decide +kernel
theorem d_T_bundle_98 : decode b_T_bundle 98 = .ok (.iload 4, 2) := by decide +kernel
theorem d_T_bundle_100 : decode b_T_bundle 100 = .ok (.iconst 0, 1) := by decide +kernel
theorem d_T_bundle_101 : decode b_T_bundle 101 = .ok (.iastore, 1) := by decide +kernel
theorem d_T_bundle_102 : decode b_T_bundle 102 = .ok (.aload_n 0, 1) := by decide +kernel
theorem d_T_bundle_103 : decode b_T_bundle 103 = .ok (.iload 4, 2) := by decide +kernel
theorem d_T_bundle_105 : decode b_T_bundle 105 = .ok (.iconst 0, 1) := by decide +kernel
theorem d_T_bundle_106 : decode b_T_bundle 106 = .ok (.invokevirtual 73, 3) := by decide +kernel
theorem d_T_bundle_109 : decode b_T_bundle 109 = .ok (.ireturn, 1) := by decide +kernel
theorem d_T_bundle_110 : decode b_T_bundle 110 = .ok (.iload 4, 2) := by decide +kernel
theorem d_T_bundle_112 : decode b_T_bundle 112 = .ok (.ireturn, 1) := by decide +kernel
theorem d_T_fillFromLine_0 : decode b_T_fillFromLine 0 = .ok (.aload_n 0, 1) := by decide +kernel
theorem d_T_fillFromLine_1 : decode b_T_fillFromLine 1 = .ok (.getfield 11, 3) := by decide +kernel
theorem d_T_fillFromLine_4 : decode b_T_fillFromLine 4 = .ok (.iload_n 1, 1) := by decide +kernel
theorem d_T_fillFromLine_5 : decode b_T_fillFromLine 5 = .ok (.iconst 1, 1) := by decide +kernel
theorem d_T_fillFromLine_6 : decode b_T_fillFromLine 6 = .ok (.iastore, 1) := by decide +kernel
theorem d_T_fillFromLine_7 : decode b_T_fillFromLine 7 = .ok (.aload_n 0, 1) := by decide +kernel
theorem d_T_fillFromLine_8 : decode b_T_fillFromLine 8 = .ok (.getfield 18, 3) := by decide +kernel
theorem d_T_fillFromLine_11 : decode b_T_fillFromLine 11 = .ok (.iload_n 1, 1) := by decide +kernel
theorem d_T_fillFromLine_12 : decode b_T_fillFromLine 12 = .ok (.iconst 0, 1) := by decide +kernel
theorem d_T_fillFromLine_13 : decode b_T_fillFromLine 13 = .ok (.iastore, 1) := by decide +kernel
theorem d_T_fillFromLine_14 : decode b_T_fillFromLine 14 = .ok (.aload_n 0, 1) := by decide +kernel
theorem d_T_fillFromLine_15 : decode b_T_fillFromLine 15 = .ok (.getfield 15, 3) := by decide +kernel
theorem d_T_fillFromLine_18 : decode b_T_fillFromLine 18 = .ok (.iload_n 1, 1) := by decide +kernel
theorem d_T_fillFromLine_19 : decode b_T_fillFromLine 19 = .ok (.iconst 0, 1) := by decide +kernel
theorem d_T_fillFromLine_20 : decode b_T_fillFromLine 20 = .ok (.iastore, 1) := by decide +kernel
theorem d_T_fillFromLine_21 : decode b_T_fillFromLine 21 = .ok (.iconst 0, 1) := by decide +kernel
theorem d_T_fillFromLine_22 : decode b_T_fillFromLine 22 = .ok (.istore_n 2, 1) := by decide +kernel
theorem d_T_fillFromLine_23 : decode b_T_fillFromLine 23 = .ok (.iload_n 2, 1) := by decide +kernel
theorem d_T_fillFromLine_24 : decode b_T_fillFromLine 24 = .ok (.aload_n 0, 1) := by decide +kernel
theorem d_T_fillFromLine_25 : decode b_T_fillFromLine 25 = .ok (.getfield 34, 3) := by decide +kernel
theorem d_T_fillFromLine_28 : decode b_T_fillFromLine 28 = .ok (.if_icmp .ge 20, 3) := by decide +kernel
theorem d_T_fillFromLine_31 : decode b_T_fillFromLine 31 = .ok (.aload_n 0, 1) := by decide +kernel
theorem d_T_fillFromLine_32 : decode b_T_fillFromLine 32 = .ok (.iload_n 1, 1) := by decide +kernel
theorem d_T_fillFromLine_33 : decode b_T_fillFromLine 33 = .ok (.aload_n 0, 1) := by decide +kernel
theorem d_T_fillFromLine_34 : decode b_T_fillFromLine 34 = .ok (.getfield 31, 3) := by decide +kernel
theorem d_T_fillFromLine_37 : decode b_T_fillFromLine 37 = .ok (.iload_n 2, 1) := by decide +kernel
theorem d_T_fillFromLine_38 : decode b_T_fillFromLine 38 = .ok (.iaload, 1) := by decide +kernel
theorem d_T_fillFromLine_39 : decode b_T_fillFromLine 39 = .ok (.invokevirtual 61, 3) := by decide +kernel
theorem d_T_fillFromLine_42 : decode b_T_fillFromLine 42 = .ok (.iinc 2 1, 3) := by decide +kernel
theorem d_T_fillFromLine_45 : decode b_T_fillFromLine 45 = .ok (.goto (-22), 3) := by decide +kernel
theorem d_T_fillFromLine_48 : decode b_T_fillFromLine 48 = .ok (.return_, 1) := by decide +kernel
theorem d_T_keepEmpty_0 : decode b_T_keepEmpty 0 = .ok (.aload_n 0, 1) := by decide +kernel
theorem d_T_keepEmpty_1 : decode b_T_keepEmpty 1 = .ok (.getfield 18, 3) := by decide +kernel
theorem d_T_keepEmpty_4 : decode b_T_keepEmpty 4 = .ok (.iload_n 1, 1) := by decide +kernel
theorem d_T_keepEmpty_5 : decode b_T_keepEmpty 5 = .ok (.iaload, 1) := by decide +kernel
theorem d_T_keepEmpty_6 : decode b_T_keepEmpty 6 = .ok (.istore_n 3, 1) := by decide +kernel
theorem d_T_keepEmpty_7 : decode b_T_keepEmpty 7 = .ok (.aload_n 0, 1) := by decide +kernel
theorem d_T_keepEmpty_8 : decode b_T_keepEmpty 8 = .ok (.getfield 18, 3) := by decide +kernel
theorem d_T_keepEmpty_11 : decode b_T_keepEmpty 11 = .ok (.iload_n 1, 1) := by decide +kernel
theorem d_T_keepEmpty_12 : decode b_T_keepEmpty 12 = .ok (.iconst 0, 1) := by decide +kernel
theorem d_T_keepEmpty_13 : decode b_T_keepEmpty 13 = .ok (.iastore, 1) := by decide +kernel
theorem d_T_keepEmpty_14 : decode b_T_keepEmpty 14 = .ok (.aload_n 0, 1) := by decide +kernel
theorem d_T_keepEmpty_15 : decode b_T_keepEmpty 15 = .ok (.getfield 15, 3) := by decide +kernel
theorem d_T_keepEmpty_18 : decode b_T_keepEmpty 18 = .ok (.iload_n 1, 1) := by decide +kernel
theorem d_T_keepEmpty_19 : decode b_T_keepEmpty 19 = .ok (.iconst 0, 1) := by decide +kernel
theorem d_T_keepEmpty_20 : decode b_T_keepEmpty 20 = .ok (.iastore, 1) := by decide +kernel
theorem d_T_keepEmpty_21 : decode b_T_keepEmpty 21 = .ok (.iconst 0, 1) := by decide +kernel
theorem d_T_keepEmpty_22 : decode b_T_keepEmpty 22 = .ok (.istore 4, 2) := by decide +kernel
theorem d_T_keepEmpty_24 : decode b_T_keepEmpty 24 = .ok (.iload 4, 2) := by decide +kernel
theorem d_T_keepEmpty_26 : decode b_T_keepEmpty 26 = .ok (.iload_n 3, 1) := by decide +kernel
theorem d_T_keepEmpty_27 : decode b_T_keepEmpty 27 = .ok (.if_icmp .ge 36, 3) := by decide +kernel
theorem d_T_keepEmpty_30 : decode b_T_keepEmpty 30 = .ok (.aload_n 0, 1) := by decide +kernel
theorem d_T_keepEmpty_31 : decode b_T_keepEmpty 31 = .ok (.aload_n 0, 1) := by decide +kernel
theorem d_T_keepEmpty_32 : decode b_T_keepEmpty 32 = .ok (.iload_n 1, 1) := by decide +kernel
theorem d_T_keepEmpty_33 : decode b_T_keepEmpty 33 = .ok (.iload 4, 2) := by decide +kernel
theorem d_T_keepEmpty_35 : decode b_T_keepEmpty 35 = .ok (.invokevirtual 73, 3) := by decide +kernel
theorem d_T_keepEmpty_38 : decode b_T_keepEmpty 38 = .ok (.iload_n 2, 1) := by decide +kernel
theorem d_T_keepEmpty_39 : decode b_T_keepEmpty 39 = .ok (.invokevirtual 97, 3) := by decide +kernel
theorem d_T_keepEmpty_42 : decode b_T_keepEmpty 42 = .ok (.ifCond .ne 15, 3) := by decide +kernel
theorem d_T_keepEmpty_45 : decode b_T_keepEmpty 45 = .ok (.aload_n 0, 1) := by decide +kernel
theorem d_T_keepEmpty_46 : decode b_T_keepEmpty 46 = .ok (.iload_n 1, 1) := by decide +kernel
theorem d_T_keepEmpty_47 : decode b_T_keepEmpty 47 = .ok (.aload_n 0, 1) := by decide +kernel
theorem d_T_keepEmpty_48 : decode b_T_keepEmpty 48 = .ok (.iload_n 1, 1) := by decide +kernel
theorem d_T_keepEmpty_49 : decode b_T_keepEmpty 49 = .ok (.iload 4, 2) := by decide +kernel
theorem d_T_keepEmpty_51 : decode b_T_keepEmpty 51 = .ok (.invokevirtual 73, 3) := by decide +kernel
theorem d_T_keepEmpty_54 : decode b_T_keepEmpty 54 = .ok (.invokevirtual 61, 3) := by decide +kernel
theorem d_T_keepEmpty_57 : decode b_T_keepEmpty 57 = .ok (.iinc 4 1, 3) := by decide +kernel
theorem d_T_keepEmpty_60 : decode b_T_keepEmpty 60 = .ok (.goto (-36), 3) := by decide +kernel
theorem d_T_keepEmpty_63 : decode b_T_keepEmpty 63 = .ok (.return_, 1) := by decide +kernel
theorem d_T_partIn_0 : decode b_T_partIn 0 = .ok (.iconst 0, 1) := by decide +kernel
theorem d_T_partIn_1 : decode b_T_partIn 1 = .ok (.istore 5, 2) := by decide +kernel
theorem d_T_partIn_3 : decode b_T_partIn 3 = .ok (.iconst 0, 1) := by decide +kernel
theorem d_T_partIn_4 : decode b_T_partIn 4 = .ok (.istore 6, 2) := by decide +kernel
theorem d_T_partIn_6 : decode b_T_partIn 6 = .ok (.iload 6, 2) := by decide +kernel
theorem d_T_partIn_8 : decode b_T_partIn 8 = .ok (.aload_n 0, 1) := by decide +kernel
theorem d_T_partIn_9 : decode b_T_partIn 9 = .ok (.getfield 18, 3) := by decide +kernel
theorem d_T_partIn_12 : decode b_T_partIn 12 = .ok (.iload_n 1, 1) := by decide +kernel
theorem d_T_partIn_13 : decode b_T_partIn 13 = .ok (.iaload, 1) := by decide +kernel
theorem d_T_partIn_14 : decode b_T_partIn 14 = .ok (.if_icmp .ge 43, 3) := by decide +kernel
theorem d_T_partIn_17 : decode b_T_partIn 17 = .ok (.aload_n 0, 1) := by decide +kernel
theorem d_T_partIn_18 : decode b_T_partIn 18 = .ok (.aload_n 0, 1) := by decide +kernel
theorem d_T_partIn_19 : decode b_T_partIn 19 = .ok (.iload_n 1, 1) := by decide +kernel
theorem d_T_partIn_20 : decode b_T_partIn 20 = .ok (.iload 6, 2) := by decide +kernel
theorem d_T_partIn_22 : decode b_T_partIn 22 = .ok (.invokevirtual 73, 3) := by decide +kernel
theorem d_T_partIn_25 : decode b_T_partIn 25 = .ok (.iload_n 2, 1) := by decide +kernel
theorem d_T_partIn_26 : decode b_T_partIn 26 = .ok (.invokevirtual 97, 3) := by decide +kernel
theorem d_T_partIn_29 : decode b_T_partIn 29 = .ok (.iload_n 3, 1) := by decide +kernel
theorem d_T_partIn_30 : decode b_T_partIn 30 = .ok (.if_icmp .ne 21, 3) := by decide +kernel
theorem d_T_partIn_33 : decode b_T_partIn 33 = .ok (.iload 5, 2) := by decide +kernel
theorem d_T_partIn_35 : decode b_T_partIn 35 = .ok (.iload 4, 2) := by decide +kernel
theorem d_T_partIn_37 : decode b_T_partIn 37 = .ok (.if_icmp .ne 11, 3) := by decide +kernel
theorem d_T_partIn_40 : decode b_T_partIn 40 = .ok (.aload_n 0, 1) := by decide +kernel
theorem d_T_partIn_41 : decode b_T_partIn 41 = .ok (.iload_n 1, 1) := by decide +kernel
theorem d_T_partIn_42 : decode b_T_partIn 42 = .ok (.iload 6, 2) := by decide +kernel
theorem d_T_partIn_44 : decode b_T_partIn 44 = .ok (.invokevirtual 73, 3) := by decide +kernel
theorem d_T_partIn_47 : decode b_T_partIn 47 = .ok (.ireturn, 1) := by decide +kernel
theorem d_T_partIn_48 : decode b_T_partIn 48 = .ok (.iinc 5 1, 3) := by decide +kernel
theorem d_T_partIn_51 : decode b_T_partIn 51 = .ok (.iinc 6 1, 3) := by decide +kernel
theorem d_T_partIn_54 : decode b_T_partIn 54 = .ok (.goto (-48), 3) := by decide +kernel
theorem d_T_partIn_57 : decode b_T_partIn 57 = .ok (.iconst (-1), 1) := by decide +kernel
theorem d_T_partIn_58 : decode b_T_partIn 58 = .ok (.ireturn, 1) := by decide +kernel
theorem d_T_hold_0 : decode b_T_hold 0 = .ok (.iload_n 1, 1) := by decide +kernel
theorem d_T_hold_1 : decode b_T_hold 1 = .ok (.iconst (-1), 1) := by decide +kernel
theorem d_T_hold_2 : decode b_T_hold 2 = .ok (.if_icmp .eq 32, 3) := by decide +kernel
theorem d_T_hold_5 : decode b_T_hold 5 = .ok (.aload_n 0, 1) := by decide +kernel
theorem d_T_hold_6 : decode b_T_hold 6 = .ok (.getfield 40, 3) := by decide +kernel
theorem d_T_hold_9 : decode b_T_hold 9 = .ok (.bipush 8, 2) := by decide +kernel
theorem d_T_hold_11 : decode b_T_hold 11 = .ok (.if_icmp .ge 23, 3) := by decide +kernel
theorem d_T_hold_14 : decode b_T_hold 14 = .ok (.aload_n 0, 1) := by decide +kernel
theorem d_T_hold_15 : decode b_T_hold 15 = .ok (.getfield 37, 3) := by decide +kernel
theorem d_T_hold_18 : decode b_T_hold 18 = .ok (.aload_n 0, 1) := by decide +kernel
theorem d_T_hold_19 : decode b_T_hold 19 = .ok (.getfield 40, 3) := by decide +kernel
theorem d_T_hold_22 : decode b_T_hold 22 = .ok (.iload_n 1, 1) := by decide +kernel
theorem d_T_hold_23 : decode b_T_hold 23 = .ok (.iastore, 1) := by decide +kernel
theorem d_T_hold_24 : decode b_T_hold 24 = .ok (.aload_n 0, 1) := by decide +kernel
theorem d_T_hold_25 : decode b_T_hold 25 = .ok (.dup, 1) := by decide +kernel
theorem d_T_hold_26 : decode b_T_hold 26 = .ok (.getfield 40, 3) := by decide +kernel
theorem d_T_hold_29 : decode b_T_hold 29 = .ok (.iconst 1, 1) := by decide +kernel
theorem d_T_hold_30 : decode b_T_hold 30 = .ok (.iadd, 1) := by decide +kernel
theorem d_T_hold_31 : decode b_T_hold 31 = .ok (.putfield 40, 3) := by decide +kernel
theorem d_T_hold_34 : decode b_T_hold 34 = .ok (.return_, 1) := by decide +kernel
theorem d_T_markSplit_0 : decode b_T_markSplit 0 = .ok (.aload_n 0, 1) := by decide +kernel
theorem d_T_markSplit_1 : decode b_T_markSplit 1 = .ok (.getfield 46, 3) := by decide +kernel
theorem d_T_markSplit_4 : decode b_T_markSplit 4 = .ok (.bipush 7, 2) := by decide +kernel
theorem d_T_markSplit_6 : decode b_T_markSplit 6 = .ok (.if_icmp .ge 23, 3) := by decide +kernel
theorem d_T_markSplit_9 : decode b_T_markSplit 9 = .ok (.aload_n 0, 1) := by decide +kernel
theorem d_T_markSplit_10 : decode b_T_markSplit 10 = .ok (.getfield 43, 3) := by decide +kernel
theorem d_T_markSplit_13 : decode b_T_markSplit 13 = .ok (.aload_n 0, 1) := by decide +kernel
theorem d_T_markSplit_14 : decode b_T_markSplit 14 = .ok (.getfield 46, 3) := by decide +kernel
theorem d_T_markSplit_17 : decode b_T_markSplit 17 = .ok (.iload_n 1, 1) := by decide +kernel
theorem d_T_markSplit_18 : decode b_T_markSplit 18 = .ok (.iastore, 1) := by decide +kernel
theorem d_T_markSplit_19 : decode b_T_markSplit 19 = .ok (.aload_n 0, 1) := by decide +kernel
theorem d_T_markSplit_20 : decode b_T_markSplit 20 = .ok (.dup, 1) := by decide +kernel
theorem d_T_markSplit_21 : decode b_T_markSplit 21 = .ok (.getfield 46, 3) := by decide +kernel
theorem d_T_markSplit_24 : decode b_T_markSplit 24 = .ok (.iconst 1, 1) := by decide +kernel
theorem d_T_markSplit_25 : decode b_T_markSplit 25 = .ok (.iadd, 1) := by decide +kernel
theorem d_T_markSplit_26 : decode b_T_markSplit 26 = .ok (.putfield 46, 3) := by decide +kernel
theorem d_T_markSplit_29 : decode b_T_markSplit 29 = .ok (.return_, 1) := by decide +kernel
theorem d_T_splitTurning_0 : decode b_T_splitTurning 0 = .ok (.aload_n 0, 1) := by decide +kernel
theorem d_T_splitTurning_1 : decode b_T_splitTurning 1 = .ok (.getfield 18, 3) := by decide +kernel
theorem d_T_splitTurning_4 : decode b_T_splitTurning 4 = .ok (.iload_n 1, 1) := by decide +kernel
theorem d_T_splitTurning_5 : decode b_T_splitTurning 5 = .ok (.iaload, 1) := by decide +kernel
theorem d_T_splitTurning_6 : decode b_T_splitTurning 6 = .ok (.iconst 1, 1) := by decide +kernel
theorem d_T_splitTurning_7 : decode b_T_splitTurning 7 = .ok (.isub, 1) := by decide +kernel
theorem d_T_splitTurning_8 : decode b_T_splitTurning 8 = .ok (.istore_n 3, 1) := by decide +kernel
theorem d_T_splitTurning_9 : decode b_T_splitTurning 9 = .ok (.aload_n 0, 1) := by decide +kernel
theorem d_T_splitTurning_10 : decode b_T_splitTurning 10 = .ok (.aload_n 0, 1) := by decide +kernel
theorem d_T_splitTurning_11 : decode b_T_splitTurning 11 = .ok (.iload_n 1, 1) := by decide +kernel
theorem d_T_splitTurning_12 : decode b_T_splitTurning 12 = .ok (.iconst 0, 1) := by decide +kernel
theorem d_T_splitTurning_13 : decode b_T_splitTurning 13 = .ok (.invokevirtual 73, 3) := by decide +kernel
theorem d_T_splitTurning_16 : decode b_T_splitTurning 16 = .ok (.iload_n 2, 1) := by decide +kernel
theorem d_T_splitTurning_17 : decode b_T_splitTurning 17 = .ok (.invokevirtual 97, 3) := by decide +kernel
theorem d_T_splitTurning_20 : decode b_T_splitTurning 20 = .ok (.ifCond .eq 18, 3) := by decide +kernel
theorem d_T_splitTurning_23 : decode b_T_splitTurning 23 = .ok (.aload_n 0, 1) := by decide +kernel
theorem d_T_splitTurning_24 : decode b_T_splitTurning 24 = .ok (.aload_n 0, 1) := by decide +kernel
theorem d_T_splitTurning_25 : decode b_T_splitTurning 25 = .ok (.iload_n 1, 1) := by decide +kernel
theorem d_T_splitTurning_26 : decode b_T_splitTurning 26 = .ok (.iload_n 3, 1) := by decide +kernel
theorem d_T_splitTurning_27 : decode b_T_splitTurning 27 = .ok (.invokevirtual 73, 3) := by decide +kernel
theorem d_T_splitTurning_30 : decode b_T_splitTurning 30 = .ok (.iload_n 2, 1) := by decide +kernel
theorem d_T_splitTurning_31 : decode b_T_splitTurning 31 = .ok (.invokevirtual 97, 3) := by decide +kernel
theorem d_T_splitTurning_34 : decode b_T_splitTurning 34 = .ok (.iconst 2, 1) := by decide +kernel
theorem d_T_splitTurning_35 : decode b_T_splitTurning 35 = .ok (.if_icmp .ne 7, 3) := by decide +kernel
theorem d_T_splitTurning_38 : decode b_T_splitTurning 38 = .ok (.iconst 1, 1) := by decide +kernel
theorem d_T_splitTurning_39 : decode b_T_splitTurning 39 = .ok (.goto 4, 3) := by decide +kernel
theorem d_T_splitTurning_42 : decode b_T_splitTurning 42 = .ok (.iconst 0, 1) := by decide +kernel
theorem d_T_splitTurning_43 : decode b_T_splitTurning 43 = .ok (.istore 4, 2) := by decide +kernel
theorem d_T_splitTurning_45 : decode b_T_splitTurning 45 = .ok (.iload 4, 2) := by decide +kernel
theorem d_T_splitTurning_47 : decode b_T_splitTurning 47 = .ok (.ifCond .ne 20, 3) := by decide +kernel
theorem d_T_splitTurning_50 : decode b_T_splitTurning 50 = .ok (.aload_n 0, 1) := by decide +kernel
theorem d_T_splitTurning_51 : decode b_T_splitTurning 51 = .ok (.getfield 21, 3) := by decide +kernel
theorem d_T_splitTurning_54 : decode b_T_splitTurning 54 = .ok (.iload_n 1, 1) := by decide +kernel
theorem d_T_splitTurning_55 : decode b_T_splitTurning 55 = .ok (.bipush 8, 2) := by decide +kernel
theorem d_T_splitTurning_57 : decode b_T_splitTurning 57 = .ok (.imul, 1) := by decide +kernel
theorem d_T_splitTurning_58 : decode b_T_splitTurning 58 = .ok (.iload_n 1, 1) := by decide +kernel
theorem d_T_splitTurning_59 : decode b_T_splitTurning 59 = .ok (.bipush 8, 2) := by decide +kernel
theorem d_T_splitTurning_61 : decode b_T_splitTurning 61 = .ok (.imul, 1) := by decide +kernel
theorem d_T_splitTurning_62 : decode b_T_splitTurning 62 = .ok (.iload_n 3, 1) := by decide +kernel
theorem d_T_splitTurning_63 : decode b_T_splitTurning 63 = .ok (.iadd, 1) := by decide +kernel
theorem d_T_splitTurning_64 : decode b_T_splitTurning 64 = .ok (.invokestatic 81, 3) := by decide +kernel
theorem d_T_splitTurning_67 : decode b_T_splitTurning 67 = .ok (.iconst 0, 1) := by decide +kernel
theorem d_T_splitTurning_68 : decode b_T_splitTurning 68 = .ok (.istore 5, 2) := by decide +kernel
theorem d_T_splitTurning_70 : decode b_T_splitTurning 70 = .ok (.iconst 0, 1) := by decide +kernel
theorem d_T_splitTurning_71 : decode b_T_splitTurning 71 = .ok (.istore 6, 2) := by decide +kernel
theorem d_T_splitTurning_73 : decode b_T_splitTurning 73 = .ok (.iload 6, 2) := by decide +kernel
theorem d_T_splitTurning_75 : decode b_T_splitTurning 75 = .ok (.iload_n 3, 1) := by decide +kernel
theorem d_T_splitTurning_76 : decode b_T_splitTurning 76 = .ok (.if_icmp .gt 52, 3) := by decide +kernel
theorem d_T_splitTurning_79 : decode b_T_splitTurning 79 = .ok (.aload_n 0, 1) := by decide +kernel
theorem d_T_splitTurning_80 : decode b_T_splitTurning 80 = .ok (.aload_n 0, 1) := by decide +kernel
theorem d_T_splitTurning_81 : decode b_T_splitTurning 81 = .ok (.iload_n 1, 1) := by decide +kernel
theorem d_T_splitTurning_82 : decode b_T_splitTurning 82 = .ok (.iload 6, 2) := by decide +kernel
theorem d_T_splitTurning_84 : decode b_T_splitTurning 84 = .ok (.invokevirtual 73, 3) := by decide +kernel
theorem d_T_splitTurning_87 : decode b_T_splitTurning 87 = .ok (.iload_n 2, 1) := by decide +kernel
theorem d_T_splitTurning_88 : decode b_T_splitTurning 88 = .ok (.invokevirtual 97, 3) := by decide +kernel
theorem d_T_splitTurning_91 : decode b_T_splitTurning 91 = .ok (.istore 7, 2) := by decide +kernel
theorem d_T_splitTurning_93 : decode b_T_splitTurning 93 = .ok (.iload 7, 2) := by decide +kernel
theorem d_T_splitTurning_95 : decode b_T_splitTurning 95 = .ok (.iload 5, 2) := by decide +kernel
theorem d_T_splitTurning_97 : decode b_T_splitTurning 97 = .ok (.if_icmp .ge 5, 3) := by decide +kernel
theorem d_T_splitTurning_100 : decode b_T_splitTurning 100 = .ok (.iconst 0, 1) := by decide +kernel
theorem d_T_splitTurning_101 : decode b_T_splitTurning 101 = .ok (.ireturn, 1) := by decide +kernel
theorem d_T_splitTurning_102 : decode b_T_splitTurning 102 = .ok (.iload 7, 2) := by decide +kernel
theorem d_T_splitTurning_104 : decode b_T_splitTurning 104 = .ok (.istore 5, 2) := by decide +kernel
theorem d_T_splitTurning_106 : decode b_T_splitTurning 106 = .ok (.iload 7, 2) := by decide +kernel
theorem d_T_splitTurning_108 : decode b_T_splitTurning 108 = .ok (.ifCond .ne 14, 3) := by decide +kernel
theorem d_T_splitTurning_111 : decode b_T_splitTurning 111 = .ok (.aload_n 0, 1) := by decide +kernel
theorem d_T_splitTurning_112 : decode b_T_splitTurning 112 = .ok (.aload_n 0, 1) := by decide +kernel
theorem d_T_splitTurning_113 : decode b_T_splitTurning 113 = .ok (.iload_n 1, 1) := by decide +kernel
theorem d_T_splitTurning_114 : decode b_T_splitTurning 114 = .ok (.iload 6, 2) := by decide +kernel
theorem d_T_splitTurning_116 : decode b_T_splitTurning 116 = .ok (.invokevirtual 73, 3) := by decide +kernel
theorem d_T_splitTurning_119 : decode b_T_splitTurning 119 = .ok (.invokevirtual 122, 3) := by decide +kernel
theorem d_T_splitTurning_122 : decode b_T_splitTurning 122 = .ok (.iinc 6 1, 3) := by decide +kernel
theorem d_T_splitTurning_125 : decode b_T_splitTurning 125 = .ok (.goto (-52), 3) := by decide +kernel
theorem d_T_splitTurning_128 : decode b_T_splitTurning 128 = .ok (.iload_n 3, 1) := by decide +kernel
theorem d_T_splitTurning_129 : decode b_T_splitTurning 129 = .ok (.istore 6, 2) := by decide +kernel
theorem d_T_splitTurning_131 : decode b_T_splitTurning 131 = .ok (.iload 6, 2) := by decide +kernel
theorem d_T_splitTurning_133 : decode b_T_splitTurning 133 = .ok (.ifCond .lt 36, 3) := by decide +kernel
theorem d_T_splitTurning_136 : decode b_T_splitTurning 136 = .ok (.aload_n 0, 1) := by decide +kernel
theorem d_T_splitTurning_137 : decode b_T_splitTurning 137 = .ok (.aload_n 0, 1) := by decide +kernel
theorem d_T_splitTurning_138 : decode b_T_splitTurning 138 = .ok (.iload_n 1, 1) := by decide +kernel
theorem d_T_splitTurning_139 : decode b_T_splitTurning 139 = .ok (.iload 6, 2) := by decide +kernel
theorem d_T_splitTurning_141 : decode b_T_splitTurning 141 = .ok (.invokevirtual 73, 3) := by decide +kernel
theorem d_T_splitTurning_144 : decode b_T_splitTurning 144 = .ok (.iload_n 2, 1) := by decide +kernel
theorem d_T_splitTurning_145 : decode b_T_splitTurning 145 = .ok (.invokevirtual 97, 3) := by decide +kernel
theorem d_T_splitTurning_148 : decode b_T_splitTurning 148 = .ok (.iconst 2, 1) := by decide +kernel
theorem d_T_splitTurning_149 : decode b_T_splitTurning 149 = .ok (.if_icmp .ne 20, 3) := by decide +kernel
theorem d_T_splitTurning_152 : decode b_T_splitTurning 152 = .ok (.aload_n 0, 1) := by decide +kernel
theorem d_T_splitTurning_153 : decode b_T_splitTurning 153 = .ok (.aload_n 0, 1) := by decide +kernel
theorem d_T_splitTurning_154 : decode b_T_splitTurning 154 = .ok (.iload_n 1, 1) := by decide +kernel
theorem d_T_splitTurning_155 : decode b_T_splitTurning 155 = .ok (.iload 6, 2) := by decide +kernel
theorem d_T_splitTurning_157 : decode b_T_splitTurning 157 = .ok (.invokevirtual 73, 3) := by decide +kernel
theorem d_T_splitTurning_160 : decode b_T_splitTurning 160 = .ok (.invokevirtual 135, 3) := by decide +kernel
theorem d_T_splitTurning_163 : decode b_T_splitTurning 163 = .ok (.iinc 6 (-1), 3) := by decide +kernel
theorem d_T_splitTurning_166 : decode b_T_splitTurning 166 = .ok (.goto (-35), 3) := by decide +kernel
theorem d_T_splitTurning_169 : decode b_T_splitTurning 169 = .ok (.iconst 1, 1) := by decide +kernel
theorem d_T_splitTurning_170 : decode b_T_splitTurning 170 = .ok (.ireturn, 1) := by decide +kernel
theorem d_T_splitToLine_0 : decode b_T_splitToLine 0 = .ok (.aload_n 0, 1) := by decide +kernel
theorem d_T_splitToLine_1 : decode b_T_splitToLine 1 = .ok (.getfield 34, 3) := by decide +kernel
theorem d_T_splitToLine_4 : decode b_T_splitToLine 4 = .ok (.istore 4, 2) := by decide +kernel
theorem d_T_splitToLine_6 : decode b_T_splitToLine 6 = .ok (.iload_n 1, 1) := by decide +kernel
theorem d_T_splitToLine_7 : decode b_T_splitToLine 7 = .ok (.istore 5, 2) := by decide +kernel
theorem d_T_splitToLine_9 : decode b_T_splitToLine 9 = .ok (.aload_n 0, 1) := by decide +kernel
theorem d_T_splitToLine_10 : decode b_T_splitToLine 10 = .ok (.iconst 0, 1) := by decide +kernel
theorem d_T_splitToLine_11 : decode b_T_splitToLine 11 = .ok (.putfield 40, 3) := by decide +kernel
theorem d_T_splitToLine_14 : decode b_T_splitToLine 14 = .ok (.iconst 0, 1) := by decide +kernel
theorem d_T_splitToLine_15 : decode b_T_splitToLine 15 = .ok (.istore 6, 2) := by decide +kernel
theorem d_T_splitToLine_17 : decode b_T_splitToLine 17 = .ok (.iload 6, 2) := by decide +kernel
theorem d_T_splitToLine_19 : decode b_T_splitToLine 19 = .ok (.bipush 8, 2) := by decide +kernel
theorem d_T_splitToLine_21 : decode b_T_splitToLine 21 = .ok (.if_icmp .ge 100, 3) := by decide +kernel
theorem d_T_splitToLine_24 : decode b_T_splitToLine 24 = .ok (.iload 5, 2) := by decide +kernel
theorem d_T_splitToLine_26 : decode b_T_splitToLine 26 = .ok (.iconst (-1), 1) := by decide +kernel
theorem d_T_splitToLine_27 : decode b_T_splitToLine 27 = .ok (.if_icmp .eq 94, 3) := by decide +kernel
theorem d_T_splitToLine_30 : decode b_T_splitToLine 30 = .ok (.aload_n 0, 1) := by decide +kernel
theorem d_T_splitToLine_31 : decode b_T_splitToLine 31 = .ok (.iload 5, 2) := by decide +kernel
theorem d_T_splitToLine_33 : decode b_T_splitToLine 33 = .ok (.iload_n 2, 1) := by decide +kernel
theorem d_T_splitToLine_34 : decode b_T_splitToLine 34 = .ok (.iconst 1, 1) := by decide +kernel
theorem d_T_splitToLine_35 : decode b_T_splitToLine 35 = .ok (.iconst 0, 1) := by decide +kernel
theorem d_T_splitToLine_36 : decode b_T_splitToLine 36 = .ok (.invokevirtual 110, 3) := by decide +kernel
theorem d_T_splitToLine_39 : decode b_T_splitToLine 39 = .ok (.istore 7, 2) := by decide +kernel
theorem d_T_splitToLine_41 : decode b_T_splitToLine 41 = .ok (.aload_n 0, 1) := by decide +kernel
theorem d_T_splitToLine_42 : decode b_T_splitToLine 42 = .ok (.iload 5, 2) := by decide +kernel
theorem d_T_splitToLine_44 : decode b_T_splitToLine 44 = .ok (.iload_n 2, 1) := by decide +kernel
theorem d_T_splitToLine_45 : decode b_T_splitToLine 45 = .ok (.iconst 1, 1) := by decide +kernel
theorem d_T_splitToLine_46 : decode b_T_splitToLine 46 = .ok (.iconst 1, 1) := by decide +kernel
theorem d_T_splitToLine_47 : decode b_T_splitToLine 47 = .ok (.invokevirtual 110, 3) := by decide +kernel
theorem d_T_splitToLine_50 : decode b_T_splitToLine 50 = .ok (.iconst (-1), 1) := by decide +kernel
theorem d_T_splitToLine_51 : decode b_T_splitToLine 51 = .ok (.if_icmp .eq 5, 3) := by decide +kernel
theorem d_T_splitToLine_54 : decode b_T_splitToLine 54 = .ok (.iconst 0, 1) := by decide +kernel
theorem d_T_splitToLine_55 : decode b_T_splitToLine 55 = .ok (.ireturn, 1) := by decide +kernel
theorem d_T_splitToLine_56 : decode b_T_splitToLine 56 = .ok (.aload_n 0, 1) := by decide +kernel
theorem d_T_splitToLine_57 : decode b_T_splitToLine 57 = .ok (.getfield 11, 3) := by decide +kernel
theorem d_T_splitToLine_60 : decode b_T_splitToLine 60 = .ok (.iload 5, 2) := by decide +kernel
theorem d_T_splitToLine_62 : decode b_T_splitToLine 62 = .ok (.iaload, 1) := by decide +kernel
theorem d_T_splitToLine_63 : decode b_T_splitToLine 63 = .ok (.ifCond .ne 30, 3) := by decide +kernel
theorem d_T_splitToLine_66 : decode b_T_splitToLine 66 = .ok (.aload_n 0, 1) := by decide +kernel
theorem d_T_splitToLine_67 : decode b_T_splitToLine 67 = .ok (.aload_n 0, 1) := by decide +kernel
theorem d_T_splitToLine_68 : decode b_T_splitToLine 68 = .ok (.iload 5, 2) := by decide +kernel
theorem d_T_splitToLine_70 : decode b_T_splitToLine 70 = .ok (.iload_n 2, 1) := by decide +kernel
theorem d_T_splitToLine_71 : decode b_T_splitToLine 71 = .ok (.iconst 0, 1) := by decide +kernel
theorem d_T_splitToLine_72 : decode b_T_splitToLine 72 = .ok (.invokevirtual 118, 3) := by decide +kernel
theorem d_T_splitToLine_75 : decode b_T_splitToLine 75 = .ok (.invokevirtual 122, 3) := by decide +kernel
theorem d_T_splitToLine_78 : decode b_T_splitToLine 78 = .ok (.aload_n 0, 1) := by decide +kernel
theorem d_T_splitToLine_79 : decode b_T_splitToLine 79 = .ok (.aload_n 0, 1) := by decide +kernel
theorem d_T_splitToLine_80 : decode b_T_splitToLine 80 = .ok (.iload 5, 2) := by decide +kernel
theorem d_T_splitToLine_82 : decode b_T_splitToLine 82 = .ok (.iload_n 2, 1) := by decide +kernel
theorem d_T_splitToLine_83 : decode b_T_splitToLine 83 = .ok (.iconst 2, 1) := by decide +kernel
theorem d_T_splitToLine_84 : decode b_T_splitToLine 84 = .ok (.invokevirtual 118, 3) := by decide +kernel
theorem d_T_splitToLine_87 : decode b_T_splitToLine 87 = .ok (.invokevirtual 135, 3) := by decide +kernel
theorem d_T_splitToLine_90 : decode b_T_splitToLine 90 = .ok (.goto 15, 3) := by decide +kernel
theorem d_T_splitToLine_93 : decode b_T_splitToLine 93 = .ok (.aload_n 0, 1) := by decide +kernel
theorem d_T_splitToLine_94 : decode b_T_splitToLine 94 = .ok (.iload 5, 2) := by decide +kernel
theorem d_T_splitToLine_96 : decode b_T_splitToLine 96 = .ok (.iload_n 2, 1) := by decide +kernel
theorem d_T_splitToLine_97 : decode b_T_splitToLine 97 = .ok (.invokevirtual 138, 3) := by decide +kernel
theorem d_T_splitToLine_100 : decode b_T_splitToLine 100 = .ok (.ifCond .ne 5, 3) := by decide +kernel
theorem d_T_splitToLine_103 : decode b_T_splitToLine 103 = .ok (.iconst 0, 1) := by decide +kernel
theorem d_T_splitToLine_104 : decode b_T_splitToLine 104 = .ok (.ireturn, 1) := by decide +kernel
theorem d_T_splitToLine_105 : decode b_T_splitToLine 105 = .ok (.aload_n 0, 1) := by decide +kernel
theorem d_T_splitToLine_106 : decode b_T_splitToLine 106 = .ok (.iload 5, 2) := by decide +kernel
theorem d_T_splitToLine_108 : decode b_T_splitToLine 108 = .ok (.invokevirtual 141, 3) := by decide +kernel
theorem d_T_splitToLine_111 : decode b_T_splitToLine 111 = .ok (.iload 7, 2) := by decide +kernel
theorem d_T_splitToLine_113 : decode b_T_splitToLine 113 = .ok (.istore 5, 2) := by decide +kernel
theorem d_T_splitToLine_115 : decode b_T_splitToLine 115 = .ok (.iinc 6 1, 3) := by decide +kernel
theorem d_T_splitToLine_118 : decode b_T_splitToLine 118 = .ok (.goto (-101), 3) := by decide +kernel
theorem d_T_splitToLine_121 : decode b_T_splitToLine 121 = .ok (.aload_n 0, 1) := by decide +kernel
theorem d_T_splitToLine_122 : decode b_T_splitToLine 122 = .ok (.getfield 40, 3) := by decide +kernel
theorem d_T_splitToLine_125 : decode b_T_splitToLine 125 = .ok (.ifCond .le 29, 3) := by decide +kernel
theorem d_T_splitToLine_128 : decode b_T_splitToLine 128 = .ok (.aload_n 0, 1) := by decide +kernel
theorem d_T_splitToLine_129 : decode b_T_splitToLine 129 = .ok (.dup, 1) := by decide +kernel
theorem d_T_splitToLine_130 : decode b_T_splitToLine 130 = .ok (.getfield 40, 3) := by decide +kernel
theorem d_T_splitToLine_133 : decode b_T_splitToLine 133 = .ok (.iconst 1, 1) := by decide +kernel
theorem d_T_splitToLine_134 : decode b_T_splitToLine 134 = .ok (.isub, 1) := by decide +kernel
theorem d_T_splitToLine_135 : decode b_T_splitToLine 135 = .ok (.putfield 40, 3) := by decide +kernel
theorem d_T_splitToLine_138 : decode b_T_splitToLine 138 = .ok (.aload_n 0, 1) := by decide +kernel
theorem d_T_splitToLine_139 : decode b_T_splitToLine 139 = .ok (.aload_n 0, 1) := by decide +kernel
theorem d_T_splitToLine_140 : decode b_T_splitToLine 140 = .ok (.getfield 37, 3) := by decide +kernel
theorem d_T_splitToLine_143 : decode b_T_splitToLine 143 = .ok (.aload_n 0, 1) := by decide +kernel
theorem d_T_splitToLine_144 : decode b_T_splitToLine 144 = .ok (.getfield 40, 3) := by decide +kernel
theorem d_T_splitToLine_147 : decode b_T_splitToLine 147 = .ok (.iaload, 1) := by decide +kernel
theorem d_T_splitToLine_148 : decode b_T_splitToLine 148 = .ok (.invokevirtual 122, 3) := by decide +kernel
theorem d_T_splitToLine_151 : decode b_T_splitToLine 151 = .ok (.goto (-30), 3) := by decide +kernel
theorem d_T_splitToLine_154 : decode b_T_splitToLine 154 = .ok (.iload_n 3, 1) := by decide +kernel
theorem d_T_splitToLine_155 : decode b_T_splitToLine 155 = .ok (.ifCond .ne 18, 3) := by decide +kernel
theorem d_T_splitToLine_158 : decode b_T_splitToLine 158 = .ok (.aload_n 0, 1) := by decide +kernel
theorem d_T_splitToLine_159 : decode b_T_splitToLine 159 = .ok (.getfield 31, 3) := by decide +kernel
theorem d_T_splitToLine_162 : decode b_T_splitToLine 162 = .ok (.iload 4, 2) := by decide +kernel
theorem d_T_splitToLine_164 : decode b_T_splitToLine 164 = .ok (.aload_n 0, 1) := by decide +kernel
theorem d_T_splitToLine_165 : decode b_T_splitToLine 165 = .ok (.getfield 34, 3) := by decide +kernel
theorem d_T_splitToLine_168 : decode b_T_splitToLine 168 = .ok (.iconst 1, 1) := by decide +kernel
theorem d_T_splitToLine_169 : decode b_T_splitToLine 169 = .ok (.isub, 1) := by decide +kernel
theorem d_T_splitToLine_170 : decode b_T_splitToLine 170 = .ok (.invokestatic 81, 3) := by decide +kernel
theorem d_T_splitToLine_173 : decode b_T_splitToLine 173 = .ok (.iconst 1, 1) := by decide +kernel
theorem d_T_splitToLine_174 : decode b_T_splitToLine 174 = .ok (.ireturn, 1) := by decide +kernel
theorem d_T_reduceFree_0 : decode b_T_reduceFree 0 = .ok (.aload_n 0, 1) := by decide +kernel
theorem d_T_reduceFree_1 : decode b_T_reduceFree 1 = .ok (.iload_n 1, 1) := by decide +kernel
theorem d_T_reduceFree_2 : decode b_T_reduceFree 2 = .ok (.iload_n 2, 1) := by decide +kernel
theorem d_T_reduceFree_3 : decode b_T_reduceFree 3 = .ok (.iconst 1, 1) := by decide +kernel
theorem d_T_reduceFree_4 : decode b_T_reduceFree 4 = .ok (.iconst 0, 1) := by decide +kernel
theorem d_T_reduceFree_5 : decode b_T_reduceFree 5 = .ok (.invokevirtual 110, 3) := by decide +kernel
theorem d_T_reduceFree_8 : decode b_T_reduceFree 8 = .ok (.istore_n 3, 1) := by decide +kernel
theorem d_T_reduceFree_9 : decode b_T_reduceFree 9 = .ok (.aload_n 0, 1) := by decide +kernel
theorem d_T_reduceFree_10 : decode b_T_reduceFree 10 = .ok (.iload_n 1, 1) := by decide +kernel
theorem d_T_reduceFree_11 : decode b_T_reduceFree 11 = .ok (.iload_n 2, 1) := by decide +kernel
theorem d_T_reduceFree_12 : decode b_T_reduceFree 12 = .ok (.iconst 1, 1) := by decide +kernel
theorem d_T_reduceFree_13 : decode b_T_reduceFree 13 = .ok (.iconst 1, 1) := by decide +kernel
theorem d_T_reduceFree_14 : decode b_T_reduceFree 14 = .ok (.invokevirtual 110, 3) := by decide +kernel
theorem d_T_reduceFree_17 : decode b_T_reduceFree 17 = .ok (.istore 4, 2) := by decide +kernel
theorem d_T_reduceFree_19 : decode b_T_reduceFree 19 = .ok (.aload_n 0, 1) := by decide +kernel
theorem d_T_reduceFree_20 : decode b_T_reduceFree 20 = .ok (.iload_n 1, 1) := by decide +kernel
theorem d_T_reduceFree_21 : decode b_T_reduceFree 21 = .ok (.iload_n 2, 1) := by decide +kernel
theorem d_T_reduceFree_22 : decode b_T_reduceFree 22 = .ok (.iconst 1, 1) := by decide +kernel
theorem d_T_reduceFree_23 : decode b_T_reduceFree 23 = .ok (.iconst 2, 1) := by decide +kernel
theorem d_T_reduceFree_24 : decode b_T_reduceFree 24 = .ok (.invokevirtual 110, 3) := by decide +kernel
theorem d_T_reduceFree_27 : decode b_T_reduceFree 27 = .ok (.iconst (-1), 1) := by decide +kernel
theorem d_T_reduceFree_28 : decode b_T_reduceFree 28 = .ok (.if_icmp .eq 5, 3) := by decide +kernel
theorem d_T_reduceFree_31 : decode b_T_reduceFree 31 = .ok (.iconst 0, 1) := by decide +kernel
theorem d_T_reduceFree_32 : decode b_T_reduceFree 32 = .ok (.ireturn, 1) := by decide +kernel
theorem d_T_reduceFree_33 : decode b_T_reduceFree 33 = .ok (.iload_n 3, 1) := by decide +kernel
theorem d_T_reduceFree_34 : decode b_T_reduceFree 34 = .ok (.iconst (-1), 1) := by decide +kernel
theorem d_T_reduceFree_35 : decode b_T_reduceFree 35 = .ok (.if_icmp .eq 15, 3) := by decide +kernel
theorem d_T_reduceFree_38 : decode b_T_reduceFree 38 = .ok (.aload_n 0, 1) := by decide +kernel
theorem d_T_reduceFree_39 : decode b_T_reduceFree 39 = .ok (.iload_n 3, 1) := by decide +kernel
theorem d_T_reduceFree_40 : decode b_T_reduceFree 40 = .ok (.iload_n 2, 1) := by decide +kernel
theorem d_T_reduceFree_41 : decode b_T_reduceFree 41 = .ok (.iconst 1, 1) := by decide +kernel
theorem d_T_reduceFree_42 : decode b_T_reduceFree 42 = .ok (.invokevirtual 114, 3) := by decide +kernel
theorem d_T_reduceFree_45 : decode b_T_reduceFree 45 = .ok (.ifCond .ne 5, 3) := by decide +kernel
theorem d_T_reduceFree_48 : decode b_T_reduceFree 48 = .ok (.iconst 0, 1) := by decide +kernel
theorem d_T_reduceFree_49 : decode b_T_reduceFree 49 = .ok (.ireturn, 1) := by decide +kernel
theorem d_T_reduceFree_50 : decode b_T_reduceFree 50 = .ok (.aload_n 0, 1) := by decide +kernel
theorem d_T_reduceFree_51 : decode b_T_reduceFree 51 = .ok (.aload_n 0, 1) := by decide +kernel
theorem d_T_reduceFree_52 : decode b_T_reduceFree 52 = .ok (.iload_n 1, 1) := by decide +kernel
theorem d_T_reduceFree_53 : decode b_T_reduceFree 53 = .ok (.iload_n 2, 1) := by decide +kernel
theorem d_T_reduceFree_54 : decode b_T_reduceFree 54 = .ok (.iconst 2, 1) := by decide +kernel
theorem d_T_reduceFree_55 : decode b_T_reduceFree 55 = .ok (.invokevirtual 118, 3) := by decide +kernel
theorem d_T_reduceFree_58 : decode b_T_reduceFree 58 = .ok (.invokevirtual 122, 3) := by decide +kernel
theorem d_T_reduceFree_61 : decode b_T_reduceFree 61 = .ok (.iload 4, 2) := by decide +kernel
theorem d_T_reduceFree_63 : decode b_T_reduceFree 63 = .ok (.iconst (-1), 1) := by decide +kernel
theorem d_T_reduceFree_64 : decode b_T_reduceFree 64 = .ok (.if_icmp .eq 16, 3) := by decide +kernel
theorem d_T_reduceFree_67 : decode b_T_reduceFree 67 = .ok (.aload_n 0, 1) := by decide +kernel
theorem d_T_reduceFree_68 : decode b_T_reduceFree 68 = .ok (.iload 4, 2) := by decide +kernel
theorem d_T_reduceFree_70 : decode b_T_reduceFree 70 = .ok (.iload_n 2, 1) := by decide +kernel
theorem d_T_reduceFree_71 : decode b_T_reduceFree 71 = .ok (.iconst 0, 1) := by decide +kernel
theorem d_T_reduceFree_72 : decode b_T_reduceFree 72 = .ok (.invokevirtual 114, 3) := by decide +kernel
theorem d_T_reduceFree_75 : decode b_T_reduceFree 75 = .ok (.ifCond .ne 5, 3) := by decide +kernel
theorem d_T_reduceFree_78 : decode b_T_reduceFree 78 = .ok (.iconst 0, 1) := by decide +kernel
theorem d_T_reduceFree_79 : decode b_T_reduceFree 79 = .ok (.ireturn, 1) := by decide +kernel
theorem d_T_reduceFree_80 : decode b_T_reduceFree 80 = .ok (.aload_n 0, 1) := by decide +kernel
theorem d_T_reduceFree_81 : decode b_T_reduceFree 81 = .ok (.iload_n 1, 1) := by decide +kernel
theorem d_T_reduceFree_82 : decode b_T_reduceFree 82 = .ok (.iload_n 2, 1) := by decide +kernel
theorem d_T_reduceFree_83 : decode b_T_reduceFree 83 = .ok (.invokevirtual 125, 3) := by decide +kernel
theorem d_T_reduceFree_86 : decode b_T_reduceFree 86 = .ok (.aload_n 0, 1) := by decide +kernel
theorem d_T_reduceFree_87 : decode b_T_reduceFree 87 = .ok (.getfield 18, 3) := by decide +kernel
theorem d_T_reduceFree_90 : decode b_T_reduceFree 90 = .ok (.iload_n 1, 1) := by decide +kernel
theorem d_T_reduceFree_91 : decode b_T_reduceFree 91 = .ok (.iaload, 1) := by decide +kernel
theorem d_T_reduceFree_92 : decode b_T_reduceFree 92 = .ok (.ifCond .ne 11, 3) := by decide +kernel
theorem d_T_reduceFree_95 : decode b_T_reduceFree 95 = .ok (.aload_n 0, 1) := by decide +kernel
theorem d_T_reduceFree_96 : decode b_T_reduceFree 96 = .ok (.iload_n 1, 1) := by decide +kernel
theorem d_T_reduceFree_97 : decode b_T_reduceFree 97 = .ok (.invokevirtual 128, 3) := by decide +kernel
theorem d_T_reduceFree_100 : decode b_T_reduceFree 100 = .ok (.goto 44, 3) := by decide +kernel
theorem d_T_reduceFree_103 : decode b_T_reduceFree 103 = .ok (.aload_n 0, 1) := by decide +kernel
theorem d_T_reduceFree_104 : decode b_T_reduceFree 104 = .ok (.getfield 34, 3) := by decide +kernel
theorem d_T_reduceFree_107 : decode b_T_reduceFree 107 = .ok (.iconst 1, 1) := by decide +kernel
theorem d_T_reduceFree_108 : decode b_T_reduceFree 108 = .ok (.if_icmp .ne 17, 3) := by decide +kernel
theorem d_T_reduceFree_111 : decode b_T_reduceFree 111 = .ok (.aload_n 0, 1) := by decide +kernel
theorem d_T_reduceFree_112 : decode b_T_reduceFree 112 = .ok (.iload_n 1, 1) := by decide +kernel
theorem d_T_reduceFree_113 : decode b_T_reduceFree 113 = .ok (.aload_n 0, 1) := by decide +kernel
theorem d_T_reduceFree_114 : decode b_T_reduceFree 114 = .ok (.getfield 31, 3) := by decide +kernel
theorem d_T_reduceFree_117 : decode b_T_reduceFree 117 = .ok (.iconst 0, 1) := by decide +kernel
theorem d_T_reduceFree_118 : decode b_T_reduceFree 118 = .ok (.iaload, 1) := by decide +kernel
theorem d_T_reduceFree_119 : decode b_T_reduceFree 119 = .ok (.invokevirtual 61, 3) := by decide +kernel
theorem d_T_reduceFree_122 : decode b_T_reduceFree 122 = .ok (.goto 22, 3) := by decide +kernel
theorem d_T_reduceFree_125 : decode b_T_reduceFree 125 = .ok (.aload_n 0, 1) := by decide +kernel
theorem d_T_reduceFree_126 : decode b_T_reduceFree 126 = .ok (.invokevirtual 131, 3) := by decide +kernel
theorem d_T_reduceFree_129 : decode b_T_reduceFree 129 = .ok (.istore 5, 2) := by decide +kernel
theorem d_T_reduceFree_131 : decode b_T_reduceFree 131 = .ok (.aload_n 0, 1) := by decide +kernel
theorem d_T_reduceFree_132 : decode b_T_reduceFree 132 = .ok (.iload 5, 2) := by decide +kernel
theorem d_T_reduceFree_134 : decode b_T_reduceFree 134 = .ok (.invokevirtual 128, 3) := by decide +kernel
theorem d_T_reduceFree_137 : decode b_T_reduceFree 137 = .ok (.aload_n 0, 1) := by decide +kernel
theorem d_T_reduceFree_138 : decode b_T_reduceFree 138 = .ok (.iload_n 1, 1) := by decide +kernel
theorem d_T_reduceFree_139 : decode b_T_reduceFree 139 = .ok (.iload 5, 2) := by decide +kernel
theorem d_T_reduceFree_141 : decode b_T_reduceFree 141 = .ok (.invokevirtual 61, 3) := by decide +kernel
theorem d_T_reduceFree_144 : decode b_T_reduceFree 144 = .ok (.iconst 1, 1) := by decide +kernel
theorem d_T_reduceFree_145 : decode b_T_reduceFree 145 = .ok (.ireturn, 1) := by decide +kernel
theorem d_T_reduceTurning_0 : decode b_T_reduceTurning 0 = .ok (.iconst 0, 1) := by decide +kernel
theorem d_T_reduceTurning_1 : decode b_T_reduceTurning 1 = .ok (.istore_n 3, 1) := by decide +kernel
theorem d_T_reduceTurning_2 : decode b_T_reduceTurning 2 = .ok (.iconst 0, 1) := by decide +kernel
theorem d_T_reduceTurning_3 : decode b_T_reduceTurning 3 = .ok (.istore 4, 2) := by decide +kernel
theorem d_T_reduceTurning_5 : decode b_T_reduceTurning 5 = .ok (.iload 4, 2) := by decide +kernel
theorem d_T_reduceTurning_7 : decode b_T_reduceTurning 7 = .ok (.aload_n 0, 1) := by decide +kernel
theorem d_T_reduceTurning_8 : decode b_T_reduceTurning 8 = .ok (.getfield 18, 3) := by decide +kernel
theorem d_T_reduceTurning_11 : decode b_T_reduceTurning 11 = .ok (.iload_n 1, 1) := by decide +kernel
theorem d_T_reduceTurning_12 : decode b_T_reduceTurning 12 = .ok (.iaload, 1) := by decide +kernel
theorem d_T_reduceTurning_13 : decode b_T_reduceTurning 13 = .ok (.if_icmp .ge 111, 3) := by decide +kernel
theorem d_T_reduceTurning_16 : decode b_T_reduceTurning 16 = .ok (.aload_n 0, 1) := by decide +kernel
theorem d_T_reduceTurning_17 : decode b_T_reduceTurning 17 = .ok (.iload_n 1, 1) := by decide +kernel
theorem d_T_reduceTurning_18 : decode b_T_reduceTurning 18 = .ok (.iload 4, 2) := by decide +kernel
theorem d_T_reduceTurning_20 : decode b_T_reduceTurning 20 = .ok (.invokevirtual 73, 3) := by decide +kernel
theorem d_T_reduceTurning_23 : decode b_T_reduceTurning 23 = .ok (.istore 5, 2) := by decide +kernel
theorem d_T_reduceTurning_25 : decode b_T_reduceTurning 25 = .ok (.aload_n 0, 1) := by decide +kernel
theorem d_T_reduceTurning_26 : decode b_T_reduceTurning 26 = .ok (.iload 5, 2) := by decide +kernel
theorem d_T_reduceTurning_28 : decode b_T_reduceTurning 28 = .ok (.iload_n 2, 1) := by decide +kernel
theorem d_T_reduceTurning_29 : decode b_T_reduceTurning 29 = .ok (.invokevirtual 97, 3) := by decide +kernel
theorem d_T_reduceTurning_32 : decode b_T_reduceTurning 32 = .ok (.istore 6, 2) := by decide +kernel
theorem d_T_reduceTurning_34 : decode b_T_reduceTurning 34 = .ok (.iload 6, 2) := by decide +kernel
theorem d_T_reduceTurning_36 : decode b_T_reduceTurning 36 = .ok (.ifCond .ne 22, 3) := by decide +kernel
theorem d_T_reduceTurning_39 : decode b_T_reduceTurning 39 = .ok (.iload_n 3, 1) := by decide +kernel
theorem d_T_reduceTurning_40 : decode b_T_reduceTurning 40 = .ok (.ifCond .ne 7, 3) := by decide +kernel
theorem d_T_reduceTurning_43 : decode b_T_reduceTurning 43 = .ok (.iconst 0, 1) := by decide +kernel
theorem d_T_reduceTurning_44 : decode b_T_reduceTurning 44 = .ok (.goto 4, 3) := by decide +kernel
theorem d_T_reduceTurning_47 : decode b_T_reduceTurning 47 = .ok (.iconst 2, 1) := by decide +kernel
theorem d_T_reduceTurning_48 : decode b_T_reduceTurning 48 = .ok (.istore_n 3, 1) := by decide +kernel
theorem d_T_reduceTurning_49 : decode b_T_reduceTurning 49 = .ok (.aload_n 0, 1) := by decide +kernel
theorem d_T_reduceTurning_50 : decode b_T_reduceTurning 50 = .ok (.iload 5, 2) := by decide +kernel
theorem d_T_reduceTurning_52 : decode b_T_reduceTurning 52 = .ok (.invokevirtual 122, 3) := by decide +kernel
theorem d_T_reduceTurning_55 : decode b_T_reduceTurning 55 = .ok (.goto 63, 3) := by decide +kernel
theorem d_T_reduceTurning_58 : decode b_T_reduceTurning 58 = .ok (.iload_n 3, 1) := by decide +kernel
theorem d_T_reduceTurning_59 : decode b_T_reduceTurning 59 = .ok (.iconst 2, 1) := by decide +kernel
theorem d_T_reduceTurning_60 : decode b_T_reduceTurning 60 = .ok (.if_icmp .ne 5, 3) := by decide +kernel
theorem d_T_reduceTurning_63 : decode b_T_reduceTurning 63 = .ok (.iconst 0, 1) := by decide +kernel
theorem d_T_reduceTurning_64 : decode b_T_reduceTurning 64 = .ok (.ireturn, 1) := by decide +kernel
theorem d_T_reduceTurning_65 : decode b_T_reduceTurning 65 = .ok (.iload 6, 2) := by decide +kernel
theorem d_T_reduceTurning_67 : decode b_T_reduceTurning 67 = .ok (.iconst 2, 1) := by decide +kernel
theorem d_T_reduceTurning_68 : decode b_T_reduceTurning 68 = .ok (.if_icmp .ne 14, 3) := by decide +kernel
theorem d_T_reduceTurning_71 : decode b_T_reduceTurning 71 = .ok (.iconst 1, 1) := by decide +kernel
theorem d_T_reduceTurning_72 : decode b_T_reduceTurning 72 = .ok (.istore_n 3, 1) := by decide +kernel
theorem d_T_reduceTurning_73 : decode b_T_reduceTurning 73 = .ok (.aload_n 0, 1) := by decide +kernel
theorem d_T_reduceTurning_74 : decode b_T_reduceTurning 74 = .ok (.iload 5, 2) := by decide +kernel
theorem d_T_reduceTurning_76 : decode b_T_reduceTurning 76 = .ok (.invokevirtual 122, 3) := by decide +kernel
theorem d_T_reduceTurning_79 : decode b_T_reduceTurning 79 = .ok (.goto 39, 3) := by decide +kernel
theorem d_T_reduceTurning_82 : decode b_T_reduceTurning 82 = .ok (.iload_n 3, 1) := by decide +kernel
theorem d_T_reduceTurning_83 : decode b_T_reduceTurning 83 = .ok (.ifCond .ne 7, 3) := by decide +kernel
theorem d_T_reduceTurning_86 : decode b_T_reduceTurning 86 = .ok (.iconst 1, 1) := by decide +kernel
theorem d_T_reduceTurning_87 : decode b_T_reduceTurning 87 = .ok (.goto 4, 3) := by decide +kernel
theorem d_T_reduceTurning_90 : decode b_T_reduceTurning 90 = .ok (.iconst 0, 1) := by decide +kernel
theorem d_T_reduceTurning_91 : decode b_T_reduceTurning 91 = .ok (.istore 7, 2) := by decide +kernel
theorem d_T_reduceTurning_93 : decode b_T_reduceTurning 93 = .ok (.aload_n 0, 1) := by decide +kernel
theorem d_T_reduceTurning_94 : decode b_T_reduceTurning 94 = .ok (.iload 5, 2) := by decide +kernel
theorem d_T_reduceTurning_96 : decode b_T_reduceTurning 96 = .ok (.iload_n 2, 1) := by decide +kernel
theorem d_T_reduceTurning_97 : decode b_T_reduceTurning 97 = .ok (.iload 7, 2) := by decide +kernel
theorem d_T_reduceTurning_99 : decode b_T_reduceTurning 99 = .ok (.invokevirtual 114, 3) := by decide +kernel
theorem d_T_reduceTurning_102 : decode b_T_reduceTurning 102 = .ok (.ifCond .ne 5, 3) := by decide +kernel
theorem d_T_reduceTurning_105 : decode b_T_reduceTurning 105 = .ok (.iconst 0, 1) := by decide +kernel
theorem d_T_reduceTurning_106 : decode b_T_reduceTurning 106 = .ok (.ireturn, 1) := by decide +kernel
theorem d_T_reduceTurning_107 : decode b_T_reduceTurning 107 = .ok (.iload 7, 2) := by decide +kernel
theorem d_T_reduceTurning_109 : decode b_T_reduceTurning 109 = .ok (.ifCond .eq 7, 3) := by decide +kernel
theorem d_T_reduceTurning_112 : decode b_T_reduceTurning 112 = .ok (.iconst 1, 1) := by decide +kernel
theorem d_T_reduceTurning_113 : decode b_T_reduceTurning 113 = .ok (.goto 4, 3) := by decide +kernel
theorem d_T_reduceTurning_116 : decode b_T_reduceTurning 116 = .ok (.iconst 2, 1) := by decide +kernel
theorem d_T_reduceTurning_117 : decode b_T_reduceTurning 117 = .ok (.istore_n 3, 1) := by decide +kernel
theorem d_T_reduceTurning_118 : decode b_T_reduceTurning 118 = .ok (.iinc 4 1, 3) := by decide +kernel
theorem d_T_reduceTurning_121 : decode b_T_reduceTurning 121 = .ok (.goto (-116), 3) := by decide +kernel
theorem d_T_reduceTurning_124 : decode b_T_reduceTurning 124 = .ok (.aload_n 0, 1) := by decide +kernel
theorem d_T_reduceTurning_125 : decode b_T_reduceTurning 125 = .ok (.iload_n 1, 1) := by decide +kernel
theorem d_T_reduceTurning_126 : decode b_T_reduceTurning 126 = .ok (.invokevirtual 128, 3) := by decide +kernel
theorem d_T_reduceTurning_129 : decode b_T_reduceTurning 129 = .ok (.iconst 1, 1) := by decide +kernel
theorem d_T_reduceTurning_130 : decode b_T_reduceTurning 130 = .ok (.ireturn, 1) := by decide +kernel
theorem d_T_reduce_0 : decode b_T_reduce 0 = .ok (.iload_n 1, 1) := by decide +kernel
theorem d_T_reduce_1 : decode b_T_reduce 1 = .ok (.aload_n 0, 1) := by decide +kernel
theorem d_T_reduce_2 : decode b_T_reduce 2 = .ok (.getfield 15, 3) := by decide +kernel
theorem d_T_reduce_5 : decode b_T_reduce 5 = .ok (.aload_n 0, 1) := by decide +kernel
theorem d_T_reduce_6 : decode b_T_reduce 6 = .ok (.getfield 24, 3) := by decide +kernel
theorem d_T_reduce_9 : decode b_T_reduce 9 = .ok (.iaload, 1) := by decide +kernel
theorem d_T_reduce_10 : decode b_T_reduce 10 = .ok (.iand, 1) := by decide +kernel
theorem d_T_reduce_11 : decode b_T_reduce 11 = .ok (.istore_n 2, 1) := by decide +kernel
theorem d_T_reduce_12 : decode b_T_reduce 12 = .ok (.iload_n 2, 1) := by decide +kernel
theorem d_T_reduce_13 : decode b_T_reduce 13 = .ok (.invokestatic 89, 3) := by decide +kernel
theorem d_T_reduce_16 : decode b_T_reduce 16 = .ok (.iconst 2, 1) := by decide +kernel
theorem d_T_reduce_17 : decode b_T_reduce 17 = .ok (.if_icmp .ge 5, 3) := by decide +kernel
theorem d_T_reduce_20 : decode b_T_reduce 20 = .ok (.iconst 1, 1) := by decide +kernel
theorem d_T_reduce_21 : decode b_T_reduce 21 = .ok (.ireturn, 1) := by decide +kernel
theorem d_T_reduce_22 : decode b_T_reduce 22 = .ok (.aload_n 0, 1) := by decide +kernel
theorem d_T_reduce_23 : decode b_T_reduce 23 = .ok (.iload_n 2, 1) := by decide +kernel
theorem d_T_reduce_24 : decode b_T_reduce 24 = .ok (.invokevirtual 94, 3) := by decide +kernel
theorem d_T_reduce_27 : decode b_T_reduce 27 = .ok (.istore_n 3, 1) := by decide +kernel
theorem d_T_reduce_28 : decode b_T_reduce 28 = .ok (.aload_n 0, 1) := by decide +kernel
theorem d_T_reduce_29 : decode b_T_reduce 29 = .ok (.iload_n 3, 1) := by decide +kernel
theorem d_T_reduce_30 : decode b_T_reduce 30 = .ok (.iload_n 2, 1) := by decide +kernel
theorem d_T_reduce_31 : decode b_T_reduce 31 = .ok (.invokevirtual 97, 3) := by decide +kernel
theorem d_T_reduce_34 : decode b_T_reduce 34 = .ok (.iconst 2, 1) := by decide +kernel
theorem d_T_reduce_35 : decode b_T_reduce 35 = .ok (.if_icmp .ne 5, 3) := by decide +kernel
theorem d_T_reduce_38 : decode b_T_reduce 38 = .ok (.iconst 1, 1) := by decide +kernel
theorem d_T_reduce_39 : decode b_T_reduce 39 = .ok (.ireturn, 1) := by decide +kernel
theorem d_T_reduce_40 : decode b_T_reduce 40 = .ok (.aload_n 0, 1) := by decide +kernel
theorem d_T_reduce_41 : decode b_T_reduce 41 = .ok (.iconst 0, 1) := by decide +kernel
theorem d_T_reduce_42 : decode b_T_reduce 42 = .ok (.putfield 34, 3) := by decide +kernel
theorem d_T_reduce_45 : decode b_T_reduce 45 = .ok (.aload_n 0, 1) := by decide +kernel
theorem d_T_reduce_46 : decode b_T_reduce 46 = .ok (.iconst 0, 1) := by decide +kernel
theorem d_T_reduce_47 : decode b_T_reduce 47 = .ok (.putfield 46, 3) := by decide +kernel
theorem d_T_reduce_50 : decode b_T_reduce 50 = .ok (.aload_n 0, 1) := by decide +kernel
theorem d_T_reduce_51 : decode b_T_reduce 51 = .ok (.getfield 11, 3) := by decide +kernel
theorem d_T_reduce_54 : decode b_T_reduce 54 = .ok (.iload_n 3, 1) := by decide +kernel
theorem d_T_reduce_55 : decode b_T_reduce 55 = .ok (.iaload, 1) := by decide +kernel
theorem d_T_reduce_56 : decode b_T_reduce 56 = .ok (.ifCond .ne 12, 3) := by decide +kernel
theorem d_T_reduce_59 : decode b_T_reduce 59 = .ok (.aload_n 0, 1) := by decide +kernel
theorem d_T_reduce_60 : decode b_T_reduce 60 = .ok (.iload_n 3, 1) := by decide +kernel
theorem d_T_reduce_61 : decode b_T_reduce 61 = .ok (.iload_n 2, 1) := by decide +kernel
theorem d_T_reduce_62 : decode b_T_reduce 62 = .ok (.invokevirtual 100, 3) := by decide +kernel
theorem d_T_reduce_65 : decode b_T_reduce 65 = .ok (.goto 9, 3) := by decide +kernel
theorem d_T_reduce_68 : decode b_T_reduce 68 = .ok (.aload_n 0, 1) := by decide +kernel
theorem d_T_reduce_69 : decode b_T_reduce 69 = .ok (.iload_n 3, 1) := by decide +kernel
theorem d_T_reduce_70 : decode b_T_reduce 70 = .ok (.iload_n 2, 1) := by decide +kernel
theorem d_T_reduce_71 : decode b_T_reduce 71 = .ok (.invokevirtual 104, 3) := by decide +kernel
theorem d_T_reduce_74 : decode b_T_reduce 74 = .ok (.istore 4, 2) := by decide +kernel
theorem d_T_reduce_76 : decode b_T_reduce 76 = .ok (.aload_n 0, 1) := by decide +kernel
theorem d_T_reduce_77 : decode b_T_reduce 77 = .ok (.invokevirtual 107, 3) := by decide +kernel
theorem d_T_reduce_80 : decode b_T_reduce 80 = .ok (.iload 4, 2) := by decide +kernel
theorem d_T_reduce_82 : decode b_T_reduce 82 = .ok (.ireturn, 1) := by decide +kernel
theorem d_T_nodeCount_0 : decode b_T_nodeCount 0 = .ok (.aload_n 0, 1) := by decide +kernel
theorem d_T_nodeCount_1 : decode b_T_nodeCount 1 = .ok (.getfield 28, 3) := by decide +kernel
theorem d_T_nodeCount_4 : decode b_T_nodeCount 4 = .ok (.ireturn, 1) := by decide +kernel
theorem d_T_isTurning_0 : decode b_T_isTurning 0 = .ok (.iload_n 1, 1) := by decide +kernel
theorem d_T_isTurning_1 : decode b_T_isTurning 1 = .ok (.ifCond .lt 28, 3) := by decide +kernel
theorem d_T_isTurning_4 : decode b_T_isTurning 4 = .ok (.iload_n 1, 1) := by decide +kernel
theorem d_T_isTurning_5 : decode b_T_isTurning 5 = .ok (.aload_n 0, 1) := by decide +kernel
theorem d_T_isTurning_6 : decode b_T_isTurning 6 = .ok (.getfield 28, 3) := by decide +kernel
theorem d_T_isTurning_9 : decode b_T_isTurning 9 = .ok (.if_icmp .ge 20, 3) := by decide +kernel
theorem d_T_isTurning_12 : decode b_T_isTurning 12 = .ok (.aload_n 0, 1) := by decide +kernel
theorem d_T_isTurning_13 : decode b_T_isTurning 13 = .ok (.getfield 11, 3) := by decide +kernel
theorem d_T_isTurning_16 : decode b_T_isTurning 16 = .ok (.bipush 8, 2) := by decide +kernel
theorem d_T_isTurning_18 : decode b_T_isTurning 18 = .ok (.iload_n 1, 1) := by decide +kernel
theorem d_T_isTurning_19 : decode b_T_isTurning 19 = .ok (.iadd, 1) := by decide +kernel
theorem d_T_isTurning_20 : decode b_T_isTurning 20 = .ok (.iaload, 1) := by decide +kernel
theorem d_T_isTurning_21 : decode b_T_isTurning 21 = .ok (.iconst 1, 1) := by decide +kernel
theorem d_T_isTurning_22 : decode b_T_isTurning 22 = .ok (.if_icmp .ne 7, 3) := by decide +kernel
theorem d_T_isTurning_25 : decode b_T_isTurning 25 = .ok (.iconst 1, 1) := by decide +kernel
theorem d_T_isTurning_26 : decode b_T_isTurning 26 = .ok (.goto 4, 3) := by decide +kernel
theorem d_T_isTurning_29 : decode b_T_isTurning 29 = .ok (.iconst 0, 1) := by decide +kernel
theorem d_T_isTurning_30 : decode b_T_isTurning 30 = .ok (.ireturn, 1) := by decide +kernel
theorem d_T_partCount_0 : decode b_T_partCount 0 = .ok (.iload_n 1, 1) := by decide +kernel
theorem d_T_partCount_1 : decode b_T_partCount 1 = .ok (.ifCond .lt 23, 3) := by decide +kernel
theorem d_T_partCount_4 : decode b_T_partCount 4 = .ok (.iload_n 1, 1) := by decide +kernel
theorem d_T_partCount_5 : decode b_T_partCount 5 = .ok (.aload_n 0, 1) := by decide +kernel
theorem d_T_partCount_6 : decode b_T_partCount 6 = .ok (.getfield 28, 3) := by decide +kernel
theorem d_T_partCount_9 : decode b_T_partCount 9 = .ok (.if_icmp .ge 15, 3) := by decide +kernel
theorem d_T_partCount_12 : decode b_T_partCount 12 = .ok (.aload_n 0, 1) := by decide +kernel
theorem d_T_partCount_13 : decode b_T_partCount 13 = .ok (.getfield 18, 3) := by decide +kernel
theorem d_T_partCount_16 : decode b_T_partCount 16 = .ok (.bipush 8, 2) := by decide +kernel
theorem d_T_partCount_18 : decode b_T_partCount 18 = .ok (.iload_n 1, 1) := by decide +kernel
theorem d_T_partCount_19 : decode b_T_partCount 19 = .ok (.iadd, 1) := by decide +kernel
theorem d_T_partCount_20 : decode b_T_partCount 20 = .ok (.iaload, 1) := by decide +kernel
theorem d_T_partCount_21 : decode b_T_partCount 21 = .ok (.goto 4, 3) := by decide +kernel
theorem d_T_partCount_24 : decode b_T_partCount 24 = .ok (.iconst 0, 1) := by decide +kernel
theorem d_T_partCount_25 : decode b_T_partCount 25 = .ok (.ireturn, 1) := by decide +kernel
theorem d_T_thingsOf_0 : decode b_T_thingsOf 0 = .ok (.iload_n 1, 1) := by decide +kernel
theorem d_T_thingsOf_1 : decode b_T_thingsOf 1 = .ok (.ifCond .lt 23, 3) := by decide +kernel
theorem d_T_thingsOf_4 : decode b_T_thingsOf 4 = .ok (.iload_n 1, 1) := by decide +kernel
theorem d_T_thingsOf_5 : decode b_T_thingsOf 5 = .ok (.aload_n 0, 1) := by decide +kernel
theorem d_T_thingsOf_6 : decode b_T_thingsOf 6 = .ok (.getfield 28, 3) := by decide +kernel
theorem d_T_thingsOf_9 : decode b_T_thingsOf 9 = .ok (.if_icmp .ge 15, 3) := by decide +kernel
theorem d_T_thingsOf_12 : decode b_T_thingsOf 12 = .ok (.aload_n 0, 1) := by decide +kernel
theorem d_T_thingsOf_13 : decode b_T_thingsOf 13 = .ok (.getfield 15, 3) := by decide +kernel
theorem d_T_thingsOf_16 : decode b_T_thingsOf 16 = .ok (.bipush 8, 2) := by decide +kernel
theorem d_T_thingsOf_18 : decode b_T_thingsOf 18 = .ok (.iload_n 1, 1) := by decide +kernel
theorem d_T_thingsOf_19 : decode b_T_thingsOf 19 = .ok (.iadd, 1) := by decide +kernel
theorem d_T_thingsOf_20 : decode b_T_thingsOf 20 = .ok (.iaload, 1) := by decide +kernel
theorem d_T_thingsOf_21 : decode b_T_thingsOf 21 = .ok (.goto 4, 3) := by decide +kernel
theorem d_T_thingsOf_24 : decode b_T_thingsOf 24 = .ok (.iconst 0, 1) := by decide +kernel
theorem d_T_thingsOf_25 : decode b_T_thingsOf 25 = .ok (.ireturn, 1) := by decide +kernel
theorem d_T_turningCount_0 : decode b_T_turningCount 0 = .ok (.iconst 0, 1) := by decide +kernel
theorem d_T_turningCount_1 : decode b_T_turningCount 1 = .ok (.istore_n 1, 1) := by decide +kernel
theorem d_T_turningCount_2 : decode b_T_turningCount 2 = .ok (.iconst 0, 1) := by decide +kernel
theorem d_T_turningCount_3 : decode b_T_turningCount 3 = .ok (.istore_n 2, 1) := by decide +kernel
theorem d_T_turningCount_4 : decode b_T_turningCount 4 = .ok (.iload_n 2, 1) := by decide +kernel
theorem d_T_turningCount_5 : decode b_T_turningCount 5 = .ok (.aload_n 0, 1) := by decide +kernel
theorem d_T_turningCount_6 : decode b_T_turningCount 6 = .ok (.getfield 28, 3) := by decide +kernel
theorem d_T_turningCount_9 : decode b_T_turningCount 9 = .ok (.if_icmp .ge 21, 3) := by decide +kernel
theorem d_T_turningCount_12 : decode b_T_turningCount 12 = .ok (.iload_n 1, 1) := by decide +kernel
theorem d_T_turningCount_13 : decode b_T_turningCount 13 = .ok (.aload_n 0, 1) := by decide +kernel
theorem d_T_turningCount_14 : decode b_T_turningCount 14 = .ok (.getfield 11, 3) := by decide +kernel
theorem d_T_turningCount_17 : decode b_T_turningCount 17 = .ok (.bipush 8, 2) := by decide +kernel
theorem d_T_turningCount_19 : decode b_T_turningCount 19 = .ok (.iload_n 2, 1) := by decide +kernel
theorem d_T_turningCount_20 : decode b_T_turningCount 20 = .ok (.iadd, 1) := by decide +kernel
theorem d_T_turningCount_21 : decode b_T_turningCount 21 = .ok (.iaload, 1) := by decide +kernel
theorem d_T_turningCount_22 : decode b_T_turningCount 22 = .ok (.iadd, 1) := by decide +kernel
theorem d_T_turningCount_23 : decode b_T_turningCount 23 = .ok (.istore_n 1, 1) := by decide +kernel
theorem d_T_turningCount_24 : decode b_T_turningCount 24 = .ok (.iinc 2 1, 3) := by decide +kernel
theorem d_T_turningCount_27 : decode b_T_turningCount 27 = .ok (.goto (-23), 3) := by decide +kernel
theorem d_T_turningCount_30 : decode b_T_turningCount 30 = .ok (.iload_n 1, 1) := by decide +kernel
theorem d_T_turningCount_31 : decode b_T_turningCount 31 = .ok (.ireturn, 1) := by decide +kernel
theorem d_O_factorial_0 : decode b_O_factorial 0 = .ok (.iload_n 0, 1) := by decide +kernel
theorem d_O_factorial_1 : decode b_O_factorial 1 = .ok (.ifCond .lt 11, 3) := by decide +kernel
theorem d_O_factorial_4 : decode b_O_factorial 4 = .ok (.iload_n 0, 1) := by decide +kernel
theorem d_O_factorial_5 : decode b_O_factorial 5 = .ok (.getstatic 256, 3) := by decide +kernel
theorem d_O_factorial_8 : decode b_O_factorial 8 = .ok (.arraylength, 1) := by decide +kernel
theorem d_O_factorial_9 : decode b_O_factorial 9 = .ok (.if_icmp .lt 7, 3) := by decide +kernel
theorem d_O_factorial_12 : decode b_O_factorial 12 = .ok (.iconst 1, 1) := by decide +kernel
theorem d_O_factorial_13 : decode b_O_factorial 13 = .ok (.goto 8, 3) := by decide +kernel
theorem d_O_factorial_16 : decode b_O_factorial 16 = .ok (.getstatic 256, 3) := by decide +kernel
theorem d_O_factorial_19 : decode b_O_factorial 19 = .ok (.iload_n 0, 1) := by decide +kernel
theorem d_O_factorial_20 : decode b_O_factorial 20 = .ok (.iaload, 1) := by decide +kernel
theorem d_O_factorial_21 : decode b_O_factorial 21 = .ok (.ireturn, 1) := by decide +kernel
theorem d_T_ways_0 : decode b_T_ways 0 = .ok (.aload_n 0, 1) := by decide +kernel
theorem d_T_ways_1 : decode b_T_ways 1 = .ok (.getfield 11, 3) := by decide +kernel
theorem d_T_ways_4 : decode b_T_ways 4 = .ok (.iload_n 1, 1) := by decide +kernel
theorem d_T_ways_5 : decode b_T_ways 5 = .ok (.iaload, 1) := by decide +kernel
theorem d_T_ways_6 : decode b_T_ways 6 = .ok (.ifCond .ne 15, 3) := by decide +kernel
theorem d_T_ways_9 : decode b_T_ways 9 = .ok (.aload_n 0, 1) := by decide +kernel
theorem d_T_ways_10 : decode b_T_ways 10 = .ok (.getfield 18, 3) := by decide +kernel
theorem d_T_ways_13 : decode b_T_ways 13 = .ok (.iload_n 1, 1) := by decide +kernel
theorem d_T_ways_14 : decode b_T_ways 14 = .ok (.iaload, 1) := by decide +kernel
theorem d_T_ways_15 : decode b_T_ways 15 = .ok (.invokestatic 158, 3) := by decide +kernel
theorem d_T_ways_18 : decode b_T_ways 18 = .ok (.goto 4, 3) := by decide +kernel
theorem d_T_ways_21 : decode b_T_ways 21 = .ok (.iconst 2, 1) := by decide +kernel
theorem d_T_ways_22 : decode b_T_ways 22 = .ok (.ireturn, 1) := by decide +kernel
theorem d_T_rowCount_0 : decode b_T_rowCount 0 = .ok (.lconst 1, 1) := by decide +kernel
theorem d_T_rowCount_1 : decode b_T_rowCount 1 = .ok (.lstore_n 1, 1) := by decide +kernel
theorem d_T_rowCount_2 : decode b_T_rowCount 2 = .ok (.bipush 8, 2) := by decide +kernel
theorem d_T_rowCount_4 : decode b_T_rowCount 4 = .ok (.istore_n 3, 1) := by decide +kernel
theorem d_T_rowCount_5 : decode b_T_rowCount 5 = .ok (.iload_n 3, 1) := by decide +kernel
theorem d_T_rowCount_6 : decode b_T_rowCount 6 = .ok (.bipush 24, 2) := by decide +kernel
theorem d_T_rowCount_8 : decode b_T_rowCount 8 = .ok (.if_icmp .ge 27, 3) := by decide +kernel
theorem d_T_rowCount_11 : decode b_T_rowCount 11 = .ok (.aload_n 0, 1) := by decide +kernel
theorem d_T_rowCount_12 : decode b_T_rowCount 12 = .ok (.getfield 18, 3) := by decide +kernel
theorem d_T_rowCount_15 : decode b_T_rowCount 15 = .ok (.iload_n 3, 1) := by decide +kernel
theorem d_T_rowCount_16 : decode b_T_rowCount 16 = .ok (.iaload, 1) := by decide +kernel
theorem d_T_rowCount_17 : decode b_T_rowCount 17 = .ok (.ifCond .le 12, 3) := by decide +kernel
theorem d_T_rowCount_20 : decode b_T_rowCount 20 = .ok (.lload_n 1, 1) := by decide +kernel
theorem d_T_rowCount_21 : decode b_T_rowCount 21 = .ok (.aload_n 0, 1) := by decide +kernel
theorem d_T_rowCount_22 : decode b_T_rowCount 22 = .ok (.iload_n 3, 1) := by decide +kernel
theorem d_T_rowCount_23 : decode b_T_rowCount 23 = .ok (.invokevirtual 144, 3) := by decide +kernel
theorem d_T_rowCount_26 : decode b_T_rowCount 26 = .ok (.i2l, 1) := by decide +kernel
theorem d_T_rowCount_27 : decode b_T_rowCount 27 = .ok (.lmul, 1) := by decide +kernel
theorem d_T_rowCount_28 : decode b_T_rowCount 28 = .ok (.lstore_n 1, 1) := by decide +kernel
theorem d_T_rowCount_29 : decode b_T_rowCount 29 = .ok (.iinc 3 1, 3) := by decide +kernel
theorem d_T_rowCount_32 : decode b_T_rowCount 32 = .ok (.goto (-27), 3) := by decide +kernel
theorem d_T_rowCount_35 : decode b_T_rowCount 35 = .ok (.lload_n 1, 1) := by decide +kernel
theorem d_T_rowCount_36 : decode b_T_rowCount 36 = .ok (.lreturn, 1) := by decide +kernel
theorem d_T_setAt_0 : decode b_T_setAt 0 = .ok (.iload_n 1, 1) := by decide +kernel
theorem d_T_setAt_1 : decode b_T_setAt 1 = .ok (.ifCond .lt 13, 3) := by decide +kernel
theorem d_T_setAt_4 : decode b_T_setAt 4 = .ok (.iload_n 1, 1) := by decide +kernel
theorem d_T_setAt_5 : decode b_T_setAt 5 = .ok (.aload_n 0, 1) := by decide +kernel
theorem d_T_setAt_6 : decode b_T_setAt 6 = .ok (.arraylength, 1) := by decide +kernel
theorem d_T_setAt_7 : decode b_T_setAt 7 = .ok (.if_icmp .ge 7, 3) := by decide +kernel
theorem d_T_setAt_10 : decode b_T_setAt 10 = .ok (.aload_n 0, 1) := by decide +kernel
theorem d_T_setAt_11 : decode b_T_setAt 11 = .ok (.iload_n 1, 1) := by decide +kernel
theorem d_T_setAt_12 : decode b_T_setAt 12 = .ok (.iload_n 2, 1) := by decide +kernel
theorem d_T_setAt_13 : decode b_T_setAt 13 = .ok (.iastore, 1) := by decide +kernel
theorem d_T_setAt_14 : decode b_T_setAt 14 = .ok (.return_, 1) := by decide +kernel
theorem d_T_show_0 : decode b_T_show 0 = .ok (.aload_n 0, 1) := by decide +kernel
theorem d_T_show_1 : decode b_T_show 1 = .ok (.getfield 28, 3) := by decide +kernel
theorem d_T_show_4 : decode b_T_show 4 = .ok (.ifCond .ne 17, 3) := by decide +kernel
theorem d_T_show_7 : decode b_T_show 7 = .ok (.aload_n 1, 1) := by decide +kernel
theorem d_T_show_8 : decode b_T_show 8 = .ok (.iconst 0, 1) := by decide +kernel
theorem d_T_show_9 : decode b_T_show 9 = .ok (.bipush 97, 2) := by decide +kernel
theorem d_T_show_11 : decode b_T_show 11 = .ok (.aload_n 0, 1) := by decide +kernel
theorem d_T_show_12 : decode b_T_show 12 = .ok (.getfield 24, 3) := by decide +kernel
theorem d_T_show_15 : decode b_T_show 15 = .ok (.iadd, 1) := by decide +kernel
theorem d_T_show_16 : decode b_T_show 16 = .ok (.invokestatic 147, 3) := by decide +kernel
theorem d_T_show_19 : decode b_T_show 19 = .ok (.iconst 1, 1) := by decide +kernel
theorem d_T_show_20 : decode b_T_show 20 = .ok (.ireturn, 1) := by decide +kernel
theorem d_T_show_21 : decode b_T_show 21 = .ok (.bipush 8, 2) := by decide +kernel
theorem d_T_show_23 : decode b_T_show 23 = .ok (.aload_n 0, 1) := by decide +kernel
theorem d_T_show_24 : decode b_T_show 24 = .ok (.getfield 28, 3) := by decide +kernel
theorem d_T_show_27 : decode b_T_show 27 = .ok (.iadd, 1) := by decide +kernel
theorem d_T_show_28 : decode b_T_show 28 = .ok (.iconst 1, 1) := by decide +kernel
theorem d_T_show_29 : decode b_T_show 29 = .ok (.isub, 1) := by decide +kernel
theorem d_T_show_30 : decode b_T_show 30 = .ok (.istore_n 2, 1) := by decide +kernel
theorem d_T_show_31 : decode b_T_show 31 = .ok (.iload_n 2, 1) := by decide +kernel
theorem d_T_show_32 : decode b_T_show 32 = .ok (.bipush 8, 2) := by decide +kernel
theorem d_T_show_34 : decode b_T_show 34 = .ok (.if_icmp .lt 54, 3) := by decide +kernel
theorem d_T_show_37 : decode b_T_show 37 = .ok (.aload_n 0, 1) := by decide +kernel
theorem d_T_show_38 : decode b_T_show 38 = .ok (.getfield 52, 3) := by decide +kernel
theorem d_T_show_41 : decode b_T_show 41 = .ok (.iload_n 2, 1) := by decide +kernel
theorem d_T_show_42 : decode b_T_show 42 = .ok (.iconst 2, 1) := by decide +kernel
theorem d_T_show_43 : decode b_T_show 43 = .ok (.iastore, 1) := by decide +kernel
theorem d_T_show_44 : decode b_T_show 44 = .ok (.iconst 0, 1) := by decide +kernel
theorem d_T_show_45 : decode b_T_show 45 = .ok (.istore_n 3, 1) := by decide +kernel
theorem d_T_show_46 : decode b_T_show 46 = .ok (.iload_n 3, 1) := by decide +kernel
theorem d_T_show_47 : decode b_T_show 47 = .ok (.aload_n 0, 1) := by decide +kernel
theorem d_T_show_48 : decode b_T_show 48 = .ok (.getfield 18, 3) := by decide +kernel
theorem d_T_show_51 : decode b_T_show 51 = .ok (.iload_n 2, 1) := by decide +kernel
theorem d_T_show_52 : decode b_T_show 52 = .ok (.iaload, 1) := by decide +kernel
theorem d_T_show_53 : decode b_T_show 53 = .ok (.if_icmp .ge 29, 3) := by decide +kernel
theorem d_T_show_56 : decode b_T_show 56 = .ok (.aload_n 0, 1) := by decide +kernel
theorem d_T_show_57 : decode b_T_show 57 = .ok (.getfield 52, 3) := by decide +kernel
theorem d_T_show_60 : decode b_T_show 60 = .ok (.iload_n 2, 1) := by decide +kernel
theorem d_T_show_61 : decode b_T_show 61 = .ok (.dup2, 1) := by decide +kernel
theorem d_T_show_62 : decode b_T_show 62 = .ok (.iaload, 1) := by decide +kernel
theorem d_T_show_63 : decode b_T_show 63 = .ok (.aload_n 0, 1) := by decide +kernel
theorem d_T_show_64 : decode b_T_show 64 = .ok (.getfield 52, 3) := by decide +kernel
theorem d_T_show_67 : decode b_T_show 67 = .ok (.aload_n 0, 1) := by decide +kernel
theorem d_T_show_68 : decode b_T_show 68 = .ok (.iload_n 2, 1) := by decide +kernel
theorem d_T_show_69 : decode b_T_show 69 = .ok (.iload_n 3, 1) := by decide +kernel
theorem d_T_show_70 : decode b_T_show 70 = .ok (.invokevirtual 73, 3) := by decide +kernel
theorem d_T_show_73 : decode b_T_show 73 = .ok (.iaload, 1) := by decide +kernel
theorem d_T_show_74 : decode b_T_show 74 = .ok (.iadd, 1) := by decide +kernel
theorem d_T_show_75 : decode b_T_show 75 = .ok (.iastore, 1) := by decide +kernel
theorem d_T_show_76 : decode b_T_show 76 = .ok (.iinc 3 1, 3) := by decide +kernel
theorem d_T_show_79 : decode b_T_show 79 = .ok (.goto (-33), 3) := by decide +kernel
theorem d_T_show_82 : decode b_T_show 82 = .ok (.iinc 2 (-1), 3) := by decide +kernel
theorem d_T_show_85 : decode b_T_show 85 = .ok (.goto (-54), 3) := by decide +kernel
theorem d_T_show_88 : decode b_T_show 88 = .ok (.aload_n 0, 1) := by decide +kernel
theorem d_T_show_89 : decode b_T_show 89 = .ok (.getfield 49, 3) := by decide +kernel
theorem d_T_show_92 : decode b_T_show 92 = .ok (.aload_n 0, 1) := by decide +kernel
theorem d_T_show_93 : decode b_T_show 93 = .ok (.getfield 24, 3) := by decide +kernel
theorem d_T_show_96 : decode b_T_show 96 = .ok (.iconst 0, 1) := by decide +kernel
theorem d_T_show_97 : decode b_T_show 97 = .ok (.iastore, 1) := by decide +kernel
theorem d_T_show_98 : decode b_T_show 98 = .ok (.bipush 8, 2) := by decide +kernel
theorem d_T_show_100 : decode b_T_show 100 = .ok (.istore_n 2, 1) := by decide +kernel
theorem d_T_show_101 : decode b_T_show 101 = .ok (.iload_n 2, 1) := by decide +kernel
theorem d_T_show_102 : decode b_T_show 102 = .ok (.bipush 8, 2) := by decide +kernel
theorem d_T_show_104 : decode b_T_show 104 = .ok (.aload_n 0, 1) := by decide +kernel
theorem d_T_show_105 : decode b_T_show 105 = .ok (.getfield 28, 3) := by decide +kernel
theorem d_T_show_108 : decode b_T_show 108 = .ok (.iadd, 1) := by decide +kernel
theorem d_T_show_109 : decode b_T_show 109 = .ok (.if_icmp .ge 125, 3) := by decide +kernel
theorem d_T_show_112 : decode b_T_show 112 = .ok (.aload_n 0, 1) := by decide +kernel
theorem d_T_show_113 : decode b_T_show 113 = .ok (.getfield 49, 3) := by decide +kernel
theorem d_T_show_116 : decode b_T_show 116 = .ok (.iload_n 2, 1) := by decide +kernel
theorem d_T_show_117 : decode b_T_show 117 = .ok (.iaload, 1) := by decide +kernel
theorem d_T_show_118 : decode b_T_show 118 = .ok (.istore_n 3, 1) := by decide +kernel
theorem d_T_show_119 : decode b_T_show 119 = .ok (.aload_n 1, 1) := by decide +kernel
theorem d_T_show_120 : decode b_T_show 120 = .ok (.iload_n 3, 1) := by decide +kernel
theorem d_T_show_121 : decode b_T_show 121 = .ok (.aload_n 0, 1) := by decide +kernel
theorem d_T_show_122 : decode b_T_show 122 = .ok (.getfield 11, 3) := by decide +kernel
theorem d_T_show_125 : decode b_T_show 125 = .ok (.iload_n 2, 1) := by decide +kernel
theorem d_T_show_126 : decode b_T_show 126 = .ok (.iaload, 1) := by decide +kernel
theorem d_T_show_127 : decode b_T_show 127 = .ok (.ifCond .ne 8, 3) := by decide +kernel
theorem d_T_show_130 : decode b_T_show 130 = .ok (.bipush 40, 2) := by decide +kernel
theorem d_T_show_132 : decode b_T_show 132 = .ok (.goto 5, 3) := by decide +kernel
theorem d_T_show_135 : decode b_T_show 135 = .ok (.bipush 91, 2) := by decide +kernel
theorem d_T_show_137 : decode b_T_show 137 = .ok (.invokestatic 147, 3) := by decide +kernel
theorem d_T_show_140 : decode b_T_show 140 = .ok (.iinc 3 1, 3) := by decide +kernel
theorem d_T_show_143 : decode b_T_show 143 = .ok (.iconst 0, 1) := by decide +kernel
theorem d_T_show_144 : decode b_T_show 144 = .ok (.istore 4, 2) := by decide +kernel
theorem d_T_show_146 : decode b_T_show 146 = .ok (.iload 4, 2) := by decide +kernel
theorem d_T_show_148 : decode b_T_show 148 = .ok (.aload_n 0, 1) := by decide +kernel
theorem d_T_show_149 : decode b_T_show 149 = .ok (.getfield 18, 3) := by decide +kernel
theorem d_T_show_152 : decode b_T_show 152 = .ok (.iload_n 2, 1) := by decide +kernel
theorem d_T_show_153 : decode b_T_show 153 = .ok (.iaload, 1) := by decide +kernel
theorem d_T_show_154 : decode b_T_show 154 = .ok (.if_icmp .ge 53, 3) := by decide +kernel
theorem d_T_show_157 : decode b_T_show 157 = .ok (.aload_n 0, 1) := by decide +kernel
theorem d_T_show_158 : decode b_T_show 158 = .ok (.iload_n 2, 1) := by decide +kernel
theorem d_T_show_159 : decode b_T_show 159 = .ok (.iload 4, 2) := by decide +kernel
theorem d_T_show_161 : decode b_T_show 161 = .ok (.invokevirtual 73, 3) := by decide +kernel
theorem d_T_show_164 : decode b_T_show 164 = .ok (.istore 5, 2) := by decide +kernel
theorem d_T_show_166 : decode b_T_show 166 = .ok (.aload_n 0, 1) := by decide +kernel
theorem d_T_show_167 : decode b_T_show 167 = .ok (.getfield 49, 3) := by decide +kernel
theorem d_T_show_170 : decode b_T_show 170 = .ok (.iload 5, 2) := by decide +kernel
theorem d_T_show_172 : decode b_T_show 172 = .ok (.iload_n 3, 1) := by decide +kernel
theorem d_T_show_173 : decode b_T_show 173 = .ok (.iastore, 1) := by decide +kernel
theorem d_T_show_174 : decode b_T_show 174 = .ok (.iload 5, 2) := by decide +kernel
theorem d_T_show_176 : decode b_T_show 176 = .ok (.bipush 8, 2) := by decide +kernel
theorem d_T_show_178 : decode b_T_show 178 = .ok (.if_icmp .ge 13, 3) := by decide +kernel
theorem d_T_show_181 : decode b_T_show 181 = .ok (.aload_n 1, 1) := by decide +kernel
theorem d_T_show_182 : decode b_T_show 182 = .ok (.iload_n 3, 1) := by decide +kernel
theorem d_T_show_183 : decode b_T_show 183 = .ok (.bipush 97, 2) := by decide +kernel
theorem d_T_show_185 : decode b_T_show 185 = .ok (.iload 5, 2) := by decide +kernel
theorem d_T_show_187 : decode b_T_show 187 = .ok (.iadd, 1) := by decide +kernel
theorem d_T_show_188 : decode b_T_show 188 = .ok (.invokestatic 147, 3) := by decide +kernel
theorem d_T_show_191 : decode b_T_show 191 = .ok (.iload_n 3, 1) := by decide +kernel
theorem d_T_show_192 : decode b_T_show 192 = .ok (.aload_n 0, 1) := by decide +kernel
theorem d_T_show_193 : decode b_T_show 193 = .ok (.getfield 52, 3) := by decide +kernel
theorem d_T_show_196 : decode b_T_show 196 = .ok (.iload 5, 2) := by decide +kernel
theorem d_T_show_198 : decode b_T_show 198 = .ok (.iaload, 1) := by decide +kernel
theorem d_T_show_199 : decode b_T_show 199 = .ok (.iadd, 1) := by decide +kernel
theorem d_T_show_200 : decode b_T_show 200 = .ok (.istore_n 3, 1) := by decide +kernel
theorem d_T_show_201 : decode b_T_show 201 = .ok (.iinc 4 1, 3) := by decide +kernel
theorem d_T_show_204 : decode b_T_show 204 = .ok (.goto (-58), 3) := by decide +kernel
theorem d_T_show_207 : decode b_T_show 207 = .ok (.aload_n 1, 1) := by decide +kernel
theorem d_T_show_208 : decode b_T_show 208 = .ok (.iload_n 3, 1) := by decide +kernel
theorem d_T_show_209 : decode b_T_show 209 = .ok (.aload_n 0, 1) := by decide +kernel
theorem d_T_show_210 : decode b_T_show 210 = .ok (.getfield 11, 3) := by decide +kernel
theorem d_T_show_213 : decode b_T_show 213 = .ok (.iload_n 2, 1) := by decide +kernel
theorem d_T_show_214 : decode b_T_show 214 = .ok (.iaload, 1) := by decide +kernel
theorem d_T_show_215 : decode b_T_show 215 = .ok (.ifCond .ne 8, 3) := by decide +kernel
theorem d_T_show_218 : decode b_T_show 218 = .ok (.bipush 41, 2) := by decide +kernel
theorem d_T_show_220 : decode b_T_show 220 = .ok (.goto 5, 3) := by decide +kernel
theorem d_T_show_223 : decode b_T_show 223 = .ok (.bipush 93, 2) := by decide +kernel
theorem d_T_show_225 : decode b_T_show 225 = .ok (.invokestatic 147, 3) := by decide +kernel
theorem d_T_show_228 : decode b_T_show 228 = .ok (.iinc 2 1, 3) := by decide +kernel
theorem d_T_show_231 : decode b_T_show 231 = .ok (.goto (-130), 3) := by decide +kernel
theorem d_T_show_234 : decode b_T_show 234 = .ok (.aload_n 0, 1) := by decide +kernel
theorem d_T_show_235 : decode b_T_show 235 = .ok (.getfield 52, 3) := by decide +kernel
theorem d_T_show_238 : decode b_T_show 238 = .ok (.aload_n 0, 1) := by decide +kernel
theorem d_T_show_239 : decode b_T_show 239 = .ok (.getfield 24, 3) := by decide +kernel
theorem d_T_show_242 : decode b_T_show 242 = .ok (.iaload, 1) := by decide +kernel
theorem d_T_show_243 : decode b_T_show 243 = .ok (.ireturn, 1) := by decide +kernel
theorem d_T_nthBit_0 : decode b_T_nthBit 0 = .ok (.iconst 0, 1) := by decide +kernel
theorem d_T_nthBit_1 : decode b_T_nthBit 1 = .ok (.istore_n 2, 1) := by decide +kernel
theorem d_T_nthBit_2 : decode b_T_nthBit 2 = .ok (.iconst 0, 1) := by decide +kernel
theorem d_T_nthBit_3 : decode b_T_nthBit 3 = .ok (.istore_n 3, 1) := by decide +kernel
theorem d_T_nthBit_4 : decode b_T_nthBit 4 = .ok (.iload_n 3, 1) := by decide +kernel
theorem d_T_nthBit_5 : decode b_T_nthBit 5 = .ok (.bipush 8, 2) := by decide +kernel
theorem d_T_nthBit_7 : decode b_T_nthBit 7 = .ok (.if_icmp .ge 27, 3) := by decide +kernel
theorem d_T_nthBit_10 : decode b_T_nthBit 10 = .ok (.iload_n 0, 1) := by decide +kernel
theorem d_T_nthBit_11 : decode b_T_nthBit 11 = .ok (.iload_n 3, 1) := by decide +kernel
theorem d_T_nthBit_12 : decode b_T_nthBit 12 = .ok (.ishr, 1) := by decide +kernel
theorem d_T_nthBit_13 : decode b_T_nthBit 13 = .ok (.iconst 1, 1) := by decide +kernel
theorem d_T_nthBit_14 : decode b_T_nthBit 14 = .ok (.iand, 1) := by decide +kernel
theorem d_T_nthBit_15 : decode b_T_nthBit 15 = .ok (.ifCond .eq 13, 3) := by decide +kernel
theorem d_T_nthBit_18 : decode b_T_nthBit 18 = .ok (.iload_n 2, 1) := by decide +kernel
theorem d_T_nthBit_19 : decode b_T_nthBit 19 = .ok (.iload_n 1, 1) := by decide +kernel
theorem d_T_nthBit_20 : decode b_T_nthBit 20 = .ok (.if_icmp .ne 5, 3) := by decide +kernel
theorem d_T_nthBit_23 : decode b_T_nthBit 23 = .ok (.iload_n 3, 1) := by decide +kernel
theorem d_T_nthBit_24 : decode b_T_nthBit 24 = .ok (.ireturn, 1) := by decide +kernel
theorem d_T_nthBit_25 : decode b_T_nthBit 25 = .ok (.iinc 2 1, 3) := by decide +kernel
theorem d_T_nthBit_28 : decode b_T_nthBit 28 = .ok (.iinc 3 1, 3) := by decide +kernel
theorem d_T_nthBit_31 : decode b_T_nthBit 31 = .ok (.goto (-27), 3) := by decide +kernel
theorem d_T_nthBit_34 : decode b_T_nthBit 34 = .ok (.iconst 0, 1) := by decide +kernel
theorem d_T_nthBit_35 : decode b_T_nthBit 35 = .ok (.ireturn, 1) := by decide +kernel
theorem d_T_layParts_0 : decode b_T_layParts 0 = .ok (.aload_n 0, 1) := by decide +kernel
theorem d_T_layParts_1 : decode b_T_layParts 1 = .ok (.getfield 18, 3) := by decide +kernel
theorem d_T_layParts_4 : decode b_T_layParts 4 = .ok (.iload_n 1, 1) := by decide +kernel
theorem d_T_layParts_5 : decode b_T_layParts 5 = .ok (.iaload, 1) := by decide +kernel
theorem d_T_layParts_6 : decode b_T_layParts 6 = .ok (.istore_n 3, 1) := by decide +kernel
theorem d_T_layParts_7 : decode b_T_layParts 7 = .ok (.aload_n 0, 1) := by decide +kernel
theorem d_T_layParts_8 : decode b_T_layParts 8 = .ok (.getfield 49, 3) := by decide +kernel
theorem d_T_layParts_11 : decode b_T_layParts 11 = .ok (.iload_n 1, 1) := by decide +kernel
theorem d_T_layParts_12 : decode b_T_layParts 12 = .ok (.iaload, 1) := by decide +kernel
theorem d_T_layParts_13 : decode b_T_layParts 13 = .ok (.istore 4, 2) := by decide +kernel
theorem d_T_layParts_15 : decode b_T_layParts 15 = .ok (.iconst 1, 1) := by decide +kernel
theorem d_T_layParts_16 : decode b_T_layParts 16 = .ok (.iload_n 3, 1) := by decide +kernel
theorem d_T_layParts_17 : decode b_T_layParts 17 = .ok (.ishl, 1) := by decide +kernel
theorem d_T_layParts_18 : decode b_T_layParts 18 = .ok (.iconst 1, 1) := by decide +kernel
theorem d_T_layParts_19 : decode b_T_layParts 19 = .ok (.isub, 1) := by decide +kernel
theorem d_T_layParts_20 : decode b_T_layParts 20 = .ok (.istore 5, 2) := by decide +kernel
theorem d_T_layParts_22 : decode b_T_layParts 22 = .ok (.iload_n 2, 1) := by decide +kernel
theorem d_T_layParts_23 : decode b_T_layParts 23 = .ok (.istore 6, 2) := by decide +kernel
theorem d_T_layParts_25 : decode b_T_layParts 25 = .ok (.iconst 0, 1) := by decide +kernel
theorem d_T_layParts_26 : decode b_T_layParts 26 = .ok (.istore 7, 2) := by decide +kernel
theorem d_T_layParts_28 : decode b_T_layParts 28 = .ok (.iload 7, 2) := by decide +kernel
theorem d_T_layParts_30 : decode b_T_layParts 30 = .ok (.iload_n 3, 1) := by decide +kernel
theorem d_T_layParts_31 : decode b_T_layParts 31 = .ok (.if_icmp .ge 113, 3) := by decide +kernel
theorem d_T_layParts_34 : decode b_T_layParts 34 = .ok (.iload_n 2, 1) := by decide +kernel
theorem d_T_layParts_35 : decode b_T_layParts 35 = .ok (.ifCond .ne 8, 3) := by decide +kernel
theorem d_T_layParts_38 : decode b_T_layParts 38 = .ok (.iload 7, 2) := by decide +kernel
theorem d_T_layParts_40 : decode b_T_layParts 40 = .ok (.goto 9, 3) := by decide +kernel
theorem d_T_layParts_43 : decode b_T_layParts 43 = .ok (.iload_n 3, 1) := by decide +kernel
theorem d_T_layParts_44 : decode b_T_layParts 44 = .ok (.iconst 1, 1) := by decide +kernel
theorem d_T_layParts_45 : decode b_T_layParts 45 = .ok (.isub, 1) := by decide +kernel
theorem d_T_layParts_46 : decode b_T_layParts 46 = .ok (.iload 7, 2) := by decide +kernel
theorem d_T_layParts_48 : decode b_T_layParts 48 = .ok (.isub, 1) := by decide +kernel
theorem d_T_layParts_49 : decode b_T_layParts 49 = .ok (.istore 8, 2) := by decide +kernel
theorem d_T_layParts_51 : decode b_T_layParts 51 = .ok (.aload_n 0, 1) := by decide +kernel
theorem d_T_layParts_52 : decode b_T_layParts 52 = .ok (.getfield 11, 3) := by decide +kernel
theorem d_T_layParts_55 : decode b_T_layParts 55 = .ok (.iload_n 1, 1) := by decide +kernel
theorem d_T_layParts_56 : decode b_T_layParts 56 = .ok (.iaload, 1) := by decide +kernel
theorem d_T_layParts_57 : decode b_T_layParts 57 = .ok (.ifCond .ne 48, 3) := by decide +kernel
theorem d_T_layParts_60 : decode b_T_layParts 60 = .ok (.iload_n 3, 1) := by decide +kernel
theorem d_T_layParts_61 : decode b_T_layParts 61 = .ok (.iconst 1, 1) := by decide +kernel
theorem d_T_layParts_62 : decode b_T_layParts 62 = .ok (.isub, 1) := by decide +kernel
theorem d_T_layParts_63 : decode b_T_layParts 63 = .ok (.iload 7, 2) := by decide +kernel
theorem d_T_layParts_65 : decode b_T_layParts 65 = .ok (.isub, 1) := by decide +kernel
theorem d_T_layParts_66 : decode b_T_layParts 66 = .ok (.invokestatic 158, 3) := by decide +kernel
theorem d_T_layParts_69 : decode b_T_layParts 69 = .ok (.iconst 1, 1) := by decide +kernel
theorem d_T_layParts_70 : decode b_T_layParts 70 = .ok (.invokestatic 150, 3) := by decide +kernel
theorem d_T_layParts_73 : decode b_T_layParts 73 = .ok (.istore 9, 2) := by decide +kernel
theorem d_T_layParts_75 : decode b_T_layParts 75 = .ok (.iload 5, 2) := by decide +kernel
theorem d_T_layParts_77 : decode b_T_layParts 77 = .ok (.iload 6, 2) := by decide +kernel
theorem d_T_layParts_79 : decode b_T_layParts 79 = .ok (.iload 9, 2) := by decide +kernel
theorem d_T_layParts_81 : decode b_T_layParts 81 = .ok (.idiv, 1) := by decide +kernel
theorem d_T_layParts_82 : decode b_T_layParts 82 = .ok (.invokestatic 161, 3) := by decide +kernel
theorem d_T_layParts_85 : decode b_T_layParts 85 = .ok (.istore 8, 2) := by decide +kernel
theorem d_T_layParts_87 : decode b_T_layParts 87 = .ok (.iload 6, 2) := by decide +kernel
theorem d_T_layParts_89 : decode b_T_layParts 89 = .ok (.iload 9, 2) := by decide +kernel
theorem d_T_layParts_91 : decode b_T_layParts 91 = .ok (.irem, 1) := by decide +kernel
theorem d_T_layParts_92 : decode b_T_layParts 92 = .ok (.istore 6, 2) := by decide +kernel
theorem d_T_layParts_94 : decode b_T_layParts 94 = .ok (.iload 5, 2) := by decide +kernel
theorem d_T_layParts_96 : decode b_T_layParts 96 = .ok (.iconst 1, 1) := by decide +kernel
theorem d_T_layParts_97 : decode b_T_layParts 97 = .ok (.iload 8, 2) := by decide +kernel
theorem d_T_layParts_99 : decode b_T_layParts 99 = .ok (.ishl, 1) := by decide +kernel
theorem d_T_layParts_100 : decode b_T_layParts 100 = .ok (.iconst (-1), 1) := by decide +kernel
theorem d_T_layParts_101 : decode b_T_layParts 101 = .ok (.ixor, 1) := by decide +kernel
theorem d_T_layParts_102 : decode b_T_layParts 102 = .ok (.iand, 1) := by decide +kernel
theorem d_T_layParts_103 : decode b_T_layParts 103 = .ok (.istore 5, 2) := by decide +kernel
theorem d_T_layParts_105 : decode b_T_layParts 105 = .ok (.aload_n 0, 1) := by decide +kernel
theorem d_T_layParts_106 : decode b_T_layParts 106 = .ok (.iload_n 1, 1) := by decide +kernel
theorem d_T_layParts_107 : decode b_T_layParts 107 = .ok (.iload 8, 2) := by decide +kernel
theorem d_T_layParts_109 : decode b_T_layParts 109 = .ok (.invokevirtual 73, 3) := by decide +kernel
theorem d_T_layParts_112 : decode b_T_layParts 112 = .ok (.istore 9, 2) := by decide +kernel
theorem d_T_layParts_114 : decode b_T_layParts 114 = .ok (.aload_n 0, 1) := by decide +kernel
theorem d_T_layParts_115 : decode b_T_layParts 115 = .ok (.getfield 49, 3) := by decide +kernel
theorem d_T_layParts_118 : decode b_T_layParts 118 = .ok (.iload 9, 2) := by decide +kernel
theorem d_T_layParts_120 : decode b_T_layParts 120 = .ok (.iload 4, 2) := by decide +kernel
theorem d_T_layParts_122 : decode b_T_layParts 122 = .ok (.iastore, 1) := by decide +kernel
theorem d_T_layParts_123 : decode b_T_layParts 123 = .ok (.iload 4, 2) := by decide +kernel
theorem d_T_layParts_125 : decode b_T_layParts 125 = .ok (.aload_n 0, 1) := by decide +kernel
theorem d_T_layParts_126 : decode b_T_layParts 126 = .ok (.getfield 15, 3) := by decide +kernel
theorem d_T_layParts_129 : decode b_T_layParts 129 = .ok (.iload 9, 2) := by decide +kernel
theorem d_T_layParts_131 : decode b_T_layParts 131 = .ok (.iaload, 1) := by decide +kernel
theorem d_T_layParts_132 : decode b_T_layParts 132 = .ok (.invokestatic 89, 3) := by decide +kernel
theorem d_T_layParts_135 : decode b_T_layParts 135 = .ok (.iadd, 1) := by decide +kernel
theorem d_T_layParts_136 : decode b_T_layParts 136 = .ok (.istore 4, 2) := by decide +kernel
theorem d_T_layParts_138 : decode b_T_layParts 138 = .ok (.iinc 7 1, 3) := by decide +kernel
