/-! what each instruction of the class is (by program) -/
theorem d_Dw_base_0 : decode (mb M_Dw_base) 0 = .ok (.aload_n 0, 1) := by decide +kernel
theorem d_Dw_base_1 : decode (mb M_Dw_base) 1 = .ok (.iload_n 1, 1) := by decide +kernel
theorem d_Dw_base_2 : decode (mb M_Dw_base) 2 = .ok (.invokevirtual 91, 3) := by decide +kernel
theorem d_Dw_base_5 : decode (mb M_Dw_base) 5 = .ok (.pop, 1) := by decide +kernel
theorem d_Dw_base_6 : decode (mb M_Dw_base) 6 = .ok (.aload_n 0, 1) := by decide +kernel
theorem d_Dw_base_7 : decode (mb M_Dw_base) 7 = .ok (.iload_n 2, 1) := by decide +kernel
theorem d_Dw_base_8 : decode (mb M_Dw_base) 8 = .ok (.invokevirtual 91, 3) := by decide +kernel
theorem d_Dw_base_11 : decode (mb M_Dw_base) 11 = .ok (.pop, 1) := by decide +kernel
theorem d_Dw_base_12 : decode (mb M_Dw_base) 12 = .ok (.aload_n 0, 1) := by decide +kernel
theorem d_Dw_base_13 : decode (mb M_Dw_base) 13 = .ok (.iload_n 1, 1) := by decide +kernel
theorem d_Dw_base_14 : decode (mb M_Dw_base) 14 = .ok (.iload_n 2, 1) := by decide +kernel
theorem d_Dw_base_15 : decode (mb M_Dw_base) 15 = .ok (.invokevirtual 237, 3) := by decide +kernel
theorem d_Dw_base_18 : decode (mb M_Dw_base) 18 = .ok (.ireturn, 1) := by decide +kernel
theorem d_Dw_baseOf_0 : decode (mb M_Dw_baseOf) 0 = .ok (.aload_n 0, 1) := by decide +kernel
theorem d_Dw_baseOf_1 : decode (mb M_Dw_baseOf) 1 = .ok (.iload_n 1, 1) := by decide +kernel
theorem d_Dw_baseOf_2 : decode (mb M_Dw_baseOf) 2 = .ok (.invokevirtual 189, 3) := by decide +kernel
theorem d_Dw_baseOf_5 : decode (mb M_Dw_baseOf) 5 = .ok (.aload_n 0, 1) := by decide +kernel
theorem d_Dw_baseOf_6 : decode (mb M_Dw_baseOf) 6 = .ok (.iload_n 2, 1) := by decide +kernel
theorem d_Dw_baseOf_7 : decode (mb M_Dw_baseOf) 7 = .ok (.invokevirtual 189, 3) := by decide +kernel
theorem d_Dw_baseOf_10 : decode (mb M_Dw_baseOf) 10 = .ok (.land, 1) := by decide +kernel
theorem d_Dw_baseOf_11 : decode (mb M_Dw_baseOf) 11 = .ok (.lstore_n 3, 1) := by decide +kernel
theorem d_Dw_baseOf_12 : decode (mb M_Dw_baseOf) 12 = .ok (.iload_n 1, 1) := by decide +kernel
theorem d_Dw_baseOf_13 : decode (mb M_Dw_baseOf) 13 = .ok (.iload_n 2, 1) := by decide +kernel
theorem d_Dw_baseOf_14 : decode (mb M_Dw_baseOf) 14 = .ok (.invokestatic 399, 3) := by decide +kernel
theorem d_Dw_baseOf_17 : decode (mb M_Dw_baseOf) 17 = .ok (.istore 5, 2) := by decide +kernel
theorem d_Dw_baseOf_19 : decode (mb M_Dw_baseOf) 19 = .ok (.iload 5, 2) := by decide +kernel
theorem d_Dw_baseOf_21 : decode (mb M_Dw_baseOf) 21 = .ok (.ifCond .le 23, 3) := by decide +kernel
theorem d_Dw_baseOf_24 : decode (mb M_Dw_baseOf) 24 = .ok (.lload_n 3, 1) := by decide +kernel
theorem d_Dw_baseOf_25 : decode (mb M_Dw_baseOf) 25 = .ok (.iload 5, 2) := by decide +kernel
theorem d_Dw_baseOf_27 : decode (mb M_Dw_baseOf) 27 = .ok (.lushr, 1) := by decide +kernel
theorem d_Dw_baseOf_28 : decode (mb M_Dw_baseOf) 28 = .ok (.lconst 1, 1) := by decide +kernel
theorem d_Dw_baseOf_29 : decode (mb M_Dw_baseOf) 29 = .ok (.land, 1) := by decide +kernel
theorem d_Dw_baseOf_30 : decode (mb M_Dw_baseOf) 30 = .ok (.lconst 0, 1) := by decide +kernel
theorem d_Dw_baseOf_31 : decode (mb M_Dw_baseOf) 31 = .ok (.lcmp, 1) := by decide +kernel
theorem d_Dw_baseOf_32 : decode (mb M_Dw_baseOf) 32 = .ok (.ifCond .eq 6, 3) := by decide +kernel
theorem d_Dw_baseOf_35 : decode (mb M_Dw_baseOf) 35 = .ok (.iload 5, 2) := by decide +kernel
theorem d_Dw_baseOf_37 : decode (mb M_Dw_baseOf) 37 = .ok (.ireturn, 1) := by decide +kernel
theorem d_Dw_baseOf_38 : decode (mb M_Dw_baseOf) 38 = .ok (.iinc 5 (-1), 3) := by decide +kernel
theorem d_Dw_baseOf_41 : decode (mb M_Dw_baseOf) 41 = .ok (.goto (-22), 3) := by decide +kernel
theorem d_Dw_baseOf_44 : decode (mb M_Dw_baseOf) 44 = .ok (.iconst 0, 1) := by decide +kernel
theorem d_Dw_baseOf_45 : decode (mb M_Dw_baseOf) 45 = .ok (.ireturn, 1) := by decide +kernel
theorem d_Dw_begin_0 : decode (mb M_Dw_begin) 0 = .ok (.aload_n 0, 1) := by decide +kernel
theorem d_Dw_begin_1 : decode (mb M_Dw_begin) 1 = .ok (.iload_n 1, 1) := by decide +kernel
theorem d_Dw_begin_2 : decode (mb M_Dw_begin) 2 = .ok (.invokevirtual 91, 3) := by decide +kernel
theorem d_Dw_begin_5 : decode (mb M_Dw_begin) 5 = .ok (.astore_n 3, 1) := by decide +kernel
theorem d_Dw_begin_6 : decode (mb M_Dw_begin) 6 = .ok (.aload_n 0, 1) := by decide +kernel
theorem d_Dw_begin_7 : decode (mb M_Dw_begin) 7 = .ok (.iload_n 2, 1) := by decide +kernel
theorem d_Dw_begin_8 : decode (mb M_Dw_begin) 8 = .ok (.invokevirtual 95, 3) := by decide +kernel
theorem d_Dw_begin_11 : decode (mb M_Dw_begin) 11 = .ok (.aload_n 0, 1) := by decide +kernel
theorem d_Dw_begin_12 : decode (mb M_Dw_begin) 12 = .ok (.getfield 58, 3) := by decide +kernel
theorem d_Dw_begin_15 : decode (mb M_Dw_begin) 15 = .ok (.aload_n 3, 1) := by decide +kernel
theorem d_Dw_begin_16 : decode (mb M_Dw_begin) 16 = .ok (.getfield 99, 3) := by decide +kernel
theorem d_Dw_begin_19 : decode (mb M_Dw_begin) 19 = .ok (.invokevirtual 103, 3) := by decide +kernel
theorem d_Dw_begin_22 : decode (mb M_Dw_begin) 22 = .ok (.aload_n 0, 1) := by decide +kernel
theorem d_Dw_begin_23 : decode (mb M_Dw_begin) 23 = .ok (.getfield 58, 3) := by decide +kernel
theorem d_Dw_begin_26 : decode (mb M_Dw_begin) 26 = .ok (.iload_n 2, 1) := by decide +kernel
theorem d_Dw_begin_27 : decode (mb M_Dw_begin) 27 = .ok (.iload_n 1, 1) := by decide +kernel
theorem d_Dw_begin_28 : decode (mb M_Dw_begin) 28 = .ok (.iconst (-1), 1) := by decide +kernel
theorem d_Dw_begin_29 : decode (mb M_Dw_begin) 29 = .ok (.invokevirtual 107, 3) := by decide +kernel
theorem d_Dw_begin_32 : decode (mb M_Dw_begin) 32 = .ok (.aload_n 0, 1) := by decide +kernel
theorem d_Dw_begin_33 : decode (mb M_Dw_begin) 33 = .ok (.iconst 1, 1) := by decide +kernel
theorem d_Dw_begin_34 : decode (mb M_Dw_begin) 34 = .ok (.putfield 65, 3) := by decide +kernel
theorem d_Dw_begin_37 : decode (mb M_Dw_begin) 37 = .ok (.aload_n 0, 1) := by decide +kernel
theorem d_Dw_begin_38 : decode (mb M_Dw_begin) 38 = .ok (.getfield 58, 3) := by decide +kernel
theorem d_Dw_begin_41 : decode (mb M_Dw_begin) 41 = .ok (.getfield 111, 3) := by decide +kernel
theorem d_Dw_begin_44 : decode (mb M_Dw_begin) 44 = .ok (.invokevirtual 112, 3) := by decide +kernel
theorem d_Dw_begin_47 : decode (mb M_Dw_begin) 47 = .ok (.ireturn, 1) := by decide +kernel
theorem d_Dw_belowOf_0 : decode (mb M_Dw_belowOf) 0 = .ok (.iload_n 1, 1) := by decide +kernel
theorem d_Dw_belowOf_1 : decode (mb M_Dw_belowOf) 1 = .ok (.ifCond .lt 11, 3) := by decide +kernel
theorem d_Dw_belowOf_4 : decode (mb M_Dw_belowOf) 4 = .ok (.iload_n 1, 1) := by decide +kernel
theorem d_Dw_belowOf_5 : decode (mb M_Dw_belowOf) 5 = .ok (.aload_n 0, 1) := by decide +kernel
theorem d_Dw_belowOf_6 : decode (mb M_Dw_belowOf) 6 = .ok (.getfield 72, 3) := by decide +kernel
theorem d_Dw_belowOf_9 : decode (mb M_Dw_belowOf) 9 = .ok (.if_icmp .lt 5, 3) := by decide +kernel
theorem d_Dw_belowOf_12 : decode (mb M_Dw_belowOf) 12 = .ok (.lconst 0, 1) := by decide +kernel
theorem d_Dw_belowOf_13 : decode (mb M_Dw_belowOf) 13 = .ok (.lreturn, 1) := by decide +kernel
theorem d_Dw_belowOf_14 : decode (mb M_Dw_belowOf) 14 = .ok (.aload_n 0, 1) := by decide +kernel
theorem d_Dw_belowOf_15 : decode (mb M_Dw_belowOf) 15 = .ok (.getfield 11, 3) := by decide +kernel
theorem d_Dw_belowOf_18 : decode (mb M_Dw_belowOf) 18 = .ok (.iload_n 1, 1) := by decide +kernel
theorem d_Dw_belowOf_19 : decode (mb M_Dw_belowOf) 19 = .ok (.aaload, 1) := by decide +kernel
theorem d_Dw_belowOf_20 : decode (mb M_Dw_belowOf) 20 = .ok (.getfield 195, 3) := by decide +kernel
theorem d_Dw_belowOf_23 : decode (mb M_Dw_belowOf) 23 = .ok (.lconst 1, 1) := by decide +kernel
theorem d_Dw_belowOf_24 : decode (mb M_Dw_belowOf) 24 = .ok (.iload_n 1, 1) := by decide +kernel
theorem d_Dw_belowOf_25 : decode (mb M_Dw_belowOf) 25 = .ok (.lshl, 1) := by decide +kernel
theorem d_Dw_belowOf_26 : decode (mb M_Dw_belowOf) 26 = .ok (.lor, 1) := by decide +kernel
theorem d_Dw_belowOf_27 : decode (mb M_Dw_belowOf) 27 = .ok (.lreturn, 1) := by decide +kernel
theorem d_Dw_blame_0 : decode (mb M_Dw_blame) 0 = .ok (.aload_n 0, 1) := by decide +kernel
theorem d_Dw_blame_1 : decode (mb M_Dw_blame) 1 = .ok (.iload_n 1, 1) := by decide +kernel
theorem d_Dw_blame_2 : decode (mb M_Dw_blame) 2 = .ok (.invokevirtual 91, 3) := by decide +kernel
theorem d_Dw_blame_5 : decode (mb M_Dw_blame) 5 = .ok (.getfield 99, 3) := by decide +kernel
theorem d_Dw_blame_8 : decode (mb M_Dw_blame) 8 = .ok (.astore_n 3, 1) := by decide +kernel
theorem d_Dw_blame_9 : decode (mb M_Dw_blame) 9 = .ok (.aload_n 0, 1) := by decide +kernel
theorem d_Dw_blame_10 : decode (mb M_Dw_blame) 10 = .ok (.iload_n 2, 1) := by decide +kernel
theorem d_Dw_blame_11 : decode (mb M_Dw_blame) 11 = .ok (.aload_n 3, 1) := by decide +kernel
theorem d_Dw_blame_12 : decode (mb M_Dw_blame) 12 = .ok (.invokevirtual 112, 3) := by decide +kernel
theorem d_Dw_blame_15 : decode (mb M_Dw_blame) 15 = .ok (.invokevirtual 121, 3) := by decide +kernel
theorem d_Dw_blame_18 : decode (mb M_Dw_blame) 18 = .ok (.aload_n 0, 1) := by decide +kernel
theorem d_Dw_blame_19 : decode (mb M_Dw_blame) 19 = .ok (.getfield 34, 3) := by decide +kernel
theorem d_Dw_blame_22 : decode (mb M_Dw_blame) 22 = .ok (.aload_n 3, 1) := by decide +kernel
theorem d_Dw_blame_23 : decode (mb M_Dw_blame) 23 = .ok (.iload_n 2, 1) := by decide +kernel
theorem d_Dw_blame_24 : decode (mb M_Dw_blame) 24 = .ok (.invokevirtual 156, 3) := by decide +kernel
theorem d_Dw_blame_27 : decode (mb M_Dw_blame) 27 = .ok (.invokevirtual 210, 3) := by decide +kernel
theorem d_Dw_blame_30 : decode (mb M_Dw_blame) 30 = .ok (.ireturn, 1) := by decide +kernel
theorem d_Dw_change_0 : decode (mb M_Dw_change) 0 = .ok (.aload_n 0, 1) := by decide +kernel
theorem d_Dw_change_1 : decode (mb M_Dw_change) 1 = .ok (.iload_n 1, 1) := by decide +kernel
theorem d_Dw_change_2 : decode (mb M_Dw_change) 2 = .ok (.aload_n 0, 1) := by decide +kernel
theorem d_Dw_change_3 : decode (mb M_Dw_change) 3 = .ok (.invokevirtual 118, 3) := by decide +kernel
theorem d_Dw_change_6 : decode (mb M_Dw_change) 6 = .ok (.invokevirtual 121, 3) := by decide +kernel
theorem d_Dw_change_9 : decode (mb M_Dw_change) 9 = .ok (.aload_n 0, 1) := by decide +kernel
theorem d_Dw_change_10 : decode (mb M_Dw_change) 10 = .ok (.lload_n 2, 1) := by decide +kernel
theorem d_Dw_change_11 : decode (mb M_Dw_change) 11 = .ok (.invokevirtual 125, 3) := by decide +kernel
theorem d_Dw_change_14 : decode (mb M_Dw_change) 14 = .ok (.aload_n 0, 1) := by decide +kernel
theorem d_Dw_change_15 : decode (mb M_Dw_change) 15 = .ok (.invokevirtual 129, 3) := by decide +kernel
theorem d_Dw_change_18 : decode (mb M_Dw_change) 18 = .ok (.aload_n 0, 1) := by decide +kernel
theorem d_Dw_change_19 : decode (mb M_Dw_change) 19 = .ok (.getfield 58, 3) := by decide +kernel
theorem d_Dw_change_22 : decode (mb M_Dw_change) 22 = .ok (.getfield 111, 3) := by decide +kernel
theorem d_Dw_change_25 : decode (mb M_Dw_change) 25 = .ok (.iload_n 1, 1) := by decide +kernel
theorem d_Dw_change_26 : decode (mb M_Dw_change) 26 = .ok (.invokevirtual 152, 3) := by decide +kernel
theorem d_Dw_change_29 : decode (mb M_Dw_change) 29 = .ok (.lstore 4, 2) := by decide +kernel
theorem d_Dw_change_31 : decode (mb M_Dw_change) 31 = .ok (.aload_n 0, 1) := by decide +kernel
theorem d_Dw_change_32 : decode (mb M_Dw_change) 32 = .ok (.getfield 58, 3) := by decide +kernel
theorem d_Dw_change_35 : decode (mb M_Dw_change) 35 = .ok (.getfield 111, 3) := by decide +kernel
theorem d_Dw_change_38 : decode (mb M_Dw_change) 38 = .ok (.iload_n 1, 1) := by decide +kernel
theorem d_Dw_change_39 : decode (mb M_Dw_change) 39 = .ok (.invokevirtual 156, 3) := by decide +kernel
theorem d_Dw_change_42 : decode (mb M_Dw_change) 42 = .ok (.istore 6, 2) := by decide +kernel
theorem d_Dw_change_44 : decode (mb M_Dw_change) 44 = .ok (.aload_n 0, 1) := by decide +kernel
theorem d_Dw_change_45 : decode (mb M_Dw_change) 45 = .ok (.getfield 58, 3) := by decide +kernel
theorem d_Dw_change_48 : decode (mb M_Dw_change) 48 = .ok (.new 139, 3) := by decide +kernel
theorem d_Dw_change_51 : decode (mb M_Dw_change) 51 = .ok (.dup, 1) := by decide +kernel
theorem d_Dw_change_52 : decode (mb M_Dw_change) 52 = .ok (.iconst 2, 1) := by decide +kernel
theorem d_Dw_change_53 : decode (mb M_Dw_change) 53 = .ok (.iload_n 1, 1) := by decide +kernel
theorem d_Dw_change_54 : decode (mb M_Dw_change) 54 = .ok (.iconst (-1), 1) := by decide +kernel
theorem d_Dw_change_55 : decode (mb M_Dw_change) 55 = .ok (.lload_n 2, 1) := by decide +kernel
theorem d_Dw_change_56 : decode (mb M_Dw_change) 56 = .ok (.aconst_null, 1) := by decide +kernel
theorem d_Dw_change_57 : decode (mb M_Dw_change) 57 = .ok (.invokespecial 141, 3) := by decide +kernel
theorem d_Dw_change_60 : decode (mb M_Dw_change) 60 = .ok (.invokevirtual 144, 3) := by decide +kernel
theorem d_Dw_change_63 : decode (mb M_Dw_change) 63 = .ok (.pop, 1) := by decide +kernel
theorem d_Dw_change_64 : decode (mb M_Dw_change) 64 = .ok (.aload_n 0, 1) := by decide +kernel
theorem d_Dw_change_65 : decode (mb M_Dw_change) 65 = .ok (.getfield 58, 3) := by decide +kernel
theorem d_Dw_change_68 : decode (mb M_Dw_change) 68 = .ok (.aload_n 0, 1) := by decide +kernel
theorem d_Dw_change_69 : decode (mb M_Dw_change) 69 = .ok (.getfield 34, 3) := by decide +kernel
theorem d_Dw_change_72 : decode (mb M_Dw_change) 72 = .ok (.iload_n 1, 1) := by decide +kernel
theorem d_Dw_change_73 : decode (mb M_Dw_change) 73 = .ok (.iload 6, 2) := by decide +kernel
theorem d_Dw_change_75 : decode (mb M_Dw_change) 75 = .ok (.invokevirtual 160, 3) := by decide +kernel
theorem d_Dw_change_78 : decode (mb M_Dw_change) 78 = .ok (.aload_n 0, 1) := by decide +kernel
theorem d_Dw_change_79 : decode (mb M_Dw_change) 79 = .ok (.dup, 1) := by decide +kernel
theorem d_Dw_change_80 : decode (mb M_Dw_change) 80 = .ok (.getfield 85, 3) := by decide +kernel
theorem d_Dw_change_83 : decode (mb M_Dw_change) 83 = .ok (.iconst 1, 1) := by decide +kernel
theorem d_Dw_change_84 : decode (mb M_Dw_change) 84 = .ok (.iadd, 1) := by decide +kernel
theorem d_Dw_change_85 : decode (mb M_Dw_change) 85 = .ok (.putfield 85, 3) := by decide +kernel
theorem d_Dw_change_88 : decode (mb M_Dw_change) 88 = .ok (.lload 4, 2) := by decide +kernel
theorem d_Dw_change_90 : decode (mb M_Dw_change) 90 = .ok (.lload_n 2, 1) := by decide +kernel
theorem d_Dw_change_91 : decode (mb M_Dw_change) 91 = .ok (.invokestatic 164, 3) := by decide +kernel
theorem d_Dw_change_94 : decode (mb M_Dw_change) 94 = .ok (.ireturn, 1) := by decide +kernel
theorem d_Dw_checkConflict_0 : decode (mb M_Dw_checkConflict) 0 = .ok (.aload_n 0, 1) := by decide +kernel
theorem d_Dw_checkConflict_1 : decode (mb M_Dw_checkConflict) 1 = .ok (.getfield 65, 3) := by decide +kernel
theorem d_Dw_checkConflict_4 : decode (mb M_Dw_checkConflict) 4 = .ok (.ifCond .eq 18, 3) := by decide +kernel
theorem d_Dw_checkConflict_7 : decode (mb M_Dw_checkConflict) 7 = .ok (.iload_n 1, 1) := by decide +kernel
theorem d_Dw_checkConflict_8 : decode (mb M_Dw_checkConflict) 8 = .ok (.ifCond .lt 14, 3) := by decide +kernel
theorem d_Dw_checkConflict_11 : decode (mb M_Dw_checkConflict) 11 = .ok (.iload_n 1, 1) := by decide +kernel
theorem d_Dw_checkConflict_12 : decode (mb M_Dw_checkConflict) 12 = .ok (.aload_n 0, 1) := by decide +kernel
theorem d_Dw_checkConflict_13 : decode (mb M_Dw_checkConflict) 13 = .ok (.getfield 58, 3) := by decide +kernel
theorem d_Dw_checkConflict_16 : decode (mb M_Dw_checkConflict) 16 = .ok (.invokevirtual 378, 3) := by decide +kernel
theorem d_Dw_checkConflict_19 : decode (mb M_Dw_checkConflict) 19 = .ok (.if_icmp .lt 14, 3) := by decide +kernel
theorem d_Dw_checkConflict_22 : decode (mb M_Dw_checkConflict) 22 = .ok (.new 294, 3) := by decide +kernel
theorem d_Dw_checkConflict_25 : decode (mb M_Dw_checkConflict) 25 = .ok (.dup, 1) := by decide +kernel
theorem d_Dw_checkConflict_26 : decode (mb M_Dw_checkConflict) 26 = .ok (.ldc_w 381, 3) := by decide +kernel
theorem d_Dw_checkConflict_29 : decode (mb M_Dw_checkConflict) 29 = .ok (.invokespecial 298, 3) := by decide +kernel
theorem d_Dw_checkConflict_32 : decode (mb M_Dw_checkConflict) 32 = .ok (.athrow, 1) := by decide +kernel
theorem d_Dw_checkConflict_33 : decode (mb M_Dw_checkConflict) 33 = .ok (.return_, 1) := by decide +kernel
theorem d_Dw_checkEditable_0 : decode (mb M_Dw_checkEditable) 0 = .ok (.aload_n 0, 1) := by decide +kernel
theorem d_Dw_checkEditable_1 : decode (mb M_Dw_checkEditable) 1 = .ok (.invokevirtual 168, 3) := by decide +kernel
theorem d_Dw_checkEditable_4 : decode (mb M_Dw_checkEditable) 4 = .ok (.aload_n 0, 1) := by decide +kernel
theorem d_Dw_checkEditable_5 : decode (mb M_Dw_checkEditable) 5 = .ok (.invokevirtual 270, 3) := by decide +kernel
theorem d_Dw_checkEditable_8 : decode (mb M_Dw_checkEditable) 8 = .ok (.return_, 1) := by decide +kernel
theorem d_Dw_checkLine_0 : decode (mb M_Dw_checkLine) 0 = .ok (.lload_n 1, 1) := by decide +kernel
theorem d_Dw_checkLine_1 : decode (mb M_Dw_checkLine) 1 = .ok (.invokestatic 383, 3) := by decide +kernel
theorem d_Dw_checkLine_4 : decode (mb M_Dw_checkLine) 4 = .ok (.ifCond .ne 14, 3) := by decide +kernel
theorem d_Dw_checkLine_7 : decode (mb M_Dw_checkLine) 7 = .ok (.new 241, 3) := by decide +kernel
theorem d_Dw_checkLine_10 : decode (mb M_Dw_checkLine) 10 = .ok (.dup, 1) := by decide +kernel
theorem d_Dw_checkLine_11 : decode (mb M_Dw_checkLine) 11 = .ok (.ldc_w 387, 3) := by decide +kernel
theorem d_Dw_checkLine_14 : decode (mb M_Dw_checkLine) 14 = .ok (.invokespecial 245, 3) := by decide +kernel
theorem d_Dw_checkLine_17 : decode (mb M_Dw_checkLine) 17 = .ok (.athrow, 1) := by decide +kernel
theorem d_Dw_checkLine_18 : decode (mb M_Dw_checkLine) 18 = .ok (.return_, 1) := by decide +kernel
theorem d_Dw_checkNotLanded_0 : decode (mb M_Dw_checkNotLanded) 0 = .ok (.aload_n 1, 1) := by decide +kernel
theorem d_Dw_checkNotLanded_1 : decode (mb M_Dw_checkNotLanded) 1 = .ok (.getfield 365, 3) := by decide +kernel
theorem d_Dw_checkNotLanded_4 : decode (mb M_Dw_checkNotLanded) 4 = .ok (.ifCond .eq 14, 3) := by decide +kernel
theorem d_Dw_checkNotLanded_7 : decode (mb M_Dw_checkNotLanded) 7 = .ok (.new 132, 3) := by decide +kernel
theorem d_Dw_checkNotLanded_10 : decode (mb M_Dw_checkNotLanded) 10 = .ok (.dup, 1) := by decide +kernel
theorem d_Dw_checkNotLanded_11 : decode (mb M_Dw_checkNotLanded) 11 = .ok (.ldc_w 397, 3) := by decide +kernel
theorem d_Dw_checkNotLanded_14 : decode (mb M_Dw_checkNotLanded) 14 = .ok (.invokespecial 136, 3) := by decide +kernel
theorem d_Dw_checkNotLanded_17 : decode (mb M_Dw_checkNotLanded) 17 = .ok (.athrow, 1) := by decide +kernel
theorem d_Dw_checkNotLanded_18 : decode (mb M_Dw_checkNotLanded) 18 = .ok (.return_, 1) := by decide +kernel
theorem d_Dw_checkPatchRoom_0 : decode (mb M_Dw_checkPatchRoom) 0 = .ok (.aload_n 0, 1) := by decide +kernel
theorem d_Dw_checkPatchRoom_1 : decode (mb M_Dw_checkPatchRoom) 1 = .ok (.getfield 76, 3) := by decide +kernel
theorem d_Dw_checkPatchRoom_4 : decode (mb M_Dw_checkPatchRoom) 4 = .ok (.bipush 10, 2) := by decide +kernel
theorem d_Dw_checkPatchRoom_6 : decode (mb M_Dw_checkPatchRoom) 6 = .ok (.if_icmp .lt 14, 3) := by decide +kernel
theorem d_Dw_checkPatchRoom_9 : decode (mb M_Dw_checkPatchRoom) 9 = .ok (.new 132, 3) := by decide +kernel
theorem d_Dw_checkPatchRoom_12 : decode (mb M_Dw_checkPatchRoom) 12 = .ok (.dup, 1) := by decide +kernel
theorem d_Dw_checkPatchRoom_13 : decode (mb M_Dw_checkPatchRoom) 13 = .ok (.ldc_w 395, 3) := by decide +kernel
theorem d_Dw_checkPatchRoom_16 : decode (mb M_Dw_checkPatchRoom) 16 = .ok (.invokespecial 136, 3) := by decide +kernel
theorem d_Dw_checkPatchRoom_19 : decode (mb M_Dw_checkPatchRoom) 19 = .ok (.athrow, 1) := by decide +kernel
theorem d_Dw_checkPatchRoom_20 : decode (mb M_Dw_checkPatchRoom) 20 = .ok (.return_, 1) := by decide +kernel
theorem d_Dw_checkPerson_0 : decode (mb M_Dw_checkPerson) 0 = .ok (.iload_n 1, 1) := by decide +kernel
theorem d_Dw_checkPerson_1 : decode (mb M_Dw_checkPerson) 1 = .ok (.ifCond .lt 9, 3) := by decide +kernel
theorem d_Dw_checkPerson_4 : decode (mb M_Dw_checkPerson) 4 = .ok (.iload_n 1, 1) := by decide +kernel
theorem d_Dw_checkPerson_5 : decode (mb M_Dw_checkPerson) 5 = .ok (.bipush 6, 2) := by decide +kernel
theorem d_Dw_checkPerson_7 : decode (mb M_Dw_checkPerson) 7 = .ok (.if_icmp .lt 14, 3) := by decide +kernel
theorem d_Dw_checkPerson_10 : decode (mb M_Dw_checkPerson) 10 = .ok (.new 294, 3) := by decide +kernel
theorem d_Dw_checkPerson_13 : decode (mb M_Dw_checkPerson) 13 = .ok (.dup, 1) := by decide +kernel
theorem d_Dw_checkPerson_14 : decode (mb M_Dw_checkPerson) 14 = .ok (.ldc_w 374, 3) := by decide +kernel
theorem d_Dw_checkPerson_17 : decode (mb M_Dw_checkPerson) 17 = .ok (.invokespecial 298, 3) := by decide +kernel
theorem d_Dw_checkPerson_20 : decode (mb M_Dw_checkPerson) 20 = .ok (.athrow, 1) := by decide +kernel
theorem d_Dw_checkPerson_21 : decode (mb M_Dw_checkPerson) 21 = .ok (.return_, 1) := by decide +kernel
theorem d_Dw_checkPlace_0 : decode (mb M_Dw_checkPlace) 0 = .ok (.iload_n 1, 1) := by decide +kernel
theorem d_Dw_checkPlace_1 : decode (mb M_Dw_checkPlace) 1 = .ok (.ifCond .lt 8, 3) := by decide +kernel
theorem d_Dw_checkPlace_4 : decode (mb M_Dw_checkPlace) 4 = .ok (.iload_n 1, 1) := by decide +kernel
theorem d_Dw_checkPlace_5 : decode (mb M_Dw_checkPlace) 5 = .ok (.iload_n 2, 1) := by decide +kernel
theorem d_Dw_checkPlace_6 : decode (mb M_Dw_checkPlace) 6 = .ok (.if_icmp .lt 14, 3) := by decide +kernel
theorem d_Dw_checkPlace_9 : decode (mb M_Dw_checkPlace) 9 = .ok (.new 294, 3) := by decide +kernel
theorem d_Dw_checkPlace_12 : decode (mb M_Dw_checkPlace) 12 = .ok (.dup, 1) := by decide +kernel
theorem d_Dw_checkPlace_13 : decode (mb M_Dw_checkPlace) 13 = .ok (.ldc_w 376, 3) := by decide +kernel
theorem d_Dw_checkPlace_16 : decode (mb M_Dw_checkPlace) 16 = .ok (.invokespecial 298, 3) := by decide +kernel
theorem d_Dw_checkPlace_19 : decode (mb M_Dw_checkPlace) 19 = .ok (.athrow, 1) := by decide +kernel
theorem d_Dw_checkPlace_20 : decode (mb M_Dw_checkPlace) 20 = .ok (.return_, 1) := by decide +kernel
theorem d_Dw_checkUses_0 : decode (mb M_Dw_checkUses) 0 = .ok (.aload_n 0, 1) := by decide +kernel
theorem d_Dw_checkUses_1 : decode (mb M_Dw_checkUses) 1 = .ok (.getfield 85, 3) := by decide +kernel
theorem d_Dw_checkUses_4 : decode (mb M_Dw_checkUses) 4 = .ok (.sipush 512, 3) := by decide +kernel
theorem d_Dw_checkUses_7 : decode (mb M_Dw_checkUses) 7 = .ok (.if_icmp .lt 14, 3) := by decide +kernel
theorem d_Dw_checkUses_10 : decode (mb M_Dw_checkUses) 10 = .ok (.new 132, 3) := by decide +kernel
theorem d_Dw_checkUses_13 : decode (mb M_Dw_checkUses) 13 = .ok (.dup, 1) := by decide +kernel
theorem d_Dw_checkUses_14 : decode (mb M_Dw_checkUses) 14 = .ok (.ldc_w 393, 3) := by decide +kernel
theorem d_Dw_checkUses_17 : decode (mb M_Dw_checkUses) 17 = .ok (.invokespecial 136, 3) := by decide +kernel
theorem d_Dw_checkUses_20 : decode (mb M_Dw_checkUses) 20 = .ok (.athrow, 1) := by decide +kernel
theorem d_Dw_checkUses_21 : decode (mb M_Dw_checkUses) 21 = .ok (.return_, 1) := by decide +kernel
theorem d_Dw_checkWhole_0 : decode (mb M_Dw_checkWhole) 0 = .ok (.aload_n 0, 1) := by decide +kernel
theorem d_Dw_checkWhole_1 : decode (mb M_Dw_checkWhole) 1 = .ok (.getfield 65, 3) := by decide +kernel
theorem d_Dw_checkWhole_4 : decode (mb M_Dw_checkWhole) 4 = .ok (.ifCond .ne 14, 3) := by decide +kernel
theorem d_Dw_checkWhole_7 : decode (mb M_Dw_checkWhole) 7 = .ok (.new 132, 3) := by decide +kernel
theorem d_Dw_checkWhole_10 : decode (mb M_Dw_checkWhole) 10 = .ok (.dup, 1) := by decide +kernel
theorem d_Dw_checkWhole_11 : decode (mb M_Dw_checkWhole) 11 = .ok (.ldc_w 389, 3) := by decide +kernel
theorem d_Dw_checkWhole_14 : decode (mb M_Dw_checkWhole) 14 = .ok (.invokespecial 136, 3) := by decide +kernel
theorem d_Dw_checkWhole_17 : decode (mb M_Dw_checkWhole) 17 = .ok (.athrow, 1) := by decide +kernel
theorem d_Dw_checkWhole_18 : decode (mb M_Dw_checkWhole) 18 = .ok (.aload_n 0, 1) := by decide +kernel
theorem d_Dw_checkWhole_19 : decode (mb M_Dw_checkWhole) 19 = .ok (.getfield 58, 3) := by decide +kernel
theorem d_Dw_checkWhole_22 : decode (mb M_Dw_checkWhole) 22 = .ok (.invokevirtual 252, 3) := by decide +kernel
theorem d_Dw_checkWhole_25 : decode (mb M_Dw_checkWhole) 25 = .ok (.ifCond .le 14, 3) := by decide +kernel
theorem d_Dw_checkWhole_28 : decode (mb M_Dw_checkWhole) 28 = .ok (.new 132, 3) := by decide +kernel
theorem d_Dw_checkWhole_31 : decode (mb M_Dw_checkWhole) 31 = .ok (.dup, 1) := by decide +kernel
theorem d_Dw_checkWhole_32 : decode (mb M_Dw_checkWhole) 32 = .ok (.ldc_w 391, 3) := by decide +kernel
theorem d_Dw_checkWhole_35 : decode (mb M_Dw_checkWhole) 35 = .ok (.invokespecial 136, 3) := by decide +kernel
theorem d_Dw_checkWhole_38 : decode (mb M_Dw_checkWhole) 38 = .ok (.athrow, 1) := by decide +kernel
theorem d_Dw_checkWhole_39 : decode (mb M_Dw_checkWhole) 39 = .ok (.return_, 1) := by decide +kernel
theorem d_Dw_commit_0 : decode (mb M_Dw_commit) 0 = .ok (.aload_n 0, 1) := by decide +kernel
theorem d_Dw_commit_1 : decode (mb M_Dw_commit) 1 = .ok (.invokevirtual 168, 3) := by decide +kernel
theorem d_Dw_commit_4 : decode (mb M_Dw_commit) 4 = .ok (.aload_n 0, 1) := by decide +kernel
theorem d_Dw_commit_5 : decode (mb M_Dw_commit) 5 = .ok (.getfield 72, 3) := by decide +kernel
theorem d_Dw_commit_8 : decode (mb M_Dw_commit) 8 = .ok (.bipush 40, 2) := by decide +kernel
theorem d_Dw_commit_10 : decode (mb M_Dw_commit) 10 = .ok (.if_icmp .lt 13, 3) := by decide +kernel
theorem d_Dw_commit_13 : decode (mb M_Dw_commit) 13 = .ok (.new 132, 3) := by decide +kernel
theorem d_Dw_commit_16 : decode (mb M_Dw_commit) 16 = .ok (.dup, 1) := by decide +kernel
theorem d_Dw_commit_17 : decode (mb M_Dw_commit) 17 = .ok (.ldc 180, 2) := by decide +kernel
theorem d_Dw_commit_19 : decode (mb M_Dw_commit) 19 = .ok (.invokespecial 136, 3) := by decide +kernel
theorem d_Dw_commit_22 : decode (mb M_Dw_commit) 22 = .ok (.athrow, 1) := by decide +kernel
theorem d_Dw_commit_23 : decode (mb M_Dw_commit) 23 = .ok (.aload_n 0, 1) := by decide +kernel
theorem d_Dw_commit_24 : decode (mb M_Dw_commit) 24 = .ok (.getfield 72, 3) := by decide +kernel
theorem d_Dw_commit_27 : decode (mb M_Dw_commit) 27 = .ok (.istore_n 1, 1) := by decide +kernel
theorem d_Dw_commit_28 : decode (mb M_Dw_commit) 28 = .ok (.aload_n 0, 1) := by decide +kernel
theorem d_Dw_commit_29 : decode (mb M_Dw_commit) 29 = .ok (.getfield 11, 3) := by decide +kernel
theorem d_Dw_commit_32 : decode (mb M_Dw_commit) 32 = .ok (.iload_n 1, 1) := by decide +kernel
theorem d_Dw_commit_33 : decode (mb M_Dw_commit) 33 = .ok (.aaload, 1) := by decide +kernel
theorem d_Dw_commit_34 : decode (mb M_Dw_commit) 34 = .ok (.astore_n 2, 1) := by decide +kernel
theorem d_Dw_commit_35 : decode (mb M_Dw_commit) 35 = .ok (.aload_n 2, 1) := by decide +kernel
theorem d_Dw_commit_36 : decode (mb M_Dw_commit) 36 = .ok (.aload_n 0, 1) := by decide +kernel
theorem d_Dw_commit_37 : decode (mb M_Dw_commit) 37 = .ok (.getfield 58, 3) := by decide +kernel
theorem d_Dw_commit_40 : decode (mb M_Dw_commit) 40 = .ok (.invokevirtual 182, 3) := by decide +kernel
theorem d_Dw_commit_43 : decode (mb M_Dw_commit) 43 = .ok (.aload_n 2, 1) := by decide +kernel
theorem d_Dw_commit_44 : decode (mb M_Dw_commit) 44 = .ok (.aload_n 0, 1) := by decide +kernel
theorem d_Dw_commit_45 : decode (mb M_Dw_commit) 45 = .ok (.aload_n 0, 1) := by decide +kernel
theorem d_Dw_commit_46 : decode (mb M_Dw_commit) 46 = .ok (.getfield 58, 3) := by decide +kernel
theorem d_Dw_commit_49 : decode (mb M_Dw_commit) 49 = .ok (.getfield 186, 3) := by decide +kernel
theorem d_Dw_commit_52 : decode (mb M_Dw_commit) 52 = .ok (.invokevirtual 189, 3) := by decide +kernel
theorem d_Dw_commit_55 : decode (mb M_Dw_commit) 55 = .ok (.aload_n 0, 1) := by decide +kernel
theorem d_Dw_commit_56 : decode (mb M_Dw_commit) 56 = .ok (.aload_n 0, 1) := by decide +kernel
theorem d_Dw_commit_57 : decode (mb M_Dw_commit) 57 = .ok (.getfield 58, 3) := by decide +kernel
theorem d_Dw_commit_60 : decode (mb M_Dw_commit) 60 = .ok (.getfield 192, 3) := by decide +kernel
theorem d_Dw_commit_63 : decode (mb M_Dw_commit) 63 = .ok (.invokevirtual 189, 3) := by decide +kernel
theorem d_Dw_commit_66 : decode (mb M_Dw_commit) 66 = .ok (.lor, 1) := by decide +kernel
theorem d_Dw_commit_67 : decode (mb M_Dw_commit) 67 = .ok (.putfield 195, 3) := by decide +kernel
theorem d_Dw_commit_70 : decode (mb M_Dw_commit) 70 = .ok (.aload_n 0, 1) := by decide +kernel
theorem d_Dw_commit_71 : decode (mb M_Dw_commit) 71 = .ok (.dup, 1) := by decide +kernel
theorem d_Dw_commit_72 : decode (mb M_Dw_commit) 72 = .ok (.getfield 72, 3) := by decide +kernel
theorem d_Dw_commit_75 : decode (mb M_Dw_commit) 75 = .ok (.iconst 1, 1) := by decide +kernel
theorem d_Dw_commit_76 : decode (mb M_Dw_commit) 76 = .ok (.iadd, 1) := by decide +kernel
theorem d_Dw_commit_77 : decode (mb M_Dw_commit) 77 = .ok (.putfield 72, 3) := by decide +kernel
theorem d_Dw_commit_80 : decode (mb M_Dw_commit) 80 = .ok (.aload_n 0, 1) := by decide +kernel
theorem d_Dw_commit_81 : decode (mb M_Dw_commit) 81 = .ok (.iconst 0, 1) := by decide +kernel
theorem d_Dw_commit_82 : decode (mb M_Dw_commit) 82 = .ok (.putfield 65, 3) := by decide +kernel
theorem d_Dw_commit_85 : decode (mb M_Dw_commit) 85 = .ok (.iload_n 1, 1) := by decide +kernel
theorem d_Dw_commit_86 : decode (mb M_Dw_commit) 86 = .ok (.ireturn, 1) := by decide +kernel
theorem d_Dw_compare_0 : decode (mb M_Dw_compare) 0 = .ok (.aload_n 0, 1) := by decide +kernel
theorem d_Dw_compare_1 : decode (mb M_Dw_compare) 1 = .ok (.iload_n 1, 1) := by decide +kernel
theorem d_Dw_compare_2 : decode (mb M_Dw_compare) 2 = .ok (.invokevirtual 91, 3) := by decide +kernel
theorem d_Dw_compare_5 : decode (mb M_Dw_compare) 5 = .ok (.getfield 99, 3) := by decide +kernel
theorem d_Dw_compare_8 : decode (mb M_Dw_compare) 8 = .ok (.astore 4, 2) := by decide +kernel
theorem d_Dw_compare_10 : decode (mb M_Dw_compare) 10 = .ok (.aload_n 0, 1) := by decide +kernel
theorem d_Dw_compare_11 : decode (mb M_Dw_compare) 11 = .ok (.iload_n 2, 1) := by decide +kernel
theorem d_Dw_compare_12 : decode (mb M_Dw_compare) 12 = .ok (.invokevirtual 91, 3) := by decide +kernel
theorem d_Dw_compare_15 : decode (mb M_Dw_compare) 15 = .ok (.getfield 99, 3) := by decide +kernel
theorem d_Dw_compare_18 : decode (mb M_Dw_compare) 18 = .ok (.astore 5, 2) := by decide +kernel
theorem d_Dw_compare_20 : decode (mb M_Dw_compare) 20 = .ok (.aload_n 0, 1) := by decide +kernel
theorem d_Dw_compare_21 : decode (mb M_Dw_compare) 21 = .ok (.getfield 41, 3) := by decide +kernel
theorem d_Dw_compare_24 : decode (mb M_Dw_compare) 24 = .ok (.aload 4, 2) := by decide +kernel
theorem d_Dw_compare_26 : decode (mb M_Dw_compare) 26 = .ok (.aload 5, 2) := by decide +kernel
theorem d_Dw_compare_28 : decode (mb M_Dw_compare) 28 = .ok (.iload_n 3, 1) := by decide +kernel
theorem d_Dw_compare_29 : decode (mb M_Dw_compare) 29 = .ok (.invokevirtual 216, 3) := by decide +kernel
theorem d_Dw_compare_32 : decode (mb M_Dw_compare) 32 = .ok (.aload_n 0, 1) := by decide +kernel
theorem d_Dw_compare_33 : decode (mb M_Dw_compare) 33 = .ok (.getfield 41, 3) := by decide +kernel
theorem d_Dw_compare_36 : decode (mb M_Dw_compare) 36 = .ok (.invokevirtual 220, 3) := by decide +kernel
theorem d_Dw_compare_39 : decode (mb M_Dw_compare) 39 = .ok (.aload_n 0, 1) := by decide +kernel
theorem d_Dw_compare_40 : decode (mb M_Dw_compare) 40 = .ok (.iconst 1, 1) := by decide +kernel
theorem d_Dw_compare_41 : decode (mb M_Dw_compare) 41 = .ok (.putfield 69, 3) := by decide +kernel
theorem d_Dw_compare_44 : decode (mb M_Dw_compare) 44 = .ok (.aload_n 0, 1) := by decide +kernel
theorem d_Dw_compare_45 : decode (mb M_Dw_compare) 45 = .ok (.getfield 41, 3) := by decide +kernel
theorem d_Dw_compare_48 : decode (mb M_Dw_compare) 48 = .ok (.invokevirtual 223, 3) := by decide +kernel
theorem d_Dw_compare_51 : decode (mb M_Dw_compare) 51 = .ok (.ireturn, 1) := by decide +kernel
theorem d_Dw_conflicts_0 : decode (mb M_Dw_conflicts) 0 = .ok (.aload_n 0, 1) := by decide +kernel
theorem d_Dw_conflicts_1 : decode (mb M_Dw_conflicts) 1 = .ok (.getfield 65, 3) := by decide +kernel
theorem d_Dw_conflicts_4 : decode (mb M_Dw_conflicts) 4 = .ok (.ifCond .eq 13, 3) := by decide +kernel
theorem d_Dw_conflicts_7 : decode (mb M_Dw_conflicts) 7 = .ok (.aload_n 0, 1) := by decide +kernel
theorem d_Dw_conflicts_8 : decode (mb M_Dw_conflicts) 8 = .ok (.getfield 58, 3) := by decide +kernel
theorem d_Dw_conflicts_11 : decode (mb M_Dw_conflicts) 11 = .ok (.invokevirtual 252, 3) := by decide +kernel
theorem d_Dw_conflicts_14 : decode (mb M_Dw_conflicts) 14 = .ok (.goto 4, 3) := by decide +kernel
theorem d_Dw_conflicts_17 : decode (mb M_Dw_conflicts) 17 = .ok (.iconst 0, 1) := by decide +kernel
theorem d_Dw_conflicts_18 : decode (mb M_Dw_conflicts) 18 = .ok (.ireturn, 1) := by decide +kernel
theorem d_Dw_draftLine_0 : decode (mb M_Dw_draftLine) 0 = .ok (.aload_n 0, 1) := by decide +kernel
theorem d_Dw_draftLine_1 : decode (mb M_Dw_draftLine) 1 = .ok (.iload_n 1, 1) := by decide +kernel
theorem d_Dw_draftLine_2 : decode (mb M_Dw_draftLine) 2 = .ok (.aload_n 0, 1) := by decide +kernel
theorem d_Dw_draftLine_3 : decode (mb M_Dw_draftLine) 3 = .ok (.invokevirtual 118, 3) := by decide +kernel
theorem d_Dw_draftLine_6 : decode (mb M_Dw_draftLine) 6 = .ok (.invokevirtual 121, 3) := by decide +kernel
theorem d_Dw_draftLine_9 : decode (mb M_Dw_draftLine) 9 = .ok (.aload_n 0, 1) := by decide +kernel
theorem d_Dw_draftLine_10 : decode (mb M_Dw_draftLine) 10 = .ok (.getfield 58, 3) := by decide +kernel
theorem d_Dw_draftLine_13 : decode (mb M_Dw_draftLine) 13 = .ok (.getfield 111, 3) := by decide +kernel
theorem d_Dw_draftLine_16 : decode (mb M_Dw_draftLine) 16 = .ok (.iload_n 1, 1) := by decide +kernel
theorem d_Dw_draftLine_17 : decode (mb M_Dw_draftLine) 17 = .ok (.invokevirtual 152, 3) := by decide +kernel
theorem d_Dw_draftLine_20 : decode (mb M_Dw_draftLine) 20 = .ok (.lreturn, 1) := by decide +kernel
theorem d_Dw_draftLines_0 : decode (mb M_Dw_draftLines) 0 = .ok (.aload_n 0, 1) := by decide +kernel
theorem d_Dw_draftLines_1 : decode (mb M_Dw_draftLines) 1 = .ok (.getfield 65, 3) := by decide +kernel
theorem d_Dw_draftLines_4 : decode (mb M_Dw_draftLines) 4 = .ok (.ifCond .eq 16, 3) := by decide +kernel
theorem d_Dw_draftLines_7 : decode (mb M_Dw_draftLines) 7 = .ok (.aload_n 0, 1) := by decide +kernel
theorem d_Dw_draftLines_8 : decode (mb M_Dw_draftLines) 8 = .ok (.getfield 58, 3) := by decide +kernel
theorem d_Dw_draftLines_11 : decode (mb M_Dw_draftLines) 11 = .ok (.getfield 111, 3) := by decide +kernel
theorem d_Dw_draftLines_14 : decode (mb M_Dw_draftLines) 14 = .ok (.invokevirtual 112, 3) := by decide +kernel
theorem d_Dw_draftLines_17 : decode (mb M_Dw_draftLines) 17 = .ok (.goto 4, 3) := by decide +kernel
theorem d_Dw_draftLines_20 : decode (mb M_Dw_draftLines) 20 = .ok (.iconst (-1), 1) := by decide +kernel
theorem d_Dw_draftLines_21 : decode (mb M_Dw_draftLines) 21 = .ok (.ireturn, 1) := by decide +kernel
theorem d_Dw_draftSize_0 : decode (mb M_Dw_draftSize) 0 = .ok (.aload_n 0, 1) := by decide +kernel
theorem d_Dw_draftSize_1 : decode (mb M_Dw_draftSize) 1 = .ok (.getfield 65, 3) := by decide +kernel
theorem d_Dw_draftSize_4 : decode (mb M_Dw_draftSize) 4 = .ok (.ifCond .eq 16, 3) := by decide +kernel
theorem d_Dw_draftSize_7 : decode (mb M_Dw_draftSize) 7 = .ok (.aload_n 0, 1) := by decide +kernel
theorem d_Dw_draftSize_8 : decode (mb M_Dw_draftSize) 8 = .ok (.getfield 58, 3) := by decide +kernel
theorem d_Dw_draftSize_11 : decode (mb M_Dw_draftSize) 11 = .ok (.getfield 111, 3) := by decide +kernel
theorem d_Dw_draftSize_14 : decode (mb M_Dw_draftSize) 14 = .ok (.invokevirtual 112, 3) := by decide +kernel
theorem d_Dw_draftSize_17 : decode (mb M_Dw_draftSize) 17 = .ok (.goto 4, 3) := by decide +kernel
theorem d_Dw_draftSize_20 : decode (mb M_Dw_draftSize) 20 = .ok (.iconst (-1), 1) := by decide +kernel
theorem d_Dw_draftSize_21 : decode (mb M_Dw_draftSize) 21 = .ok (.ireturn, 1) := by decide +kernel
theorem d_Dw_hunk_0 : decode (mb M_Dw_hunk) 0 = .ok (.aload_n 0, 1) := by decide +kernel
theorem d_Dw_hunk_1 : decode (mb M_Dw_hunk) 1 = .ok (.iload_n 1, 1) := by decide +kernel
theorem d_Dw_hunk_2 : decode (mb M_Dw_hunk) 2 = .ok (.invokevirtual 282, 3) := by decide +kernel
theorem d_Dw_hunk_5 : decode (mb M_Dw_hunk) 5 = .ok (.iload_n 2, 1) := by decide +kernel
theorem d_Dw_hunk_6 : decode (mb M_Dw_hunk) 6 = .ok (.invokevirtual 290, 3) := by decide +kernel
theorem d_Dw_hunk_9 : decode (mb M_Dw_hunk) 9 = .ok (.astore 4, 2) := by decide +kernel
theorem d_Dw_hunk_11 : decode (mb M_Dw_hunk) 11 = .ok (.aload 4, 2) := by decide +kernel
theorem d_Dw_hunk_13 : decode (mb M_Dw_hunk) 13 = .ok (.ifnonnull 14, 3) := by decide +kernel
theorem d_Dw_hunk_16 : decode (mb M_Dw_hunk) 16 = .ok (.new 294, 3) := by decide +kernel
theorem d_Dw_hunk_19 : decode (mb M_Dw_hunk) 19 = .ok (.dup, 1) := by decide +kernel
theorem d_Dw_hunk_20 : decode (mb M_Dw_hunk) 20 = .ok (.ldc_w 296, 3) := by decide +kernel
theorem d_Dw_hunk_23 : decode (mb M_Dw_hunk) 23 = .ok (.invokespecial 298, 3) := by decide +kernel
theorem d_Dw_hunk_26 : decode (mb M_Dw_hunk) 26 = .ok (.athrow, 1) := by decide +kernel
theorem d_Dw_hunk_27 : decode (mb M_Dw_hunk) 27 = .ok (.iload_n 3, 1) := by decide +kernel
theorem d_Dw_hunk_28 : decode (mb M_Dw_hunk) 28 = .ok (.ifCond .lt 8, 3) := by decide +kernel
theorem d_Dw_hunk_31 : decode (mb M_Dw_hunk) 31 = .ok (.iload_n 3, 1) := by decide +kernel
theorem d_Dw_hunk_32 : decode (mb M_Dw_hunk) 32 = .ok (.iconst 5, 1) := by decide +kernel
theorem d_Dw_hunk_33 : decode (mb M_Dw_hunk) 33 = .ok (.if_icmp .lt 14, 3) := by decide +kernel
theorem d_Dw_hunk_36 : decode (mb M_Dw_hunk) 36 = .ok (.new 241, 3) := by decide +kernel
theorem d_Dw_hunk_39 : decode (mb M_Dw_hunk) 39 = .ok (.dup, 1) := by decide +kernel
theorem d_Dw_hunk_40 : decode (mb M_Dw_hunk) 40 = .ok (.ldc_w 299, 3) := by decide +kernel
theorem d_Dw_hunk_43 : decode (mb M_Dw_hunk) 43 = .ok (.invokespecial 245, 3) := by decide +kernel
theorem d_Dw_hunk_46 : decode (mb M_Dw_hunk) 46 = .ok (.athrow, 1) := by decide +kernel
theorem d_Dw_hunk_47 : decode (mb M_Dw_hunk) 47 = .ok (.aload 4, 2) := by decide +kernel
theorem d_Dw_hunk_49 : decode (mb M_Dw_hunk) 49 = .ok (.iload_n 3, 1) := by decide +kernel
theorem d_Dw_hunk_50 : decode (mb M_Dw_hunk) 50 = .ok (.invokevirtual 301, 3) := by decide +kernel
theorem d_Dw_hunk_53 : decode (mb M_Dw_hunk) 53 = .ok (.ireturn, 1) := by decide +kernel
theorem d_Dw_init_0 : decode (mb M_Dw_init) 0 = .ok (.aload_n 0, 1) := by decide +kernel
theorem d_Dw_init_1 : decode (mb M_Dw_init) 1 = .ok (.invokespecial 3, 3) := by decide +kernel
theorem d_Dw_init_4 : decode (mb M_Dw_init) 4 = .ok (.aload_n 0, 1) := by decide +kernel
theorem d_Dw_init_5 : decode (mb M_Dw_init) 5 = .ok (.bipush 40, 2) := by decide +kernel
theorem d_Dw_init_7 : decode (mb M_Dw_init) 7 = .ok (.anewarray 9, 3) := by decide +kernel
theorem d_Dw_init_10 : decode (mb M_Dw_init) 10 = .ok (.putfield 11, 3) := by decide +kernel
theorem d_Dw_init_13 : decode (mb M_Dw_init) 13 = .ok (.aload_n 0, 1) := by decide +kernel
theorem d_Dw_init_14 : decode (mb M_Dw_init) 14 = .ok (.bipush 10, 2) := by decide +kernel
theorem d_Dw_init_16 : decode (mb M_Dw_init) 16 = .ok (.anewarray 15, 3) := by decide +kernel
theorem d_Dw_init_19 : decode (mb M_Dw_init) 19 = .ok (.putfield 17, 3) := by decide +kernel
theorem d_Dw_init_22 : decode (mb M_Dw_init) 22 = .ok (.aload_n 0, 1) := by decide +kernel
theorem d_Dw_init_23 : decode (mb M_Dw_init) 23 = .ok (.bipush 20, 2) := by decide +kernel
theorem d_Dw_init_25 : decode (mb M_Dw_init) 25 = .ok (.anewarray 21, 3) := by decide +kernel
theorem d_Dw_init_28 : decode (mb M_Dw_init) 28 = .ok (.putfield 23, 3) := by decide +kernel
theorem d_Dw_init_31 : decode (mb M_Dw_init) 31 = .ok (.aload_n 0, 1) := by decide +kernel
theorem d_Dw_init_32 : decode (mb M_Dw_init) 32 = .ok (.bipush 20, 2) := by decide +kernel
theorem d_Dw_init_34 : decode (mb M_Dw_init) 34 = .ok (.newarray .int, 2) := by decide +kernel
theorem d_Dw_init_36 : decode (mb M_Dw_init) 36 = .ok (.putfield 27, 3) := by decide +kernel
theorem d_Dw_init_39 : decode (mb M_Dw_init) 39 = .ok (.aload_n 0, 1) := by decide +kernel
theorem d_Dw_init_40 : decode (mb M_Dw_init) 40 = .ok (.new 31, 3) := by decide +kernel
theorem d_Dw_init_43 : decode (mb M_Dw_init) 43 = .ok (.dup, 1) := by decide +kernel
theorem d_Dw_init_44 : decode (mb M_Dw_init) 44 = .ok (.invokespecial 33, 3) := by decide +kernel
theorem d_Dw_init_47 : decode (mb M_Dw_init) 47 = .ok (.putfield 34, 3) := by decide +kernel
theorem d_Dw_init_50 : decode (mb M_Dw_init) 50 = .ok (.aload_n 0, 1) := by decide +kernel
theorem d_Dw_init_51 : decode (mb M_Dw_init) 51 = .ok (.new 38, 3) := by decide +kernel
theorem d_Dw_init_54 : decode (mb M_Dw_init) 54 = .ok (.dup, 1) := by decide +kernel
theorem d_Dw_init_55 : decode (mb M_Dw_init) 55 = .ok (.invokespecial 40, 3) := by decide +kernel
theorem d_Dw_init_58 : decode (mb M_Dw_init) 58 = .ok (.putfield 41, 3) := by decide +kernel
theorem d_Dw_init_61 : decode (mb M_Dw_init) 61 = .ok (.aload_n 0, 1) := by decide +kernel
theorem d_Dw_init_62 : decode (mb M_Dw_init) 62 = .ok (.new 38, 3) := by decide +kernel
theorem d_Dw_init_65 : decode (mb M_Dw_init) 65 = .ok (.dup, 1) := by decide +kernel
theorem d_Dw_init_66 : decode (mb M_Dw_init) 66 = .ok (.invokespecial 40, 3) := by decide +kernel
theorem d_Dw_init_69 : decode (mb M_Dw_init) 69 = .ok (.putfield 45, 3) := by decide +kernel
theorem d_Dw_init_72 : decode (mb M_Dw_init) 72 = .ok (.aload_n 0, 1) := by decide +kernel
theorem d_Dw_init_73 : decode (mb M_Dw_init) 73 = .ok (.new 48, 3) := by decide +kernel
theorem d_Dw_init_76 : decode (mb M_Dw_init) 76 = .ok (.dup, 1) := by decide +kernel
theorem d_Dw_init_77 : decode (mb M_Dw_init) 77 = .ok (.invokespecial 50, 3) := by decide +kernel
theorem d_Dw_init_80 : decode (mb M_Dw_init) 80 = .ok (.putfield 51, 3) := by decide +kernel
theorem d_Dw_init_83 : decode (mb M_Dw_init) 83 = .ok (.aload_n 0, 1) := by decide +kernel
theorem d_Dw_init_84 : decode (mb M_Dw_init) 84 = .ok (.new 55, 3) := by decide +kernel
theorem d_Dw_init_87 : decode (mb M_Dw_init) 87 = .ok (.dup, 1) := by decide +kernel
theorem d_Dw_init_88 : decode (mb M_Dw_init) 88 = .ok (.invokespecial 57, 3) := by decide +kernel
theorem d_Dw_init_91 : decode (mb M_Dw_init) 91 = .ok (.putfield 58, 3) := by decide +kernel
theorem d_Dw_init_94 : decode (mb M_Dw_init) 94 = .ok (.aload_n 0, 1) := by decide +kernel
theorem d_Dw_init_95 : decode (mb M_Dw_init) 95 = .ok (.new 55, 3) := by decide +kernel
theorem d_Dw_init_98 : decode (mb M_Dw_init) 98 = .ok (.dup, 1) := by decide +kernel
theorem d_Dw_init_99 : decode (mb M_Dw_init) 99 = .ok (.invokespecial 57, 3) := by decide +kernel
theorem d_Dw_init_102 : decode (mb M_Dw_init) 102 = .ok (.putfield 62, 3) := by decide +kernel
theorem d_Dw_init_105 : decode (mb M_Dw_init) 105 = .ok (.aload_n 0, 1) := by decide +kernel
theorem d_Dw_init_106 : decode (mb M_Dw_init) 106 = .ok (.iconst 0, 1) := by decide +kernel
theorem d_Dw_init_107 : decode (mb M_Dw_init) 107 = .ok (.putfield 65, 3) := by decide +kernel
theorem d_Dw_init_110 : decode (mb M_Dw_init) 110 = .ok (.aload_n 0, 1) := by decide +kernel
theorem d_Dw_init_111 : decode (mb M_Dw_init) 111 = .ok (.iconst 0, 1) := by decide +kernel
theorem d_Dw_init_112 : decode (mb M_Dw_init) 112 = .ok (.putfield 69, 3) := by decide +kernel
theorem d_Dw_init_115 : decode (mb M_Dw_init) 115 = .ok (.aload_n 0, 1) := by decide +kernel
theorem d_Dw_init_116 : decode (mb M_Dw_init) 116 = .ok (.iconst 1, 1) := by decide +kernel
theorem d_Dw_init_117 : decode (mb M_Dw_init) 117 = .ok (.putfield 72, 3) := by decide +kernel
theorem d_Dw_init_120 : decode (mb M_Dw_init) 120 = .ok (.aload_n 0, 1) := by decide +kernel
theorem d_Dw_init_121 : decode (mb M_Dw_init) 121 = .ok (.iconst 0, 1) := by decide +kernel
theorem d_Dw_init_122 : decode (mb M_Dw_init) 122 = .ok (.putfield 76, 3) := by decide +kernel
theorem d_Dw_init_125 : decode (mb M_Dw_init) 125 = .ok (.aload_n 0, 1) := by decide +kernel
theorem d_Dw_init_126 : decode (mb M_Dw_init) 126 = .ok (.iconst 0, 1) := by decide +kernel
theorem d_Dw_init_127 : decode (mb M_Dw_init) 127 = .ok (.putfield 79, 3) := by decide +kernel
theorem d_Dw_init_130 : decode (mb M_Dw_init) 130 = .ok (.aload_n 0, 1) := by decide +kernel
theorem d_Dw_init_131 : decode (mb M_Dw_init) 131 = .ok (.iconst 0, 1) := by decide +kernel
theorem d_Dw_init_132 : decode (mb M_Dw_init) 132 = .ok (.putfield 82, 3) := by decide +kernel
theorem d_Dw_init_135 : decode (mb M_Dw_init) 135 = .ok (.aload_n 0, 1) := by decide +kernel
theorem d_Dw_init_136 : decode (mb M_Dw_init) 136 = .ok (.iconst 0, 1) := by decide +kernel
theorem d_Dw_init_137 : decode (mb M_Dw_init) 137 = .ok (.putfield 85, 3) := by decide +kernel
theorem d_Dw_init_140 : decode (mb M_Dw_init) 140 = .ok (.iconst 0, 1) := by decide +kernel
theorem d_Dw_init_141 : decode (mb M_Dw_init) 141 = .ok (.istore_n 1, 1) := by decide +kernel
theorem d_Dw_init_142 : decode (mb M_Dw_init) 142 = .ok (.iload_n 1, 1) := by decide +kernel
theorem d_Dw_init_143 : decode (mb M_Dw_init) 143 = .ok (.bipush 40, 2) := by decide +kernel
theorem d_Dw_init_145 : decode (mb M_Dw_init) 145 = .ok (.if_icmp .ge 22, 3) := by decide +kernel
theorem d_Dw_init_148 : decode (mb M_Dw_init) 148 = .ok (.aload_n 0, 1) := by decide +kernel
theorem d_Dw_init_149 : decode (mb M_Dw_init) 149 = .ok (.getfield 11, 3) := by decide +kernel
theorem d_Dw_init_152 : decode (mb M_Dw_init) 152 = .ok (.iload_n 1, 1) := by decide +kernel
theorem d_Dw_init_153 : decode (mb M_Dw_init) 153 = .ok (.new 9, 3) := by decide +kernel
theorem d_Dw_init_156 : decode (mb M_Dw_init) 156 = .ok (.dup, 1) := by decide +kernel
theorem d_Dw_init_157 : decode (mb M_Dw_init) 157 = .ok (.invokespecial 88, 3) := by decide +kernel
theorem d_Dw_init_160 : decode (mb M_Dw_init) 160 = .ok (.aastore, 1) := by decide +kernel
theorem d_Dw_init_161 : decode (mb M_Dw_init) 161 = .ok (.iinc 1 1, 3) := by decide +kernel
theorem d_Dw_init_164 : decode (mb M_Dw_init) 164 = .ok (.goto (-22), 3) := by decide +kernel
theorem d_Dw_init_167 : decode (mb M_Dw_init) 167 = .ok (.iconst 0, 1) := by decide +kernel
theorem d_Dw_init_168 : decode (mb M_Dw_init) 168 = .ok (.istore_n 1, 1) := by decide +kernel
theorem d_Dw_init_169 : decode (mb M_Dw_init) 169 = .ok (.iload_n 1, 1) := by decide +kernel
theorem d_Dw_init_170 : decode (mb M_Dw_init) 170 = .ok (.bipush 10, 2) := by decide +kernel
theorem d_Dw_init_172 : decode (mb M_Dw_init) 172 = .ok (.if_icmp .ge 22, 3) := by decide +kernel
theorem d_Dw_init_175 : decode (mb M_Dw_init) 175 = .ok (.aload_n 0, 1) := by decide +kernel
theorem d_Dw_init_176 : decode (mb M_Dw_init) 176 = .ok (.getfield 17, 3) := by decide +kernel
theorem d_Dw_init_179 : decode (mb M_Dw_init) 179 = .ok (.iload_n 1, 1) := by decide +kernel
theorem d_Dw_init_180 : decode (mb M_Dw_init) 180 = .ok (.new 15, 3) := by decide +kernel
theorem d_Dw_init_183 : decode (mb M_Dw_init) 183 = .ok (.dup, 1) := by decide +kernel
theorem d_Dw_init_184 : decode (mb M_Dw_init) 184 = .ok (.invokespecial 89, 3) := by decide +kernel
theorem d_Dw_init_187 : decode (mb M_Dw_init) 187 = .ok (.aastore, 1) := by decide +kernel
theorem d_Dw_init_188 : decode (mb M_Dw_init) 188 = .ok (.iinc 1 1, 3) := by decide +kernel
theorem d_Dw_init_191 : decode (mb M_Dw_init) 191 = .ok (.goto (-22), 3) := by decide +kernel
theorem d_Dw_init_194 : decode (mb M_Dw_init) 194 = .ok (.iconst 0, 1) := by decide +kernel
theorem d_Dw_init_195 : decode (mb M_Dw_init) 195 = .ok (.istore_n 1, 1) := by decide +kernel
theorem d_Dw_init_196 : decode (mb M_Dw_init) 196 = .ok (.iload_n 1, 1) := by decide +kernel
theorem d_Dw_init_197 : decode (mb M_Dw_init) 197 = .ok (.bipush 20, 2) := by decide +kernel
theorem d_Dw_init_199 : decode (mb M_Dw_init) 199 = .ok (.if_icmp .ge 22, 3) := by decide +kernel
theorem d_Dw_init_202 : decode (mb M_Dw_init) 202 = .ok (.aload_n 0, 1) := by decide +kernel
theorem d_Dw_init_203 : decode (mb M_Dw_init) 203 = .ok (.getfield 23, 3) := by decide +kernel
theorem d_Dw_init_206 : decode (mb M_Dw_init) 206 = .ok (.iload_n 1, 1) := by decide +kernel
theorem d_Dw_init_207 : decode (mb M_Dw_init) 207 = .ok (.new 21, 3) := by decide +kernel
theorem d_Dw_init_210 : decode (mb M_Dw_init) 210 = .ok (.dup, 1) := by decide +kernel
theorem d_Dw_init_211 : decode (mb M_Dw_init) 211 = .ok (.invokespecial 90, 3) := by decide +kernel
theorem d_Dw_init_214 : decode (mb M_Dw_init) 214 = .ok (.aastore, 1) := by decide +kernel
theorem d_Dw_init_215 : decode (mb M_Dw_init) 215 = .ok (.iinc 1 1, 3) := by decide +kernel
theorem d_Dw_init_218 : decode (mb M_Dw_init) 218 = .ok (.goto (-22), 3) := by decide +kernel
theorem d_Dw_init_221 : decode (mb M_Dw_init) 221 = .ok (.return_, 1) := by decide +kernel
theorem d_Dw_insert_0 : decode (mb M_Dw_insert) 0 = .ok (.aload_n 0, 1) := by decide +kernel
theorem d_Dw_insert_1 : decode (mb M_Dw_insert) 1 = .ok (.iload_n 1, 1) := by decide +kernel
theorem d_Dw_insert_2 : decode (mb M_Dw_insert) 2 = .ok (.aload_n 0, 1) := by decide +kernel
theorem d_Dw_insert_3 : decode (mb M_Dw_insert) 3 = .ok (.invokevirtual 118, 3) := by decide +kernel
theorem d_Dw_insert_6 : decode (mb M_Dw_insert) 6 = .ok (.iconst 1, 1) := by decide +kernel
theorem d_Dw_insert_7 : decode (mb M_Dw_insert) 7 = .ok (.iadd, 1) := by decide +kernel
theorem d_Dw_insert_8 : decode (mb M_Dw_insert) 8 = .ok (.invokevirtual 121, 3) := by decide +kernel
theorem d_Dw_insert_11 : decode (mb M_Dw_insert) 11 = .ok (.aload_n 0, 1) := by decide +kernel
theorem d_Dw_insert_12 : decode (mb M_Dw_insert) 12 = .ok (.lload_n 2, 1) := by decide +kernel
theorem d_Dw_insert_13 : decode (mb M_Dw_insert) 13 = .ok (.invokevirtual 125, 3) := by decide +kernel
theorem d_Dw_insert_16 : decode (mb M_Dw_insert) 16 = .ok (.aload_n 0, 1) := by decide +kernel
theorem d_Dw_insert_17 : decode (mb M_Dw_insert) 17 = .ok (.invokevirtual 129, 3) := by decide +kernel
theorem d_Dw_insert_20 : decode (mb M_Dw_insert) 20 = .ok (.aload_n 0, 1) := by decide +kernel
theorem d_Dw_insert_21 : decode (mb M_Dw_insert) 21 = .ok (.getfield 58, 3) := by decide +kernel
theorem d_Dw_insert_24 : decode (mb M_Dw_insert) 24 = .ok (.getfield 111, 3) := by decide +kernel
theorem d_Dw_insert_27 : decode (mb M_Dw_insert) 27 = .ok (.invokevirtual 112, 3) := by decide +kernel
theorem d_Dw_insert_30 : decode (mb M_Dw_insert) 30 = .ok (.bipush 20, 2) := by decide +kernel
theorem d_Dw_insert_32 : decode (mb M_Dw_insert) 32 = .ok (.if_icmp .lt 13, 3) := by decide +kernel
theorem d_Dw_insert_35 : decode (mb M_Dw_insert) 35 = .ok (.new 132, 3) := by decide +kernel
theorem d_Dw_insert_38 : decode (mb M_Dw_insert) 38 = .ok (.dup, 1) := by decide +kernel
theorem d_Dw_insert_39 : decode (mb M_Dw_insert) 39 = .ok (.ldc 134, 2) := by decide +kernel
theorem d_Dw_insert_41 : decode (mb M_Dw_insert) 41 = .ok (.invokespecial 136, 3) := by decide +kernel
theorem d_Dw_insert_44 : decode (mb M_Dw_insert) 44 = .ok (.athrow, 1) := by decide +kernel
theorem d_Dw_insert_45 : decode (mb M_Dw_insert) 45 = .ok (.aload_n 0, 1) := by decide +kernel
theorem d_Dw_insert_46 : decode (mb M_Dw_insert) 46 = .ok (.getfield 58, 3) := by decide +kernel
theorem d_Dw_insert_49 : decode (mb M_Dw_insert) 49 = .ok (.new 139, 3) := by decide +kernel
theorem d_Dw_insert_52 : decode (mb M_Dw_insert) 52 = .ok (.dup, 1) := by decide +kernel
theorem d_Dw_insert_53 : decode (mb M_Dw_insert) 53 = .ok (.iconst 0, 1) := by decide +kernel
theorem d_Dw_insert_54 : decode (mb M_Dw_insert) 54 = .ok (.iload_n 1, 1) := by decide +kernel
theorem d_Dw_insert_55 : decode (mb M_Dw_insert) 55 = .ok (.iconst (-1), 1) := by decide +kernel
theorem d_Dw_insert_56 : decode (mb M_Dw_insert) 56 = .ok (.lload_n 2, 1) := by decide +kernel
theorem d_Dw_insert_57 : decode (mb M_Dw_insert) 57 = .ok (.aconst_null, 1) := by decide +kernel
theorem d_Dw_insert_58 : decode (mb M_Dw_insert) 58 = .ok (.invokespecial 141, 3) := by decide +kernel
theorem d_Dw_insert_61 : decode (mb M_Dw_insert) 61 = .ok (.invokevirtual 144, 3) := by decide +kernel
theorem d_Dw_insert_64 : decode (mb M_Dw_insert) 64 = .ok (.pop, 1) := by decide +kernel
theorem d_Dw_insert_65 : decode (mb M_Dw_insert) 65 = .ok (.aload_n 0, 1) := by decide +kernel
theorem d_Dw_insert_66 : decode (mb M_Dw_insert) 66 = .ok (.getfield 58, 3) := by decide +kernel
theorem d_Dw_insert_69 : decode (mb M_Dw_insert) 69 = .ok (.aload_n 0, 1) := by decide +kernel
theorem d_Dw_insert_70 : decode (mb M_Dw_insert) 70 = .ok (.getfield 34, 3) := by decide +kernel
theorem d_Dw_insert_73 : decode (mb M_Dw_insert) 73 = .ok (.invokevirtual 148, 3) := by decide +kernel
theorem d_Dw_insert_76 : decode (mb M_Dw_insert) 76 = .ok (.aload_n 0, 1) := by decide +kernel
theorem d_Dw_insert_77 : decode (mb M_Dw_insert) 77 = .ok (.dup, 1) := by decide +kernel
theorem d_Dw_insert_78 : decode (mb M_Dw_insert) 78 = .ok (.getfield 85, 3) := by decide +kernel
theorem d_Dw_insert_81 : decode (mb M_Dw_insert) 81 = .ok (.iconst 1, 1) := by decide +kernel
theorem d_Dw_insert_82 : decode (mb M_Dw_insert) 82 = .ok (.iadd, 1) := by decide +kernel
theorem d_Dw_insert_83 : decode (mb M_Dw_insert) 83 = .ok (.putfield 85, 3) := by decide +kernel
theorem d_Dw_insert_86 : decode (mb M_Dw_insert) 86 = .ok (.aload_n 0, 1) := by decide +kernel
theorem d_Dw_insert_87 : decode (mb M_Dw_insert) 87 = .ok (.getfield 58, 3) := by decide +kernel
theorem d_Dw_insert_90 : decode (mb M_Dw_insert) 90 = .ok (.getfield 111, 3) := by decide +kernel
theorem d_Dw_insert_93 : decode (mb M_Dw_insert) 93 = .ok (.invokevirtual 112, 3) := by decide +kernel
theorem d_Dw_insert_96 : decode (mb M_Dw_insert) 96 = .ok (.ireturn, 1) := by decide +kernel
theorem d_Dw_isAbove_0 : decode (mb M_Dw_isAbove) 0 = .ok (.aload_n 0, 1) := by decide +kernel
theorem d_Dw_isAbove_1 : decode (mb M_Dw_isAbove) 1 = .ok (.iload_n 1, 1) := by decide +kernel
theorem d_Dw_isAbove_2 : decode (mb M_Dw_isAbove) 2 = .ok (.invokevirtual 91, 3) := by decide +kernel
theorem d_Dw_isAbove_5 : decode (mb M_Dw_isAbove) 5 = .ok (.astore_n 3, 1) := by decide +kernel
theorem d_Dw_isAbove_6 : decode (mb M_Dw_isAbove) 6 = .ok (.aload_n 0, 1) := by decide +kernel
theorem d_Dw_isAbove_7 : decode (mb M_Dw_isAbove) 7 = .ok (.iload_n 2, 1) := by decide +kernel
theorem d_Dw_isAbove_8 : decode (mb M_Dw_isAbove) 8 = .ok (.invokevirtual 91, 3) := by decide +kernel
theorem d_Dw_isAbove_11 : decode (mb M_Dw_isAbove) 11 = .ok (.pop, 1) := by decide +kernel
theorem d_Dw_isAbove_12 : decode (mb M_Dw_isAbove) 12 = .ok (.aload_n 3, 1) := by decide +kernel
theorem d_Dw_isAbove_13 : decode (mb M_Dw_isAbove) 13 = .ok (.iload_n 2, 1) := by decide +kernel
theorem d_Dw_isAbove_14 : decode (mb M_Dw_isAbove) 14 = .ok (.invokevirtual 199, 3) := by decide +kernel
theorem d_Dw_isAbove_17 : decode (mb M_Dw_isAbove) 17 = .ok (.ireturn, 1) := by decide +kernel
theorem d_Dw_land_0 : decode (mb M_Dw_land) 0 = .ok (.aload_n 0, 1) := by decide +kernel
theorem d_Dw_land_1 : decode (mb M_Dw_land) 1 = .ok (.iload_n 1, 1) := by decide +kernel
theorem d_Dw_land_2 : decode (mb M_Dw_land) 2 = .ok (.invokevirtual 318, 3) := by decide +kernel
theorem d_Dw_land_5 : decode (mb M_Dw_land) 5 = .ok (.astore_n 2, 1) := by decide +kernel
theorem d_Dw_land_6 : decode (mb M_Dw_land) 6 = .ok (.aload_n 2, 1) := by decide +kernel
theorem d_Dw_land_7 : decode (mb M_Dw_land) 7 = .ok (.invokevirtual 343, 3) := by decide +kernel
theorem d_Dw_land_10 : decode (mb M_Dw_land) 10 = .ok (.iconst 1, 1) := by decide +kernel
theorem d_Dw_land_11 : decode (mb M_Dw_land) 11 = .ok (.if_icmp .eq 14, 3) := by decide +kernel
theorem d_Dw_land_14 : decode (mb M_Dw_land) 14 = .ok (.new 132, 3) := by decide +kernel
theorem d_Dw_land_17 : decode (mb M_Dw_land) 17 = .ok (.dup, 1) := by decide +kernel
theorem d_Dw_land_18 : decode (mb M_Dw_land) 18 = .ok (.ldc_w 358, 3) := by decide +kernel
theorem d_Dw_land_21 : decode (mb M_Dw_land) 21 = .ok (.invokespecial 136, 3) := by decide +kernel
theorem d_Dw_land_24 : decode (mb M_Dw_land) 24 = .ok (.athrow, 1) := by decide +kernel
theorem d_Dw_land_25 : decode (mb M_Dw_land) 25 = .ok (.aload_n 2, 1) := by decide +kernel
theorem d_Dw_land_26 : decode (mb M_Dw_land) 26 = .ok (.getfield 360, 3) := by decide +kernel
theorem d_Dw_land_29 : decode (mb M_Dw_land) 29 = .ok (.iconst (-1), 1) := by decide +kernel
theorem d_Dw_land_30 : decode (mb M_Dw_land) 30 = .ok (.if_icmp .eq 29, 3) := by decide +kernel
theorem d_Dw_land_33 : decode (mb M_Dw_land) 33 = .ok (.aload_n 0, 1) := by decide +kernel
theorem d_Dw_land_34 : decode (mb M_Dw_land) 34 = .ok (.aload_n 2, 1) := by decide +kernel
theorem d_Dw_land_35 : decode (mb M_Dw_land) 35 = .ok (.getfield 360, 3) := by decide +kernel
theorem d_Dw_land_38 : decode (mb M_Dw_land) 38 = .ok (.invokevirtual 318, 3) := by decide +kernel
theorem d_Dw_land_41 : decode (mb M_Dw_land) 41 = .ok (.invokevirtual 343, 3) := by decide +kernel
theorem d_Dw_land_44 : decode (mb M_Dw_land) 44 = .ok (.iconst 2, 1) := by decide +kernel
theorem d_Dw_land_45 : decode (mb M_Dw_land) 45 = .ok (.if_icmp .eq 14, 3) := by decide +kernel
theorem d_Dw_land_48 : decode (mb M_Dw_land) 48 = .ok (.new 132, 3) := by decide +kernel
theorem d_Dw_land_51 : decode (mb M_Dw_land) 51 = .ok (.dup, 1) := by decide +kernel
theorem d_Dw_land_52 : decode (mb M_Dw_land) 52 = .ok (.ldc_w 363, 3) := by decide +kernel
theorem d_Dw_land_55 : decode (mb M_Dw_land) 55 = .ok (.invokespecial 136, 3) := by decide +kernel
theorem d_Dw_land_58 : decode (mb M_Dw_land) 58 = .ok (.athrow, 1) := by decide +kernel
theorem d_Dw_land_59 : decode (mb M_Dw_land) 59 = .ok (.aload_n 2, 1) := by decide +kernel
theorem d_Dw_land_60 : decode (mb M_Dw_land) 60 = .ok (.iconst 1, 1) := by decide +kernel
theorem d_Dw_land_61 : decode (mb M_Dw_land) 61 = .ok (.putfield 365, 3) := by decide +kernel
theorem d_Dw_land_64 : decode (mb M_Dw_land) 64 = .ok (.iconst 0, 1) := by decide +kernel
theorem d_Dw_land_65 : decode (mb M_Dw_land) 65 = .ok (.istore_n 3, 1) := by decide +kernel
theorem d_Dw_land_66 : decode (mb M_Dw_land) 66 = .ok (.iconst 0, 1) := by decide +kernel
theorem d_Dw_land_67 : decode (mb M_Dw_land) 67 = .ok (.istore 4, 2) := by decide +kernel
theorem d_Dw_land_69 : decode (mb M_Dw_land) 69 = .ok (.iload 4, 2) := by decide +kernel
theorem d_Dw_land_71 : decode (mb M_Dw_land) 71 = .ok (.aload_n 0, 1) := by decide +kernel
theorem d_Dw_land_72 : decode (mb M_Dw_land) 72 = .ok (.getfield 79, 3) := by decide +kernel
theorem d_Dw_land_75 : decode (mb M_Dw_land) 75 = .ok (.if_icmp .ge 39, 3) := by decide +kernel
theorem d_Dw_land_78 : decode (mb M_Dw_land) 78 = .ok (.aload_n 0, 1) := by decide +kernel
theorem d_Dw_land_79 : decode (mb M_Dw_land) 79 = .ok (.getfield 23, 3) := by decide +kernel
theorem d_Dw_land_82 : decode (mb M_Dw_land) 82 = .ok (.iload 4, 2) := by decide +kernel
theorem d_Dw_land_84 : decode (mb M_Dw_land) 84 = .ok (.aaload, 1) := by decide +kernel
theorem d_Dw_land_85 : decode (mb M_Dw_land) 85 = .ok (.getfield 360, 3) := by decide +kernel
theorem d_Dw_land_88 : decode (mb M_Dw_land) 88 = .ok (.iload_n 1, 1) := by decide +kernel
theorem d_Dw_land_89 : decode (mb M_Dw_land) 89 = .ok (.if_icmp .ne 19, 3) := by decide +kernel
theorem d_Dw_land_92 : decode (mb M_Dw_land) 92 = .ok (.aload_n 0, 1) := by decide +kernel
theorem d_Dw_land_93 : decode (mb M_Dw_land) 93 = .ok (.getfield 23, 3) := by decide +kernel
theorem d_Dw_land_96 : decode (mb M_Dw_land) 96 = .ok (.iload 4, 2) := by decide +kernel
theorem d_Dw_land_98 : decode (mb M_Dw_land) 98 = .ok (.aaload, 1) := by decide +kernel
theorem d_Dw_land_99 : decode (mb M_Dw_land) 99 = .ok (.getfield 365, 3) := by decide +kernel
theorem d_Dw_land_102 : decode (mb M_Dw_land) 102 = .ok (.ifCond .ne 6, 3) := by decide +kernel
theorem d_Dw_land_105 : decode (mb M_Dw_land) 105 = .ok (.iinc 3 1, 3) := by decide +kernel
theorem d_Dw_land_108 : decode (mb M_Dw_land) 108 = .ok (.iinc 4 1, 3) := by decide +kernel
theorem d_Dw_land_111 : decode (mb M_Dw_land) 111 = .ok (.goto (-42), 3) := by decide +kernel
theorem d_Dw_land_114 : decode (mb M_Dw_land) 114 = .ok (.iload_n 3, 1) := by decide +kernel
theorem d_Dw_land_115 : decode (mb M_Dw_land) 115 = .ok (.ireturn, 1) := by decide +kernel
theorem d_Dw_lay_0 : decode (mb M_Dw_lay) 0 = .ok (.aload_n 0, 1) := by decide +kernel
theorem d_Dw_lay_1 : decode (mb M_Dw_lay) 1 = .ok (.iload_n 1, 1) := by decide +kernel
theorem d_Dw_lay_2 : decode (mb M_Dw_lay) 2 = .ok (.invokevirtual 282, 3) := by decide +kernel
theorem d_Dw_lay_5 : decode (mb M_Dw_lay) 5 = .ok (.astore_n 3, 1) := by decide +kernel
theorem d_Dw_lay_6 : decode (mb M_Dw_lay) 6 = .ok (.iload_n 2, 1) := by decide +kernel
theorem d_Dw_lay_7 : decode (mb M_Dw_lay) 7 = .ok (.ifCond .lt 8, 3) := by decide +kernel
theorem d_Dw_lay_10 : decode (mb M_Dw_lay) 10 = .ok (.iload_n 2, 1) := by decide +kernel
theorem d_Dw_lay_11 : decode (mb M_Dw_lay) 11 = .ok (.iconst 2, 1) := by decide +kernel
theorem d_Dw_lay_12 : decode (mb M_Dw_lay) 12 = .ok (.if_icmp .le 14, 3) := by decide +kernel
theorem d_Dw_lay_15 : decode (mb M_Dw_lay) 15 = .ok (.new 241, 3) := by decide +kernel
theorem d_Dw_lay_18 : decode (mb M_Dw_lay) 18 = .ok (.dup, 1) := by decide +kernel
theorem d_Dw_lay_19 : decode (mb M_Dw_lay) 19 = .ok (.ldc_w 306, 3) := by decide +kernel
theorem d_Dw_lay_22 : decode (mb M_Dw_lay) 22 = .ok (.invokespecial 245, 3) := by decide +kernel
theorem d_Dw_lay_25 : decode (mb M_Dw_lay) 25 = .ok (.athrow, 1) := by decide +kernel
theorem d_Dw_lay_26 : decode (mb M_Dw_lay) 26 = .ok (.aload_n 0, 1) := by decide +kernel
theorem d_Dw_lay_27 : decode (mb M_Dw_lay) 27 = .ok (.invokevirtual 129, 3) := by decide +kernel
theorem d_Dw_lay_30 : decode (mb M_Dw_lay) 30 = .ok (.aload_n 0, 1) := by decide +kernel
theorem d_Dw_lay_31 : decode (mb M_Dw_lay) 31 = .ok (.getfield 58, 3) := by decide +kernel
theorem d_Dw_lay_34 : decode (mb M_Dw_lay) 34 = .ok (.new 139, 3) := by decide +kernel
theorem d_Dw_lay_37 : decode (mb M_Dw_lay) 37 = .ok (.dup, 1) := by decide +kernel
theorem d_Dw_lay_38 : decode (mb M_Dw_lay) 38 = .ok (.iconst 5, 1) := by decide +kernel
theorem d_Dw_lay_39 : decode (mb M_Dw_lay) 39 = .ok (.iload_n 1, 1) := by decide +kernel
theorem d_Dw_lay_40 : decode (mb M_Dw_lay) 40 = .ok (.iload_n 2, 1) := by decide +kernel
theorem d_Dw_lay_41 : decode (mb M_Dw_lay) 41 = .ok (.lconst 0, 1) := by decide +kernel
theorem d_Dw_lay_42 : decode (mb M_Dw_lay) 42 = .ok (.aload_n 3, 1) := by decide +kernel
theorem d_Dw_lay_43 : decode (mb M_Dw_lay) 43 = .ok (.invokespecial 141, 3) := by decide +kernel
theorem d_Dw_lay_46 : decode (mb M_Dw_lay) 46 = .ok (.invokevirtual 144, 3) := by decide +kernel
theorem d_Dw_lay_49 : decode (mb M_Dw_lay) 49 = .ok (.istore 4, 2) := by decide +kernel
theorem d_Dw_lay_51 : decode (mb M_Dw_lay) 51 = .ok (.aload_n 0, 1) := by decide +kernel
theorem d_Dw_lay_52 : decode (mb M_Dw_lay) 52 = .ok (.getfield 58, 3) := by decide +kernel
theorem d_Dw_lay_55 : decode (mb M_Dw_lay) 55 = .ok (.getfield 111, 3) := by decide +kernel
theorem d_Dw_lay_58 : decode (mb M_Dw_lay) 58 = .ok (.invokevirtual 112, 3) := by decide +kernel
theorem d_Dw_lay_61 : decode (mb M_Dw_lay) 61 = .ok (.bipush 20, 2) := by decide +kernel
theorem d_Dw_lay_63 : decode (mb M_Dw_lay) 63 = .ok (.if_icmp .le 20, 3) := by decide +kernel
theorem d_Dw_lay_66 : decode (mb M_Dw_lay) 66 = .ok (.aload_n 0, 1) := by decide +kernel
theorem d_Dw_lay_67 : decode (mb M_Dw_lay) 67 = .ok (.getfield 58, 3) := by decide +kernel
theorem d_Dw_lay_70 : decode (mb M_Dw_lay) 70 = .ok (.invokevirtual 177, 3) := by decide +kernel
theorem d_Dw_lay_73 : decode (mb M_Dw_lay) 73 = .ok (.new 132, 3) := by decide +kernel
theorem d_Dw_lay_76 : decode (mb M_Dw_lay) 76 = .ok (.dup, 1) := by decide +kernel
theorem d_Dw_lay_77 : decode (mb M_Dw_lay) 77 = .ok (.ldc 250, 2) := by decide +kernel
theorem d_Dw_lay_79 : decode (mb M_Dw_lay) 79 = .ok (.invokespecial 136, 3) := by decide +kernel
theorem d_Dw_lay_82 : decode (mb M_Dw_lay) 82 = .ok (.athrow, 1) := by decide +kernel
theorem d_Dw_lay_83 : decode (mb M_Dw_lay) 83 = .ok (.aload_n 0, 1) := by decide +kernel
theorem d_Dw_lay_84 : decode (mb M_Dw_lay) 84 = .ok (.getfield 58, 3) := by decide +kernel
theorem d_Dw_lay_87 : decode (mb M_Dw_lay) 87 = .ok (.aload_n 0, 1) := by decide +kernel
theorem d_Dw_lay_88 : decode (mb M_Dw_lay) 88 = .ok (.getfield 34, 3) := by decide +kernel
theorem d_Dw_lay_91 : decode (mb M_Dw_lay) 91 = .ok (.invokevirtual 148, 3) := by decide +kernel
theorem d_Dw_lay_94 : decode (mb M_Dw_lay) 94 = .ok (.aload_n 0, 1) := by decide +kernel
theorem d_Dw_lay_95 : decode (mb M_Dw_lay) 95 = .ok (.dup, 1) := by decide +kernel
theorem d_Dw_lay_96 : decode (mb M_Dw_lay) 96 = .ok (.getfield 85, 3) := by decide +kernel
theorem d_Dw_lay_99 : decode (mb M_Dw_lay) 99 = .ok (.iconst 1, 1) := by decide +kernel
theorem d_Dw_lay_100 : decode (mb M_Dw_lay) 100 = .ok (.iadd, 1) := by decide +kernel
theorem d_Dw_lay_101 : decode (mb M_Dw_lay) 101 = .ok (.putfield 85, 3) := by decide +kernel
theorem d_Dw_lay_104 : decode (mb M_Dw_lay) 104 = .ok (.iload 4, 2) := by decide +kernel
theorem d_Dw_lay_106 : decode (mb M_Dw_lay) 106 = .ok (.ireturn, 1) := by decide +kernel
theorem d_Dw_likeness_0 : decode (mb M_Dw_likeness) 0 = .ok (.aload_n 0, 1) := by decide +kernel
theorem d_Dw_likeness_1 : decode (mb M_Dw_likeness) 1 = .ok (.lload_n 1, 1) := by decide +kernel
theorem d_Dw_likeness_2 : decode (mb M_Dw_likeness) 2 = .ok (.invokevirtual 125, 3) := by decide +kernel
theorem d_Dw_likeness_5 : decode (mb M_Dw_likeness) 5 = .ok (.aload_n 0, 1) := by decide +kernel
theorem d_Dw_likeness_6 : decode (mb M_Dw_likeness) 6 = .ok (.lload_n 3, 1) := by decide +kernel
theorem d_Dw_likeness_7 : decode (mb M_Dw_likeness) 7 = .ok (.invokevirtual 125, 3) := by decide +kernel
theorem d_Dw_likeness_10 : decode (mb M_Dw_likeness) 10 = .ok (.lload_n 1, 1) := by decide +kernel
theorem d_Dw_likeness_11 : decode (mb M_Dw_likeness) 11 = .ok (.lload_n 3, 1) := by decide +kernel
theorem d_Dw_likeness_12 : decode (mb M_Dw_likeness) 12 = .ok (.invokestatic 164, 3) := by decide +kernel
theorem d_Dw_likeness_15 : decode (mb M_Dw_likeness) 15 = .ok (.ireturn, 1) := by decide +kernel
theorem d_Dw_lineAnew_0 : decode (mb M_Dw_lineAnew) 0 = .ok (.aload_n 0, 1) := by decide +kernel
theorem d_Dw_lineAnew_1 : decode (mb M_Dw_lineAnew) 1 = .ok (.iload_n 1, 1) := by decide +kernel
theorem d_Dw_lineAnew_2 : decode (mb M_Dw_lineAnew) 2 = .ok (.invokevirtual 91, 3) := by decide +kernel
theorem d_Dw_lineAnew_5 : decode (mb M_Dw_lineAnew) 5 = .ok (.astore_n 3, 1) := by decide +kernel
theorem d_Dw_lineAnew_6 : decode (mb M_Dw_lineAnew) 6 = .ok (.aload_n 0, 1) := by decide +kernel
theorem d_Dw_lineAnew_7 : decode (mb M_Dw_lineAnew) 7 = .ok (.iload_n 2, 1) := by decide +kernel
theorem d_Dw_lineAnew_8 : decode (mb M_Dw_lineAnew) 8 = .ok (.aload_n 3, 1) := by decide +kernel
theorem d_Dw_lineAnew_9 : decode (mb M_Dw_lineAnew) 9 = .ok (.getfield 99, 3) := by decide +kernel
theorem d_Dw_lineAnew_12 : decode (mb M_Dw_lineAnew) 12 = .ok (.invokevirtual 112, 3) := by decide +kernel
theorem d_Dw_lineAnew_15 : decode (mb M_Dw_lineAnew) 15 = .ok (.invokevirtual 121, 3) := by decide +kernel
theorem d_Dw_lineAnew_18 : decode (mb M_Dw_lineAnew) 18 = .ok (.iconst 1, 1) := by decide +kernel
theorem d_Dw_lineAnew_19 : decode (mb M_Dw_lineAnew) 19 = .ok (.istore 4, 2) := by decide +kernel
theorem d_Dw_lineAnew_21 : decode (mb M_Dw_lineAnew) 21 = .ok (.iload 4, 2) := by decide +kernel
theorem d_Dw_lineAnew_23 : decode (mb M_Dw_lineAnew) 23 = .ok (.iload_n 1, 1) := by decide +kernel
theorem d_Dw_lineAnew_24 : decode (mb M_Dw_lineAnew) 24 = .ok (.if_icmp .gt 35, 3) := by decide +kernel
theorem d_Dw_lineAnew_27 : decode (mb M_Dw_lineAnew) 27 = .ok (.iload 4, 2) := by decide +kernel
theorem d_Dw_lineAnew_29 : decode (mb M_Dw_lineAnew) 29 = .ok (.iload_n 1, 1) := by decide +kernel
theorem d_Dw_lineAnew_30 : decode (mb M_Dw_lineAnew) 30 = .ok (.if_icmp .eq 12, 3) := by decide +kernel
theorem d_Dw_lineAnew_33 : decode (mb M_Dw_lineAnew) 33 = .ok (.aload_n 3, 1) := by decide +kernel
theorem d_Dw_lineAnew_34 : decode (mb M_Dw_lineAnew) 34 = .ok (.iload 4, 2) := by decide +kernel
theorem d_Dw_lineAnew_36 : decode (mb M_Dw_lineAnew) 36 = .ok (.invokevirtual 199, 3) := by decide +kernel
theorem d_Dw_lineAnew_39 : decode (mb M_Dw_lineAnew) 39 = .ok (.ifCond .eq 14, 3) := by decide +kernel
theorem d_Dw_lineAnew_42 : decode (mb M_Dw_lineAnew) 42 = .ok (.aload_n 0, 1) := by decide +kernel
theorem d_Dw_lineAnew_43 : decode (mb M_Dw_lineAnew) 43 = .ok (.aload_n 0, 1) := by decide +kernel
theorem d_Dw_lineAnew_44 : decode (mb M_Dw_lineAnew) 44 = .ok (.getfield 11, 3) := by decide +kernel
theorem d_Dw_lineAnew_47 : decode (mb M_Dw_lineAnew) 47 = .ok (.iload 4, 2) := by decide +kernel
theorem d_Dw_lineAnew_49 : decode (mb M_Dw_lineAnew) 49 = .ok (.aaload, 1) := by decide +kernel
theorem d_Dw_lineAnew_50 : decode (mb M_Dw_lineAnew) 50 = .ok (.invokevirtual 203, 3) := by decide +kernel
theorem d_Dw_lineAnew_53 : decode (mb M_Dw_lineAnew) 53 = .ok (.iinc 4 1, 3) := by decide +kernel
theorem d_Dw_lineAnew_56 : decode (mb M_Dw_lineAnew) 56 = .ok (.goto (-35), 3) := by decide +kernel
theorem d_Dw_lineAnew_59 : decode (mb M_Dw_lineAnew) 59 = .ok (.aload_n 3, 1) := by decide +kernel
theorem d_Dw_lineAnew_60 : decode (mb M_Dw_lineAnew) 60 = .ok (.getfield 207, 3) := by decide +kernel
theorem d_Dw_lineAnew_63 : decode (mb M_Dw_lineAnew) 63 = .ok (.iload_n 2, 1) := by decide +kernel
theorem d_Dw_lineAnew_64 : decode (mb M_Dw_lineAnew) 64 = .ok (.invokevirtual 152, 3) := by decide +kernel
theorem d_Dw_lineAnew_67 : decode (mb M_Dw_lineAnew) 67 = .ok (.lreturn, 1) := by decide +kernel
theorem d_Dw_lineOf_0 : decode (mb M_Dw_lineOf) 0 = .ok (.aload_n 0, 1) := by decide +kernel
theorem d_Dw_lineOf_1 : decode (mb M_Dw_lineOf) 1 = .ok (.iload_n 1, 1) := by decide +kernel
theorem d_Dw_lineOf_2 : decode (mb M_Dw_lineOf) 2 = .ok (.invokevirtual 91, 3) := by decide +kernel
theorem d_Dw_lineOf_5 : decode (mb M_Dw_lineOf) 5 = .ok (.getfield 99, 3) := by decide +kernel
theorem d_Dw_lineOf_8 : decode (mb M_Dw_lineOf) 8 = .ok (.astore_n 3, 1) := by decide +kernel
theorem d_Dw_lineOf_9 : decode (mb M_Dw_lineOf) 9 = .ok (.aload_n 0, 1) := by decide +kernel
theorem d_Dw_lineOf_10 : decode (mb M_Dw_lineOf) 10 = .ok (.iload_n 2, 1) := by decide +kernel
theorem d_Dw_lineOf_11 : decode (mb M_Dw_lineOf) 11 = .ok (.aload_n 3, 1) := by decide +kernel
theorem d_Dw_lineOf_12 : decode (mb M_Dw_lineOf) 12 = .ok (.invokevirtual 112, 3) := by decide +kernel
theorem d_Dw_lineOf_15 : decode (mb M_Dw_lineOf) 15 = .ok (.invokevirtual 121, 3) := by decide +kernel
theorem d_Dw_lineOf_18 : decode (mb M_Dw_lineOf) 18 = .ok (.aload_n 3, 1) := by decide +kernel
theorem d_Dw_lineOf_19 : decode (mb M_Dw_lineOf) 19 = .ok (.iload_n 2, 1) := by decide +kernel
theorem d_Dw_lineOf_20 : decode (mb M_Dw_lineOf) 20 = .ok (.invokevirtual 152, 3) := by decide +kernel
theorem d_Dw_lineOf_23 : decode (mb M_Dw_lineOf) 23 = .ok (.lreturn, 1) := by decide +kernel
theorem d_Dw_lines_0 : decode (mb M_Dw_lines) 0 = .ok (.aload_n 0, 1) := by decide +kernel
theorem d_Dw_lines_1 : decode (mb M_Dw_lines) 1 = .ok (.iload_n 1, 1) := by decide +kernel
theorem d_Dw_lines_2 : decode (mb M_Dw_lines) 2 = .ok (.invokevirtual 91, 3) := by decide +kernel
theorem d_Dw_lines_5 : decode (mb M_Dw_lines) 5 = .ok (.getfield 99, 3) := by decide +kernel
theorem d_Dw_lines_8 : decode (mb M_Dw_lines) 8 = .ok (.invokevirtual 112, 3) := by decide +kernel
theorem d_Dw_lines_11 : decode (mb M_Dw_lines) 11 = .ok (.ireturn, 1) := by decide +kernel
theorem d_Dw_makeAnew_0 : decode (mb M_Dw_makeAnew) 0 = .ok (.aload_n 1, 1) := by decide +kernel
theorem d_Dw_makeAnew_1 : decode (mb M_Dw_makeAnew) 1 = .ok (.getfield 404, 3) := by decide +kernel
theorem d_Dw_makeAnew_4 : decode (mb M_Dw_makeAnew) 4 = .ok (.ifCond .lt 14, 3) := by decide +kernel
theorem d_Dw_makeAnew_7 : decode (mb M_Dw_makeAnew) 7 = .ok (.aload_n 1, 1) := by decide +kernel
theorem d_Dw_makeAnew_8 : decode (mb M_Dw_makeAnew) 8 = .ok (.getfield 404, 3) := by decide +kernel
theorem d_Dw_makeAnew_11 : decode (mb M_Dw_makeAnew) 11 = .ok (.aload_n 0, 1) := by decide +kernel
theorem d_Dw_makeAnew_12 : decode (mb M_Dw_makeAnew) 12 = .ok (.getfield 72, 3) := by decide +kernel
theorem d_Dw_makeAnew_15 : decode (mb M_Dw_makeAnew) 15 = .ok (.if_icmp .lt 4, 3) := by decide +kernel
theorem d_Dw_makeAnew_18 : decode (mb M_Dw_makeAnew) 18 = .ok (.return_, 1) := by decide +kernel
theorem d_Dw_makeAnew_19 : decode (mb M_Dw_makeAnew) 19 = .ok (.aload_n 0, 1) := by decide +kernel
theorem d_Dw_makeAnew_20 : decode (mb M_Dw_makeAnew) 20 = .ok (.getfield 11, 3) := by decide +kernel
theorem d_Dw_makeAnew_23 : decode (mb M_Dw_makeAnew) 23 = .ok (.aload_n 1, 1) := by decide +kernel
theorem d_Dw_makeAnew_24 : decode (mb M_Dw_makeAnew) 24 = .ok (.getfield 404, 3) := by decide +kernel
theorem d_Dw_makeAnew_27 : decode (mb M_Dw_makeAnew) 27 = .ok (.aaload, 1) := by decide +kernel
theorem d_Dw_makeAnew_28 : decode (mb M_Dw_makeAnew) 28 = .ok (.getfield 207, 3) := by decide +kernel
theorem d_Dw_makeAnew_31 : decode (mb M_Dw_makeAnew) 31 = .ok (.astore_n 2, 1) := by decide +kernel
theorem d_Dw_makeAnew_32 : decode (mb M_Dw_makeAnew) 32 = .ok (.aload_n 1, 1) := by decide +kernel
theorem d_Dw_makeAnew_33 : decode (mb M_Dw_makeAnew) 33 = .ok (.getfield 405, 3) := by decide +kernel
theorem d_Dw_makeAnew_36 : decode (mb M_Dw_makeAnew) 36 = .ok (.ifCond .lt 14, 3) := by decide +kernel
theorem d_Dw_makeAnew_39 : decode (mb M_Dw_makeAnew) 39 = .ok (.aload_n 1, 1) := by decide +kernel
theorem d_Dw_makeAnew_40 : decode (mb M_Dw_makeAnew) 40 = .ok (.getfield 405, 3) := by decide +kernel
theorem d_Dw_makeAnew_43 : decode (mb M_Dw_makeAnew) 43 = .ok (.aload_n 0, 1) := by decide +kernel
theorem d_Dw_makeAnew_44 : decode (mb M_Dw_makeAnew) 44 = .ok (.getfield 72, 3) := by decide +kernel
theorem d_Dw_makeAnew_47 : decode (mb M_Dw_makeAnew) 47 = .ok (.if_icmp .lt 14, 3) := by decide +kernel
theorem d_Dw_makeAnew_50 : decode (mb M_Dw_makeAnew) 50 = .ok (.aload_n 0, 1) := by decide +kernel
theorem d_Dw_makeAnew_51 : decode (mb M_Dw_makeAnew) 51 = .ok (.getfield 62, 3) := by decide +kernel
theorem d_Dw_makeAnew_54 : decode (mb M_Dw_makeAnew) 54 = .ok (.aload_n 2, 1) := by decide +kernel
theorem d_Dw_makeAnew_55 : decode (mb M_Dw_makeAnew) 55 = .ok (.invokevirtual 103, 3) := by decide +kernel
theorem d_Dw_makeAnew_58 : decode (mb M_Dw_makeAnew) 58 = .ok (.goto 45, 3) := by decide +kernel
theorem d_Dw_makeAnew_61 : decode (mb M_Dw_makeAnew) 61 = .ok (.aload_n 0, 1) := by decide +kernel
theorem d_Dw_makeAnew_62 : decode (mb M_Dw_makeAnew) 62 = .ok (.aload_n 1, 1) := by decide +kernel
theorem d_Dw_makeAnew_63 : decode (mb M_Dw_makeAnew) 63 = .ok (.getfield 404, 3) := by decide +kernel
theorem d_Dw_makeAnew_66 : decode (mb M_Dw_makeAnew) 66 = .ok (.aload_n 1, 1) := by decide +kernel
theorem d_Dw_makeAnew_67 : decode (mb M_Dw_makeAnew) 67 = .ok (.getfield 405, 3) := by decide +kernel
theorem d_Dw_makeAnew_70 : decode (mb M_Dw_makeAnew) 70 = .ok (.invokevirtual 237, 3) := by decide +kernel
theorem d_Dw_makeAnew_73 : decode (mb M_Dw_makeAnew) 73 = .ok (.istore_n 3, 1) := by decide +kernel
theorem d_Dw_makeAnew_74 : decode (mb M_Dw_makeAnew) 74 = .ok (.aload_n 0, 1) := by decide +kernel
theorem d_Dw_makeAnew_75 : decode (mb M_Dw_makeAnew) 75 = .ok (.getfield 62, 3) := by decide +kernel
theorem d_Dw_makeAnew_78 : decode (mb M_Dw_makeAnew) 78 = .ok (.aload_n 2, 1) := by decide +kernel
theorem d_Dw_makeAnew_79 : decode (mb M_Dw_makeAnew) 79 = .ok (.aload_n 0, 1) := by decide +kernel
theorem d_Dw_makeAnew_80 : decode (mb M_Dw_makeAnew) 80 = .ok (.getfield 11, 3) := by decide +kernel
theorem d_Dw_makeAnew_83 : decode (mb M_Dw_makeAnew) 83 = .ok (.aload_n 1, 1) := by decide +kernel
theorem d_Dw_makeAnew_84 : decode (mb M_Dw_makeAnew) 84 = .ok (.getfield 405, 3) := by decide +kernel
theorem d_Dw_makeAnew_87 : decode (mb M_Dw_makeAnew) 87 = .ok (.aaload, 1) := by decide +kernel
theorem d_Dw_makeAnew_88 : decode (mb M_Dw_makeAnew) 88 = .ok (.getfield 207, 3) := by decide +kernel
theorem d_Dw_makeAnew_91 : decode (mb M_Dw_makeAnew) 91 = .ok (.aload_n 0, 1) := by decide +kernel
theorem d_Dw_makeAnew_92 : decode (mb M_Dw_makeAnew) 92 = .ok (.getfield 11, 3) := by decide +kernel
theorem d_Dw_makeAnew_95 : decode (mb M_Dw_makeAnew) 95 = .ok (.iload_n 3, 1) := by decide +kernel
theorem d_Dw_makeAnew_96 : decode (mb M_Dw_makeAnew) 96 = .ok (.aaload, 1) := by decide +kernel
theorem d_Dw_makeAnew_97 : decode (mb M_Dw_makeAnew) 97 = .ok (.getfield 207, 3) := by decide +kernel
theorem d_Dw_makeAnew_100 : decode (mb M_Dw_makeAnew) 100 = .ok (.invokevirtual 246, 3) := by decide +kernel
theorem d_Dw_makeAnew_103 : decode (mb M_Dw_makeAnew) 103 = .ok (.iconst 0, 1) := by decide +kernel
theorem d_Dw_makeAnew_104 : decode (mb M_Dw_makeAnew) 104 = .ok (.istore_n 3, 1) := by decide +kernel
theorem d_Dw_makeAnew_105 : decode (mb M_Dw_makeAnew) 105 = .ok (.iload_n 3, 1) := by decide +kernel
theorem d_Dw_makeAnew_106 : decode (mb M_Dw_makeAnew) 106 = .ok (.aload_n 1, 1) := by decide +kernel
theorem d_Dw_makeAnew_107 : decode (mb M_Dw_makeAnew) 107 = .ok (.getfield 406, 3) := by decide +kernel
theorem d_Dw_makeAnew_110 : decode (mb M_Dw_makeAnew) 110 = .ok (.invokevirtual 410, 3) := by decide +kernel
theorem d_Dw_makeAnew_113 : decode (mb M_Dw_makeAnew) 113 = .ok (.if_icmp .ge 28, 3) := by decide +kernel
theorem d_Dw_makeAnew_116 : decode (mb M_Dw_makeAnew) 116 = .ok (.aload_n 0, 1) := by decide +kernel
theorem d_Dw_makeAnew_117 : decode (mb M_Dw_makeAnew) 117 = .ok (.getfield 62, 3) := by decide +kernel
theorem d_Dw_makeAnew_120 : decode (mb M_Dw_makeAnew) 120 = .ok (.aload_n 1, 1) := by decide +kernel
theorem d_Dw_makeAnew_121 : decode (mb M_Dw_makeAnew) 121 = .ok (.getfield 406, 3) := by decide +kernel
theorem d_Dw_makeAnew_124 : decode (mb M_Dw_makeAnew) 124 = .ok (.iload_n 3, 1) := by decide +kernel
theorem d_Dw_makeAnew_125 : decode (mb M_Dw_makeAnew) 125 = .ok (.invokevirtual 413, 3) := by decide +kernel
theorem d_Dw_makeAnew_128 : decode (mb M_Dw_makeAnew) 128 = .ok (.checkcast 139, 3) := by decide +kernel
theorem d_Dw_makeAnew_131 : decode (mb M_Dw_makeAnew) 131 = .ok (.invokevirtual 417, 3) := by decide +kernel
theorem d_Dw_makeAnew_134 : decode (mb M_Dw_makeAnew) 134 = .ok (.pop, 1) := by decide +kernel
theorem d_Dw_makeAnew_135 : decode (mb M_Dw_makeAnew) 135 = .ok (.iinc 3 1, 3) := by decide +kernel
theorem d_Dw_makeAnew_138 : decode (mb M_Dw_makeAnew) 138 = .ok (.goto (-33), 3) := by decide +kernel
theorem d_Dw_makeAnew_141 : decode (mb M_Dw_makeAnew) 141 = .ok (.aload_n 1, 1) := by decide +kernel
theorem d_Dw_makeAnew_142 : decode (mb M_Dw_makeAnew) 142 = .ok (.getfield 207, 3) := by decide +kernel
theorem d_Dw_makeAnew_145 : decode (mb M_Dw_makeAnew) 145 = .ok (.aload_n 0, 1) := by decide +kernel
theorem d_Dw_makeAnew_146 : decode (mb M_Dw_makeAnew) 146 = .ok (.getfield 62, 3) := by decide +kernel
theorem d_Dw_makeAnew_149 : decode (mb M_Dw_makeAnew) 149 = .ok (.getfield 111, 3) := by decide +kernel
theorem d_Dw_makeAnew_152 : decode (mb M_Dw_makeAnew) 152 = .ok (.invokevirtual 420, 3) := by decide +kernel
theorem d_Dw_makeAnew_155 : decode (mb M_Dw_makeAnew) 155 = .ok (.return_, 1) := by decide +kernel
theorem d_Dw_merge_0 : decode (mb M_Dw_merge) 0 = .ok (.aload_n 0, 1) := by decide +kernel
theorem d_Dw_merge_1 : decode (mb M_Dw_merge) 1 = .ok (.iload_n 1, 1) := by decide +kernel
theorem d_Dw_merge_2 : decode (mb M_Dw_merge) 2 = .ok (.invokevirtual 91, 3) := by decide +kernel
theorem d_Dw_merge_5 : decode (mb M_Dw_merge) 5 = .ok (.getfield 99, 3) := by decide +kernel
theorem d_Dw_merge_8 : decode (mb M_Dw_merge) 8 = .ok (.astore 4, 2) := by decide +kernel
theorem d_Dw_merge_10 : decode (mb M_Dw_merge) 10 = .ok (.aload_n 0, 1) := by decide +kernel
theorem d_Dw_merge_11 : decode (mb M_Dw_merge) 11 = .ok (.iload_n 2, 1) := by decide +kernel
theorem d_Dw_merge_12 : decode (mb M_Dw_merge) 12 = .ok (.invokevirtual 91, 3) := by decide +kernel
theorem d_Dw_merge_15 : decode (mb M_Dw_merge) 15 = .ok (.getfield 99, 3) := by decide +kernel
theorem d_Dw_merge_18 : decode (mb M_Dw_merge) 18 = .ok (.astore 5, 2) := by decide +kernel
theorem d_Dw_merge_20 : decode (mb M_Dw_merge) 20 = .ok (.aload_n 0, 1) := by decide +kernel
theorem d_Dw_merge_21 : decode (mb M_Dw_merge) 21 = .ok (.iload_n 3, 1) := by decide +kernel
theorem d_Dw_merge_22 : decode (mb M_Dw_merge) 22 = .ok (.invokevirtual 95, 3) := by decide +kernel
theorem d_Dw_merge_25 : decode (mb M_Dw_merge) 25 = .ok (.iload_n 1, 1) := by decide +kernel
theorem d_Dw_merge_26 : decode (mb M_Dw_merge) 26 = .ok (.iload_n 2, 1) := by decide +kernel
theorem d_Dw_merge_27 : decode (mb M_Dw_merge) 27 = .ok (.if_icmp .ne 13, 3) := by decide +kernel
theorem d_Dw_merge_30 : decode (mb M_Dw_merge) 30 = .ok (.new 241, 3) := by decide +kernel
theorem d_Dw_merge_33 : decode (mb M_Dw_merge) 33 = .ok (.dup, 1) := by decide +kernel
theorem d_Dw_merge_34 : decode (mb M_Dw_merge) 34 = .ok (.ldc 243, 2) := by decide +kernel
theorem d_Dw_merge_36 : decode (mb M_Dw_merge) 36 = .ok (.invokespecial 245, 3) := by decide +kernel
theorem d_Dw_merge_39 : decode (mb M_Dw_merge) 39 = .ok (.athrow, 1) := by decide +kernel
theorem d_Dw_merge_40 : decode (mb M_Dw_merge) 40 = .ok (.aload_n 0, 1) := by decide +kernel
theorem d_Dw_merge_41 : decode (mb M_Dw_merge) 41 = .ok (.getfield 62, 3) := by decide +kernel
theorem d_Dw_merge_44 : decode (mb M_Dw_merge) 44 = .ok (.aload 4, 2) := by decide +kernel
theorem d_Dw_merge_46 : decode (mb M_Dw_merge) 46 = .ok (.aload 5, 2) := by decide +kernel
theorem d_Dw_merge_48 : decode (mb M_Dw_merge) 48 = .ok (.aload_n 0, 1) := by decide +kernel
theorem d_Dw_merge_49 : decode (mb M_Dw_merge) 49 = .ok (.getfield 11, 3) := by decide +kernel
theorem d_Dw_merge_52 : decode (mb M_Dw_merge) 52 = .ok (.aload_n 0, 1) := by decide +kernel
theorem d_Dw_merge_53 : decode (mb M_Dw_merge) 53 = .ok (.iload_n 1, 1) := by decide +kernel
theorem d_Dw_merge_54 : decode (mb M_Dw_merge) 54 = .ok (.iload_n 2, 1) := by decide +kernel
theorem d_Dw_merge_55 : decode (mb M_Dw_merge) 55 = .ok (.invokevirtual 237, 3) := by decide +kernel
theorem d_Dw_merge_58 : decode (mb M_Dw_merge) 58 = .ok (.aaload, 1) := by decide +kernel
theorem d_Dw_merge_59 : decode (mb M_Dw_merge) 59 = .ok (.getfield 99, 3) := by decide +kernel
theorem d_Dw_merge_62 : decode (mb M_Dw_merge) 62 = .ok (.invokevirtual 246, 3) := by decide +kernel
theorem d_Dw_merge_65 : decode (mb M_Dw_merge) 65 = .ok (.aload_n 0, 1) := by decide +kernel
theorem d_Dw_merge_66 : decode (mb M_Dw_merge) 66 = .ok (.getfield 62, 3) := by decide +kernel
theorem d_Dw_merge_69 : decode (mb M_Dw_merge) 69 = .ok (.getfield 111, 3) := by decide +kernel
theorem d_Dw_merge_72 : decode (mb M_Dw_merge) 72 = .ok (.invokevirtual 112, 3) := by decide +kernel
theorem d_Dw_merge_75 : decode (mb M_Dw_merge) 75 = .ok (.bipush 20, 2) := by decide +kernel
theorem d_Dw_merge_77 : decode (mb M_Dw_merge) 77 = .ok (.if_icmp .le 13, 3) := by decide +kernel
theorem d_Dw_merge_80 : decode (mb M_Dw_merge) 80 = .ok (.new 132, 3) := by decide +kernel
theorem d_Dw_merge_83 : decode (mb M_Dw_merge) 83 = .ok (.dup, 1) := by decide +kernel
theorem d_Dw_merge_84 : decode (mb M_Dw_merge) 84 = .ok (.ldc 250, 2) := by decide +kernel
theorem d_Dw_merge_86 : decode (mb M_Dw_merge) 86 = .ok (.invokespecial 136, 3) := by decide +kernel
theorem d_Dw_merge_89 : decode (mb M_Dw_merge) 89 = .ok (.athrow, 1) := by decide +kernel
theorem d_Dw_merge_90 : decode (mb M_Dw_merge) 90 = .ok (.aload_n 0, 1) := by decide +kernel
theorem d_Dw_merge_91 : decode (mb M_Dw_merge) 91 = .ok (.getfield 62, 3) := by decide +kernel
theorem d_Dw_merge_94 : decode (mb M_Dw_merge) 94 = .ok (.iload_n 3, 1) := by decide +kernel
theorem d_Dw_merge_95 : decode (mb M_Dw_merge) 95 = .ok (.iload_n 1, 1) := by decide +kernel
theorem d_Dw_merge_96 : decode (mb M_Dw_merge) 96 = .ok (.iload_n 2, 1) := by decide +kernel
theorem d_Dw_merge_97 : decode (mb M_Dw_merge) 97 = .ok (.invokevirtual 107, 3) := by decide +kernel
theorem d_Dw_merge_100 : decode (mb M_Dw_merge) 100 = .ok (.aload_n 0, 1) := by decide +kernel
theorem d_Dw_merge_101 : decode (mb M_Dw_merge) 101 = .ok (.getfield 58, 3) := by decide +kernel
theorem d_Dw_merge_104 : decode (mb M_Dw_merge) 104 = .ok (.astore 6, 2) := by decide +kernel
theorem d_Dw_merge_106 : decode (mb M_Dw_merge) 106 = .ok (.aload_n 0, 1) := by decide +kernel
theorem d_Dw_merge_107 : decode (mb M_Dw_merge) 107 = .ok (.aload_n 0, 1) := by decide +kernel
theorem d_Dw_merge_108 : decode (mb M_Dw_merge) 108 = .ok (.getfield 62, 3) := by decide +kernel
theorem d_Dw_merge_111 : decode (mb M_Dw_merge) 111 = .ok (.putfield 58, 3) := by decide +kernel
theorem d_Dw_merge_114 : decode (mb M_Dw_merge) 114 = .ok (.aload_n 0, 1) := by decide +kernel
theorem d_Dw_merge_115 : decode (mb M_Dw_merge) 115 = .ok (.aload 6, 2) := by decide +kernel
theorem d_Dw_merge_117 : decode (mb M_Dw_merge) 117 = .ok (.putfield 62, 3) := by decide +kernel
theorem d_Dw_merge_120 : decode (mb M_Dw_merge) 120 = .ok (.aload_n 0, 1) := by decide +kernel
theorem d_Dw_merge_121 : decode (mb M_Dw_merge) 121 = .ok (.iconst 1, 1) := by decide +kernel
theorem d_Dw_merge_122 : decode (mb M_Dw_merge) 122 = .ok (.putfield 65, 3) := by decide +kernel
theorem d_Dw_merge_125 : decode (mb M_Dw_merge) 125 = .ok (.aload_n 0, 1) := by decide +kernel
theorem d_Dw_merge_126 : decode (mb M_Dw_merge) 126 = .ok (.getfield 58, 3) := by decide +kernel
theorem d_Dw_merge_129 : decode (mb M_Dw_merge) 129 = .ok (.invokevirtual 252, 3) := by decide +kernel
theorem d_Dw_merge_132 : decode (mb M_Dw_merge) 132 = .ok (.ireturn, 1) := by decide +kernel
theorem d_Dw_move_0 : decode (mb M_Dw_move) 0 = .ok (.aload_n 0, 1) := by decide +kernel
theorem d_Dw_move_1 : decode (mb M_Dw_move) 1 = .ok (.iload_n 1, 1) := by decide +kernel
theorem d_Dw_move_2 : decode (mb M_Dw_move) 2 = .ok (.aload_n 0, 1) := by decide +kernel
theorem d_Dw_move_3 : decode (mb M_Dw_move) 3 = .ok (.invokevirtual 118, 3) := by decide +kernel
theorem d_Dw_move_6 : decode (mb M_Dw_move) 6 = .ok (.invokevirtual 121, 3) := by decide +kernel
theorem d_Dw_move_9 : decode (mb M_Dw_move) 9 = .ok (.aload_n 0, 1) := by decide +kernel
theorem d_Dw_move_10 : decode (mb M_Dw_move) 10 = .ok (.iload_n 2, 1) := by decide +kernel
theorem d_Dw_move_11 : decode (mb M_Dw_move) 11 = .ok (.aload_n 0, 1) := by decide +kernel
theorem d_Dw_move_12 : decode (mb M_Dw_move) 12 = .ok (.invokevirtual 118, 3) := by decide +kernel
theorem d_Dw_move_15 : decode (mb M_Dw_move) 15 = .ok (.invokevirtual 121, 3) := by decide +kernel
theorem d_Dw_move_18 : decode (mb M_Dw_move) 18 = .ok (.aload_n 0, 1) := by decide +kernel
theorem d_Dw_move_19 : decode (mb M_Dw_move) 19 = .ok (.invokevirtual 129, 3) := by decide +kernel
theorem d_Dw_move_22 : decode (mb M_Dw_move) 22 = .ok (.aload_n 0, 1) := by decide +kernel
theorem d_Dw_move_23 : decode (mb M_Dw_move) 23 = .ok (.getfield 58, 3) := by decide +kernel
theorem d_Dw_move_26 : decode (mb M_Dw_move) 26 = .ok (.new 139, 3) := by decide +kernel
theorem d_Dw_move_29 : decode (mb M_Dw_move) 29 = .ok (.dup, 1) := by decide +kernel
theorem d_Dw_move_30 : decode (mb M_Dw_move) 30 = .ok (.iconst 3, 1) := by decide +kernel
theorem d_Dw_move_31 : decode (mb M_Dw_move) 31 = .ok (.iload_n 1, 1) := by decide +kernel
theorem d_Dw_move_32 : decode (mb M_Dw_move) 32 = .ok (.iload_n 2, 1) := by decide +kernel
theorem d_Dw_move_33 : decode (mb M_Dw_move) 33 = .ok (.lconst 0, 1) := by decide +kernel
theorem d_Dw_move_34 : decode (mb M_Dw_move) 34 = .ok (.aconst_null, 1) := by decide +kernel
theorem d_Dw_move_35 : decode (mb M_Dw_move) 35 = .ok (.invokespecial 141, 3) := by decide +kernel
theorem d_Dw_move_38 : decode (mb M_Dw_move) 38 = .ok (.invokevirtual 144, 3) := by decide +kernel
theorem d_Dw_move_41 : decode (mb M_Dw_move) 41 = .ok (.pop, 1) := by decide +kernel
theorem d_Dw_move_42 : decode (mb M_Dw_move) 42 = .ok (.aload_n 0, 1) := by decide +kernel
theorem d_Dw_move_43 : decode (mb M_Dw_move) 43 = .ok (.dup, 1) := by decide +kernel
theorem d_Dw_move_44 : decode (mb M_Dw_move) 44 = .ok (.getfield 85, 3) := by decide +kernel
theorem d_Dw_move_47 : decode (mb M_Dw_move) 47 = .ok (.iconst 1, 1) := by decide +kernel
theorem d_Dw_move_48 : decode (mb M_Dw_move) 48 = .ok (.iadd, 1) := by decide +kernel
theorem d_Dw_move_49 : decode (mb M_Dw_move) 49 = .ok (.putfield 85, 3) := by decide +kernel
theorem d_Dw_move_52 : decode (mb M_Dw_move) 52 = .ok (.return_, 1) := by decide +kernel
theorem d_Dw_movedTo_0 : decode (mb M_Dw_movedTo) 0 = .ok (.aload_n 0, 1) := by decide +kernel
theorem d_Dw_movedTo_1 : decode (mb M_Dw_movedTo) 1 = .ok (.iload_n 1, 1) := by decide +kernel
theorem d_Dw_movedTo_2 : decode (mb M_Dw_movedTo) 2 = .ok (.aload_n 0, 1) := by decide +kernel
theorem d_Dw_movedTo_3 : decode (mb M_Dw_movedTo) 3 = .ok (.getfield 69, 3) := by decide +kernel
theorem d_Dw_movedTo_6 : decode (mb M_Dw_movedTo) 6 = .ok (.ifCond .eq 13, 3) := by decide +kernel
theorem d_Dw_movedTo_9 : decode (mb M_Dw_movedTo) 9 = .ok (.aload_n 0, 1) := by decide +kernel
theorem d_Dw_movedTo_10 : decode (mb M_Dw_movedTo) 10 = .ok (.getfield 41, 3) := by decide +kernel
theorem d_Dw_movedTo_13 : decode (mb M_Dw_movedTo) 13 = .ok (.invokevirtual 226, 3) := by decide +kernel
theorem d_Dw_movedTo_16 : decode (mb M_Dw_movedTo) 16 = .ok (.goto 4, 3) := by decide +kernel
theorem d_Dw_movedTo_19 : decode (mb M_Dw_movedTo) 19 = .ok (.iconst 0, 1) := by decide +kernel
theorem d_Dw_movedTo_20 : decode (mb M_Dw_movedTo) 20 = .ok (.invokevirtual 121, 3) := by decide +kernel
theorem d_Dw_movedTo_23 : decode (mb M_Dw_movedTo) 23 = .ok (.aload_n 0, 1) := by decide +kernel
theorem d_Dw_movedTo_24 : decode (mb M_Dw_movedTo) 24 = .ok (.getfield 41, 3) := by decide +kernel
theorem d_Dw_movedTo_27 : decode (mb M_Dw_movedTo) 27 = .ok (.iload_n 1, 1) := by decide +kernel
theorem d_Dw_movedTo_28 : decode (mb M_Dw_movedTo) 28 = .ok (.invokevirtual 230, 3) := by decide +kernel
theorem d_Dw_movedTo_31 : decode (mb M_Dw_movedTo) 31 = .ok (.ireturn, 1) := by decide +kernel
theorem d_Dw_note_0 : decode (mb M_Dw_note) 0 = .ok (.aload_n 0, 1) := by decide +kernel
theorem d_Dw_note_1 : decode (mb M_Dw_note) 1 = .ok (.iload_n 1, 1) := by decide +kernel
theorem d_Dw_note_2 : decode (mb M_Dw_note) 2 = .ok (.invokevirtual 91, 3) := by decide +kernel
theorem d_Dw_note_5 : decode (mb M_Dw_note) 5 = .ok (.getfield 99, 3) := by decide +kernel
theorem d_Dw_note_8 : decode (mb M_Dw_note) 8 = .ok (.astore_n 3, 1) := by decide +kernel
theorem d_Dw_note_9 : decode (mb M_Dw_note) 9 = .ok (.aload_n 0, 1) := by decide +kernel
theorem d_Dw_note_10 : decode (mb M_Dw_note) 10 = .ok (.iload_n 2, 1) := by decide +kernel
theorem d_Dw_note_11 : decode (mb M_Dw_note) 11 = .ok (.aload_n 3, 1) := by decide +kernel
theorem d_Dw_note_12 : decode (mb M_Dw_note) 12 = .ok (.invokevirtual 112, 3) := by decide +kernel
theorem d_Dw_note_15 : decode (mb M_Dw_note) 15 = .ok (.invokevirtual 121, 3) := by decide +kernel
theorem d_Dw_note_18 : decode (mb M_Dw_note) 18 = .ok (.aload_n 0, 1) := by decide +kernel
theorem d_Dw_note_19 : decode (mb M_Dw_note) 19 = .ok (.getfield 82, 3) := by decide +kernel
theorem d_Dw_note_22 : decode (mb M_Dw_note) 22 = .ok (.bipush 20, 2) := by decide +kernel
theorem d_Dw_note_24 : decode (mb M_Dw_note) 24 = .ok (.if_icmp .lt 14, 3) := by decide +kernel
theorem d_Dw_note_27 : decode (mb M_Dw_note) 27 = .ok (.new 132, 3) := by decide +kernel
theorem d_Dw_note_30 : decode (mb M_Dw_note) 30 = .ok (.dup, 1) := by decide +kernel
theorem d_Dw_note_31 : decode (mb M_Dw_note) 31 = .ok (.ldc_w 308, 3) := by decide +kernel
theorem d_Dw_note_34 : decode (mb M_Dw_note) 34 = .ok (.invokespecial 136, 3) := by decide +kernel
theorem d_Dw_note_37 : decode (mb M_Dw_note) 37 = .ok (.athrow, 1) := by decide +kernel
theorem d_Dw_note_38 : decode (mb M_Dw_note) 38 = .ok (.aload_n 0, 1) := by decide +kernel
theorem d_Dw_note_39 : decode (mb M_Dw_note) 39 = .ok (.getfield 27, 3) := by decide +kernel
theorem d_Dw_note_42 : decode (mb M_Dw_note) 42 = .ok (.aload_n 0, 1) := by decide +kernel
theorem d_Dw_note_43 : decode (mb M_Dw_note) 43 = .ok (.getfield 82, 3) := by decide +kernel
theorem d_Dw_note_46 : decode (mb M_Dw_note) 46 = .ok (.aload_n 3, 1) := by decide +kernel
theorem d_Dw_note_47 : decode (mb M_Dw_note) 47 = .ok (.iload_n 2, 1) := by decide +kernel
theorem d_Dw_note_48 : decode (mb M_Dw_note) 48 = .ok (.invokevirtual 156, 3) := by decide +kernel
theorem d_Dw_note_51 : decode (mb M_Dw_note) 51 = .ok (.iastore, 1) := by decide +kernel
theorem d_Dw_note_52 : decode (mb M_Dw_note) 52 = .ok (.aload_n 0, 1) := by decide +kernel
theorem d_Dw_note_53 : decode (mb M_Dw_note) 53 = .ok (.dup, 1) := by decide +kernel
theorem d_Dw_note_54 : decode (mb M_Dw_note) 54 = .ok (.getfield 82, 3) := by decide +kernel
theorem d_Dw_note_57 : decode (mb M_Dw_note) 57 = .ok (.iconst 1, 1) := by decide +kernel
theorem d_Dw_note_58 : decode (mb M_Dw_note) 58 = .ok (.iadd, 1) := by decide +kernel
theorem d_Dw_note_59 : decode (mb M_Dw_note) 59 = .ok (.putfield 82, 3) := by decide +kernel
theorem d_Dw_note_62 : decode (mb M_Dw_note) 62 = .ok (.aload_n 0, 1) := by decide +kernel
theorem d_Dw_note_63 : decode (mb M_Dw_note) 63 = .ok (.getfield 82, 3) := by decide +kernel
theorem d_Dw_note_66 : decode (mb M_Dw_note) 66 = .ok (.iconst 1, 1) := by decide +kernel
theorem d_Dw_note_67 : decode (mb M_Dw_note) 67 = .ok (.isub, 1) := by decide +kernel
theorem d_Dw_note_68 : decode (mb M_Dw_note) 68 = .ok (.ireturn, 1) := by decide +kernel
theorem d_Dw_noteAt_0 : decode (mb M_Dw_noteAt) 0 = .ok (.iload_n 1, 1) := by decide +kernel
theorem d_Dw_noteAt_1 : decode (mb M_Dw_noteAt) 1 = .ok (.ifCond .lt 11, 3) := by decide +kernel
theorem d_Dw_noteAt_4 : decode (mb M_Dw_noteAt) 4 = .ok (.iload_n 1, 1) := by decide +kernel
theorem d_Dw_noteAt_5 : decode (mb M_Dw_noteAt) 5 = .ok (.aload_n 0, 1) := by decide +kernel
theorem d_Dw_noteAt_6 : decode (mb M_Dw_noteAt) 6 = .ok (.getfield 82, 3) := by decide +kernel
theorem d_Dw_noteAt_9 : decode (mb M_Dw_noteAt) 9 = .ok (.if_icmp .lt 14, 3) := by decide +kernel
theorem d_Dw_noteAt_12 : decode (mb M_Dw_noteAt) 12 = .ok (.new 294, 3) := by decide +kernel
theorem d_Dw_noteAt_15 : decode (mb M_Dw_noteAt) 15 = .ok (.dup, 1) := by decide +kernel
theorem d_Dw_noteAt_16 : decode (mb M_Dw_noteAt) 16 = .ok (.ldc_w 310, 3) := by decide +kernel
theorem d_Dw_noteAt_19 : decode (mb M_Dw_noteAt) 19 = .ok (.invokespecial 298, 3) := by decide +kernel
theorem d_Dw_noteAt_22 : decode (mb M_Dw_noteAt) 22 = .ok (.athrow, 1) := by decide +kernel
theorem d_Dw_noteAt_23 : decode (mb M_Dw_noteAt) 23 = .ok (.aload_n 0, 1) := by decide +kernel
theorem d_Dw_noteAt_24 : decode (mb M_Dw_noteAt) 24 = .ok (.iload_n 2, 1) := by decide +kernel
theorem d_Dw_noteAt_25 : decode (mb M_Dw_noteAt) 25 = .ok (.invokevirtual 91, 3) := by decide +kernel
theorem d_Dw_noteAt_28 : decode (mb M_Dw_noteAt) 28 = .ok (.getfield 99, 3) := by decide +kernel
theorem d_Dw_noteAt_31 : decode (mb M_Dw_noteAt) 31 = .ok (.astore_n 3, 1) := by decide +kernel
theorem d_Dw_noteAt_32 : decode (mb M_Dw_noteAt) 32 = .ok (.iconst 0, 1) := by decide +kernel
theorem d_Dw_noteAt_33 : decode (mb M_Dw_noteAt) 33 = .ok (.istore 4, 2) := by decide +kernel
theorem d_Dw_noteAt_35 : decode (mb M_Dw_noteAt) 35 = .ok (.iload 4, 2) := by decide +kernel
theorem d_Dw_noteAt_37 : decode (mb M_Dw_noteAt) 37 = .ok (.aload_n 3, 1) := by decide +kernel
theorem d_Dw_noteAt_38 : decode (mb M_Dw_noteAt) 38 = .ok (.invokevirtual 112, 3) := by decide +kernel
theorem d_Dw_noteAt_41 : decode (mb M_Dw_noteAt) 41 = .ok (.if_icmp .ge 34, 3) := by decide +kernel
theorem d_Dw_noteAt_44 : decode (mb M_Dw_noteAt) 44 = .ok (.aload_n 0, 1) := by decide +kernel
theorem d_Dw_noteAt_45 : decode (mb M_Dw_noteAt) 45 = .ok (.getfield 34, 3) := by decide +kernel
theorem d_Dw_noteAt_48 : decode (mb M_Dw_noteAt) 48 = .ok (.aload_n 3, 1) := by decide +kernel
theorem d_Dw_noteAt_49 : decode (mb M_Dw_noteAt) 49 = .ok (.iload 4, 2) := by decide +kernel
theorem d_Dw_noteAt_51 : decode (mb M_Dw_noteAt) 51 = .ok (.invokevirtual 156, 3) := by decide +kernel
theorem d_Dw_noteAt_54 : decode (mb M_Dw_noteAt) 54 = .ok (.aload_n 0, 1) := by decide +kernel
theorem d_Dw_noteAt_55 : decode (mb M_Dw_noteAt) 55 = .ok (.getfield 27, 3) := by decide +kernel
theorem d_Dw_noteAt_58 : decode (mb M_Dw_noteAt) 58 = .ok (.iload_n 1, 1) := by decide +kernel
theorem d_Dw_noteAt_59 : decode (mb M_Dw_noteAt) 59 = .ok (.iaload, 1) := by decide +kernel
theorem d_Dw_noteAt_60 : decode (mb M_Dw_noteAt) 60 = .ok (.invokevirtual 312, 3) := by decide +kernel
theorem d_Dw_noteAt_63 : decode (mb M_Dw_noteAt) 63 = .ok (.ifCond .eq 6, 3) := by decide +kernel
theorem d_Dw_noteAt_66 : decode (mb M_Dw_noteAt) 66 = .ok (.iload 4, 2) := by decide +kernel
theorem d_Dw_noteAt_68 : decode (mb M_Dw_noteAt) 68 = .ok (.ireturn, 1) := by decide +kernel
theorem d_Dw_noteAt_69 : decode (mb M_Dw_noteAt) 69 = .ok (.iinc 4 1, 3) := by decide +kernel
theorem d_Dw_noteAt_72 : decode (mb M_Dw_noteAt) 72 = .ok (.goto (-37), 3) := by decide +kernel
theorem d_Dw_noteAt_75 : decode (mb M_Dw_noteAt) 75 = .ok (.iconst (-1), 1) := by decide +kernel
theorem d_Dw_noteAt_76 : decode (mb M_Dw_noteAt) 76 = .ok (.ireturn, 1) := by decide +kernel
theorem d_Dw_pairOf_0 : decode (mb M_Dw_pairOf) 0 = .ok (.aload_n 0, 1) := by decide +kernel
theorem d_Dw_pairOf_1 : decode (mb M_Dw_pairOf) 1 = .ok (.iload_n 1, 1) := by decide +kernel
theorem d_Dw_pairOf_2 : decode (mb M_Dw_pairOf) 2 = .ok (.aload_n 0, 1) := by decide +kernel
theorem d_Dw_pairOf_3 : decode (mb M_Dw_pairOf) 3 = .ok (.getfield 69, 3) := by decide +kernel
theorem d_Dw_pairOf_6 : decode (mb M_Dw_pairOf) 6 = .ok (.ifCond .eq 13, 3) := by decide +kernel
theorem d_Dw_pairOf_9 : decode (mb M_Dw_pairOf) 9 = .ok (.aload_n 0, 1) := by decide +kernel
theorem d_Dw_pairOf_10 : decode (mb M_Dw_pairOf) 10 = .ok (.getfield 41, 3) := by decide +kernel
theorem d_Dw_pairOf_13 : decode (mb M_Dw_pairOf) 13 = .ok (.invokevirtual 226, 3) := by decide +kernel
theorem d_Dw_pairOf_16 : decode (mb M_Dw_pairOf) 16 = .ok (.goto 4, 3) := by decide +kernel
theorem d_Dw_pairOf_19 : decode (mb M_Dw_pairOf) 19 = .ok (.iconst 0, 1) := by decide +kernel
theorem d_Dw_pairOf_20 : decode (mb M_Dw_pairOf) 20 = .ok (.invokevirtual 121, 3) := by decide +kernel
theorem d_Dw_pairOf_23 : decode (mb M_Dw_pairOf) 23 = .ok (.aload_n 0, 1) := by decide +kernel
theorem d_Dw_pairOf_24 : decode (mb M_Dw_pairOf) 24 = .ok (.getfield 41, 3) := by decide +kernel
theorem d_Dw_pairOf_27 : decode (mb M_Dw_pairOf) 27 = .ok (.iload_n 1, 1) := by decide +kernel
theorem d_Dw_pairOf_28 : decode (mb M_Dw_pairOf) 28 = .ok (.invokevirtual 227, 3) := by decide +kernel
theorem d_Dw_pairOf_31 : decode (mb M_Dw_pairOf) 31 = .ok (.ireturn, 1) := by decide +kernel
theorem d_Dw_patch_0 : decode (mb M_Dw_patch) 0 = .ok (.aload_n 0, 1) := by decide +kernel
theorem d_Dw_patch_1 : decode (mb M_Dw_patch) 1 = .ok (.iload_n 1, 1) := by decide +kernel
theorem d_Dw_patch_2 : decode (mb M_Dw_patch) 2 = .ok (.invokevirtual 91, 3) := by decide +kernel
theorem d_Dw_patch_5 : decode (mb M_Dw_patch) 5 = .ok (.getfield 99, 3) := by decide +kernel
theorem d_Dw_patch_8 : decode (mb M_Dw_patch) 8 = .ok (.astore 4, 2) := by decide +kernel
theorem d_Dw_patch_10 : decode (mb M_Dw_patch) 10 = .ok (.aload_n 0, 1) := by decide +kernel
theorem d_Dw_patch_11 : decode (mb M_Dw_patch) 11 = .ok (.iload_n 2, 1) := by decide +kernel
theorem d_Dw_patch_12 : decode (mb M_Dw_patch) 12 = .ok (.invokevirtual 91, 3) := by decide +kernel
theorem d_Dw_patch_15 : decode (mb M_Dw_patch) 15 = .ok (.getfield 99, 3) := by decide +kernel
theorem d_Dw_patch_18 : decode (mb M_Dw_patch) 18 = .ok (.astore 5, 2) := by decide +kernel
theorem d_Dw_patch_20 : decode (mb M_Dw_patch) 20 = .ok (.iload_n 3, 1) := by decide +kernel
theorem d_Dw_patch_21 : decode (mb M_Dw_patch) 21 = .ok (.ifCond .lt 8, 3) := by decide +kernel
theorem d_Dw_patch_24 : decode (mb M_Dw_patch) 24 = .ok (.iload_n 3, 1) := by decide +kernel
theorem d_Dw_patch_25 : decode (mb M_Dw_patch) 25 = .ok (.iconst 3, 1) := by decide +kernel
theorem d_Dw_patch_26 : decode (mb M_Dw_patch) 26 = .ok (.if_icmp .le 14, 3) := by decide +kernel
theorem d_Dw_patch_29 : decode (mb M_Dw_patch) 29 = .ok (.new 241, 3) := by decide +kernel
theorem d_Dw_patch_32 : decode (mb M_Dw_patch) 32 = .ok (.dup, 1) := by decide +kernel
theorem d_Dw_patch_33 : decode (mb M_Dw_patch) 33 = .ok (.ldc_w 273, 3) := by decide +kernel
theorem d_Dw_patch_36 : decode (mb M_Dw_patch) 36 = .ok (.invokespecial 245, 3) := by decide +kernel
theorem d_Dw_patch_39 : decode (mb M_Dw_patch) 39 = .ok (.athrow, 1) := by decide +kernel
theorem d_Dw_patch_40 : decode (mb M_Dw_patch) 40 = .ok (.aload_n 0, 1) := by decide +kernel
theorem d_Dw_patch_41 : decode (mb M_Dw_patch) 41 = .ok (.invokevirtual 275, 3) := by decide +kernel
theorem d_Dw_patch_44 : decode (mb M_Dw_patch) 44 = .ok (.aload_n 0, 1) := by decide +kernel
theorem d_Dw_patch_45 : decode (mb M_Dw_patch) 45 = .ok (.getfield 45, 3) := by decide +kernel
theorem d_Dw_patch_48 : decode (mb M_Dw_patch) 48 = .ok (.aload 4, 2) := by decide +kernel
theorem d_Dw_patch_50 : decode (mb M_Dw_patch) 50 = .ok (.aload 5, 2) := by decide +kernel
theorem d_Dw_patch_52 : decode (mb M_Dw_patch) 52 = .ok (.iconst 0, 1) := by decide +kernel
theorem d_Dw_patch_53 : decode (mb M_Dw_patch) 53 = .ok (.invokevirtual 216, 3) := by decide +kernel
theorem d_Dw_patch_56 : decode (mb M_Dw_patch) 56 = .ok (.aload_n 0, 1) := by decide +kernel
theorem d_Dw_patch_57 : decode (mb M_Dw_patch) 57 = .ok (.getfield 17, 3) := by decide +kernel
theorem d_Dw_patch_60 : decode (mb M_Dw_patch) 60 = .ok (.aload_n 0, 1) := by decide +kernel
theorem d_Dw_patch_61 : decode (mb M_Dw_patch) 61 = .ok (.getfield 76, 3) := by decide +kernel
theorem d_Dw_patch_64 : decode (mb M_Dw_patch) 64 = .ok (.aaload, 1) := by decide +kernel
theorem d_Dw_patch_65 : decode (mb M_Dw_patch) 65 = .ok (.aload 4, 2) := by decide +kernel
theorem d_Dw_patch_67 : decode (mb M_Dw_patch) 67 = .ok (.aload 5, 2) := by decide +kernel
theorem d_Dw_patch_69 : decode (mb M_Dw_patch) 69 = .ok (.aload_n 0, 1) := by decide +kernel
theorem d_Dw_patch_70 : decode (mb M_Dw_patch) 70 = .ok (.getfield 45, 3) := by decide +kernel
theorem d_Dw_patch_73 : decode (mb M_Dw_patch) 73 = .ok (.iload_n 3, 1) := by decide +kernel
theorem d_Dw_patch_74 : decode (mb M_Dw_patch) 74 = .ok (.invokevirtual 278, 3) := by decide +kernel
theorem d_Dw_patch_77 : decode (mb M_Dw_patch) 77 = .ok (.aload_n 0, 1) := by decide +kernel
theorem d_Dw_patch_78 : decode (mb M_Dw_patch) 78 = .ok (.dup, 1) := by decide +kernel
theorem d_Dw_patch_79 : decode (mb M_Dw_patch) 79 = .ok (.getfield 76, 3) := by decide +kernel
theorem d_Dw_patch_82 : decode (mb M_Dw_patch) 82 = .ok (.iconst 1, 1) := by decide +kernel
theorem d_Dw_patch_83 : decode (mb M_Dw_patch) 83 = .ok (.iadd, 1) := by decide +kernel
theorem d_Dw_patch_84 : decode (mb M_Dw_patch) 84 = .ok (.putfield 76, 3) := by decide +kernel
theorem d_Dw_patch_87 : decode (mb M_Dw_patch) 87 = .ok (.aload_n 0, 1) := by decide +kernel
theorem d_Dw_patch_88 : decode (mb M_Dw_patch) 88 = .ok (.getfield 76, 3) := by decide +kernel
theorem d_Dw_patch_91 : decode (mb M_Dw_patch) 91 = .ok (.iconst 1, 1) := by decide +kernel
theorem d_Dw_patch_92 : decode (mb M_Dw_patch) 92 = .ok (.isub, 1) := by decide +kernel
theorem d_Dw_patch_93 : decode (mb M_Dw_patch) 93 = .ok (.ireturn, 1) := by decide +kernel
theorem d_Dw_patchAt_0 : decode (mb M_Dw_patchAt) 0 = .ok (.iload_n 1, 1) := by decide +kernel
theorem d_Dw_patchAt_1 : decode (mb M_Dw_patchAt) 1 = .ok (.ifCond .lt 11, 3) := by decide +kernel
theorem d_Dw_patchAt_4 : decode (mb M_Dw_patchAt) 4 = .ok (.iload_n 1, 1) := by decide +kernel
theorem d_Dw_patchAt_5 : decode (mb M_Dw_patchAt) 5 = .ok (.aload_n 0, 1) := by decide +kernel
theorem d_Dw_patchAt_6 : decode (mb M_Dw_patchAt) 6 = .ok (.getfield 76, 3) := by decide +kernel
theorem d_Dw_patchAt_9 : decode (mb M_Dw_patchAt) 9 = .ok (.if_icmp .lt 14, 3) := by decide +kernel
theorem d_Dw_patchAt_12 : decode (mb M_Dw_patchAt) 12 = .ok (.new 294, 3) := by decide +kernel
theorem d_Dw_patchAt_15 : decode (mb M_Dw_patchAt) 15 = .ok (.dup, 1) := by decide +kernel
theorem d_Dw_patchAt_16 : decode (mb M_Dw_patchAt) 16 = .ok (.ldc_w 370, 3) := by decide +kernel
theorem d_Dw_patchAt_19 : decode (mb M_Dw_patchAt) 19 = .ok (.invokespecial 298, 3) := by decide +kernel
theorem d_Dw_patchAt_22 : decode (mb M_Dw_patchAt) 22 = .ok (.athrow, 1) := by decide +kernel
theorem d_Dw_patchAt_23 : decode (mb M_Dw_patchAt) 23 = .ok (.aload_n 0, 1) := by decide +kernel
theorem d_Dw_patchAt_24 : decode (mb M_Dw_patchAt) 24 = .ok (.getfield 17, 3) := by decide +kernel
theorem d_Dw_patchAt_27 : decode (mb M_Dw_patchAt) 27 = .ok (.iload_n 1, 1) := by decide +kernel
theorem d_Dw_patchAt_28 : decode (mb M_Dw_patchAt) 28 = .ok (.aaload, 1) := by decide +kernel
theorem d_Dw_patchAt_29 : decode (mb M_Dw_patchAt) 29 = .ok (.areturn, 1) := by decide +kernel
theorem d_Dw_pieceOf_0 : decode (mb M_Dw_pieceOf) 0 = .ok (.aload_n 0, 1) := by decide +kernel
theorem d_Dw_pieceOf_1 : decode (mb M_Dw_pieceOf) 1 = .ok (.iload_n 1, 1) := by decide +kernel
theorem d_Dw_pieceOf_2 : decode (mb M_Dw_pieceOf) 2 = .ok (.invokevirtual 255, 3) := by decide +kernel
theorem d_Dw_pieceOf_5 : decode (mb M_Dw_pieceOf) 5 = .ok (.iload_n 2, 1) := by decide +kernel
theorem d_Dw_pieceOf_6 : decode (mb M_Dw_pieceOf) 6 = .ok (.ifCond .lt 8, 3) := by decide +kernel
theorem d_Dw_pieceOf_9 : decode (mb M_Dw_pieceOf) 9 = .ok (.iload_n 2, 1) := by decide +kernel
theorem d_Dw_pieceOf_10 : decode (mb M_Dw_pieceOf) 10 = .ok (.iconst 2, 1) := by decide +kernel
theorem d_Dw_pieceOf_11 : decode (mb M_Dw_pieceOf) 11 = .ok (.if_icmp .le 14, 3) := by decide +kernel
theorem d_Dw_pieceOf_14 : decode (mb M_Dw_pieceOf) 14 = .ok (.new 241, 3) := by decide +kernel
theorem d_Dw_pieceOf_17 : decode (mb M_Dw_pieceOf) 17 = .ok (.dup, 1) := by decide +kernel
theorem d_Dw_pieceOf_18 : decode (mb M_Dw_pieceOf) 18 = .ok (.ldc_w 258, 3) := by decide +kernel
theorem d_Dw_pieceOf_21 : decode (mb M_Dw_pieceOf) 21 = .ok (.invokespecial 245, 3) := by decide +kernel
theorem d_Dw_pieceOf_24 : decode (mb M_Dw_pieceOf) 24 = .ok (.athrow, 1) := by decide +kernel
theorem d_Dw_pieceOf_25 : decode (mb M_Dw_pieceOf) 25 = .ok (.aload_n 0, 1) := by decide +kernel
theorem d_Dw_pieceOf_26 : decode (mb M_Dw_pieceOf) 26 = .ok (.getfield 58, 3) := by decide +kernel
theorem d_Dw_pieceOf_29 : decode (mb M_Dw_pieceOf) 29 = .ok (.iload_n 1, 1) := by decide +kernel
theorem d_Dw_pieceOf_30 : decode (mb M_Dw_pieceOf) 30 = .ok (.iload_n 2, 1) := by decide +kernel
theorem d_Dw_pieceOf_31 : decode (mb M_Dw_pieceOf) 31 = .ok (.invokevirtual 260, 3) := by decide +kernel
theorem d_Dw_pieceOf_34 : decode (mb M_Dw_pieceOf) 34 = .ok (.ireturn, 1) := by decide +kernel
theorem d_Dw_remove_0 : decode (mb M_Dw_remove) 0 = .ok (.aload_n 0, 1) := by decide +kernel
theorem d_Dw_remove_1 : decode (mb M_Dw_remove) 1 = .ok (.iload_n 1, 1) := by decide +kernel
theorem d_Dw_remove_2 : decode (mb M_Dw_remove) 2 = .ok (.aload_n 0, 1) := by decide +kernel
theorem d_Dw_remove_3 : decode (mb M_Dw_remove) 3 = .ok (.invokevirtual 118, 3) := by decide +kernel
theorem d_Dw_remove_6 : decode (mb M_Dw_remove) 6 = .ok (.invokevirtual 121, 3) := by decide +kernel
theorem d_Dw_remove_9 : decode (mb M_Dw_remove) 9 = .ok (.aload_n 0, 1) := by decide +kernel
theorem d_Dw_remove_10 : decode (mb M_Dw_remove) 10 = .ok (.invokevirtual 129, 3) := by decide +kernel
theorem d_Dw_remove_13 : decode (mb M_Dw_remove) 13 = .ok (.aload_n 0, 1) := by decide +kernel
theorem d_Dw_remove_14 : decode (mb M_Dw_remove) 14 = .ok (.getfield 58, 3) := by decide +kernel
theorem d_Dw_remove_17 : decode (mb M_Dw_remove) 17 = .ok (.new 139, 3) := by decide +kernel
theorem d_Dw_remove_20 : decode (mb M_Dw_remove) 20 = .ok (.dup, 1) := by decide +kernel
theorem d_Dw_remove_21 : decode (mb M_Dw_remove) 21 = .ok (.iconst 1, 1) := by decide +kernel
theorem d_Dw_remove_22 : decode (mb M_Dw_remove) 22 = .ok (.iload_n 1, 1) := by decide +kernel
theorem d_Dw_remove_23 : decode (mb M_Dw_remove) 23 = .ok (.iconst (-1), 1) := by decide +kernel
theorem d_Dw_remove_24 : decode (mb M_Dw_remove) 24 = .ok (.lconst 0, 1) := by decide +kernel
theorem d_Dw_remove_25 : decode (mb M_Dw_remove) 25 = .ok (.aconst_null, 1) := by decide +kernel
theorem d_Dw_remove_26 : decode (mb M_Dw_remove) 26 = .ok (.invokespecial 141, 3) := by decide +kernel
theorem d_Dw_remove_29 : decode (mb M_Dw_remove) 29 = .ok (.invokevirtual 144, 3) := by decide +kernel
theorem d_Dw_remove_32 : decode (mb M_Dw_remove) 32 = .ok (.pop, 1) := by decide +kernel
theorem d_Dw_remove_33 : decode (mb M_Dw_remove) 33 = .ok (.aload_n 0, 1) := by decide +kernel
theorem d_Dw_remove_34 : decode (mb M_Dw_remove) 34 = .ok (.dup, 1) := by decide +kernel
theorem d_Dw_remove_35 : decode (mb M_Dw_remove) 35 = .ok (.getfield 85, 3) := by decide +kernel
theorem d_Dw_remove_38 : decode (mb M_Dw_remove) 38 = .ok (.iconst 1, 1) := by decide +kernel
theorem d_Dw_remove_39 : decode (mb M_Dw_remove) 39 = .ok (.iadd, 1) := by decide +kernel
theorem d_Dw_remove_40 : decode (mb M_Dw_remove) 40 = .ok (.putfield 85, 3) := by decide +kernel
theorem d_Dw_remove_43 : decode (mb M_Dw_remove) 43 = .ok (.aload_n 0, 1) := by decide +kernel
theorem d_Dw_remove_44 : decode (mb M_Dw_remove) 44 = .ok (.getfield 58, 3) := by decide +kernel
theorem d_Dw_remove_47 : decode (mb M_Dw_remove) 47 = .ok (.getfield 111, 3) := by decide +kernel
theorem d_Dw_remove_50 : decode (mb M_Dw_remove) 50 = .ok (.invokevirtual 112, 3) := by decide +kernel
theorem d_Dw_remove_53 : decode (mb M_Dw_remove) 53 = .ok (.ireturn, 1) := by decide +kernel
theorem d_Dw_renew_0 : decode (mb M_Dw_renew) 0 = .ok (.aload_n 0, 1) := by decide +kernel
theorem d_Dw_renew_1 : decode (mb M_Dw_renew) 1 = .ok (.iload_n 1, 1) := by decide +kernel
theorem d_Dw_renew_2 : decode (mb M_Dw_renew) 2 = .ok (.invokevirtual 318, 3) := by decide +kernel
theorem d_Dw_renew_5 : decode (mb M_Dw_renew) 5 = .ok (.astore_n 3, 1) := by decide +kernel
theorem d_Dw_renew_6 : decode (mb M_Dw_renew) 6 = .ok (.aload_n 0, 1) := by decide +kernel
theorem d_Dw_renew_7 : decode (mb M_Dw_renew) 7 = .ok (.iload_n 2, 1) := by decide +kernel
theorem d_Dw_renew_8 : decode (mb M_Dw_renew) 8 = .ok (.invokevirtual 91, 3) := by decide +kernel
theorem d_Dw_renew_11 : decode (mb M_Dw_renew) 11 = .ok (.astore 4, 2) := by decide +kernel
theorem d_Dw_renew_13 : decode (mb M_Dw_renew) 13 = .ok (.aload_n 0, 1) := by decide +kernel
theorem d_Dw_renew_14 : decode (mb M_Dw_renew) 14 = .ok (.aload_n 3, 1) := by decide +kernel
theorem d_Dw_renew_15 : decode (mb M_Dw_renew) 15 = .ok (.invokevirtual 327, 3) := by decide +kernel
theorem d_Dw_renew_18 : decode (mb M_Dw_renew) 18 = .ok (.aload 4, 2) := by decide +kernel
theorem d_Dw_renew_20 : decode (mb M_Dw_renew) 20 = .ok (.aload_n 3, 1) := by decide +kernel
theorem d_Dw_renew_21 : decode (mb M_Dw_renew) 21 = .ok (.getfield 331, 3) := by decide +kernel
theorem d_Dw_renew_24 : decode (mb M_Dw_renew) 24 = .ok (.invokevirtual 199, 3) := by decide +kernel
theorem d_Dw_renew_27 : decode (mb M_Dw_renew) 27 = .ok (.ifCond .ne 14, 3) := by decide +kernel
theorem d_Dw_renew_30 : decode (mb M_Dw_renew) 30 = .ok (.new 132, 3) := by decide +kernel
theorem d_Dw_renew_33 : decode (mb M_Dw_renew) 33 = .ok (.dup, 1) := by decide +kernel
theorem d_Dw_renew_34 : decode (mb M_Dw_renew) 34 = .ok (.ldc_w 346, 3) := by decide +kernel
theorem d_Dw_renew_37 : decode (mb M_Dw_renew) 37 = .ok (.invokespecial 136, 3) := by decide +kernel
theorem d_Dw_renew_40 : decode (mb M_Dw_renew) 40 = .ok (.athrow, 1) := by decide +kernel
theorem d_Dw_renew_41 : decode (mb M_Dw_renew) 41 = .ok (.aload 4, 2) := by decide +kernel
theorem d_Dw_renew_43 : decode (mb M_Dw_renew) 43 = .ok (.getfield 99, 3) := by decide +kernel
theorem d_Dw_renew_46 : decode (mb M_Dw_renew) 46 = .ok (.aload_n 0, 1) := by decide +kernel
theorem d_Dw_renew_47 : decode (mb M_Dw_renew) 47 = .ok (.aload_n 3, 1) := by decide +kernel
theorem d_Dw_renew_48 : decode (mb M_Dw_renew) 48 = .ok (.getfield 331, 3) := by decide +kernel
theorem d_Dw_renew_51 : decode (mb M_Dw_renew) 51 = .ok (.invokevirtual 91, 3) := by decide +kernel
theorem d_Dw_renew_54 : decode (mb M_Dw_renew) 54 = .ok (.getfield 99, 3) := by decide +kernel
theorem d_Dw_renew_57 : decode (mb M_Dw_renew) 57 = .ok (.invokevirtual 348, 3) := by decide +kernel
theorem d_Dw_renew_60 : decode (mb M_Dw_renew) 60 = .ok (.istore 5, 2) := by decide +kernel
theorem d_Dw_renew_62 : decode (mb M_Dw_renew) 62 = .ok (.aload_n 3, 1) := by decide +kernel
theorem d_Dw_renew_63 : decode (mb M_Dw_renew) 63 = .ok (.iload_n 2, 1) := by decide +kernel
theorem d_Dw_renew_64 : decode (mb M_Dw_renew) 64 = .ok (.putfield 331, 3) := by decide +kernel
theorem d_Dw_renew_67 : decode (mb M_Dw_renew) 67 = .ok (.iload 5, 2) := by decide +kernel
theorem d_Dw_renew_69 : decode (mb M_Dw_renew) 69 = .ok (.ifCond .eq 15, 3) := by decide +kernel
theorem d_Dw_renew_72 : decode (mb M_Dw_renew) 72 = .ok (.aload_n 3, 1) := by decide +kernel
theorem d_Dw_renew_73 : decode (mb M_Dw_renew) 73 = .ok (.aload 4, 2) := by decide +kernel
theorem d_Dw_renew_75 : decode (mb M_Dw_renew) 75 = .ok (.getfield 334, 3) := by decide +kernel
theorem d_Dw_renew_78 : decode (mb M_Dw_renew) 78 = .ok (.invokevirtual 352, 3) := by decide +kernel
theorem d_Dw_renew_81 : decode (mb M_Dw_renew) 81 = .ok (.goto 7, 3) := by decide +kernel
theorem d_Dw_renew_84 : decode (mb M_Dw_renew) 84 = .ok (.aload_n 3, 1) := by decide +kernel
theorem d_Dw_renew_85 : decode (mb M_Dw_renew) 85 = .ok (.invokevirtual 355, 3) := by decide +kernel
theorem d_Dw_renew_88 : decode (mb M_Dw_renew) 88 = .ok (.ireturn, 1) := by decide +kernel
theorem d_Dw_review_0 : decode (mb M_Dw_review) 0 = .ok (.aload_n 0, 1) := by decide +kernel
theorem d_Dw_review_1 : decode (mb M_Dw_review) 1 = .ok (.iload_n 1, 1) := by decide +kernel
theorem d_Dw_review_2 : decode (mb M_Dw_review) 2 = .ok (.invokevirtual 91, 3) := by decide +kernel
theorem d_Dw_review_5 : decode (mb M_Dw_review) 5 = .ok (.pop, 1) := by decide +kernel
theorem d_Dw_review_6 : decode (mb M_Dw_review) 6 = .ok (.iload_n 1, 1) := by decide +kernel
theorem d_Dw_review_7 : decode (mb M_Dw_review) 7 = .ok (.ifCond .ne 14, 3) := by decide +kernel
theorem d_Dw_review_10 : decode (mb M_Dw_review) 10 = .ok (.new 294, 3) := by decide +kernel
theorem d_Dw_review_13 : decode (mb M_Dw_review) 13 = .ok (.dup, 1) := by decide +kernel
theorem d_Dw_review_14 : decode (mb M_Dw_review) 14 = .ok (.ldc_w 316, 3) := by decide +kernel
theorem d_Dw_review_17 : decode (mb M_Dw_review) 17 = .ok (.invokespecial 298, 3) := by decide +kernel
theorem d_Dw_review_20 : decode (mb M_Dw_review) 20 = .ok (.athrow, 1) := by decide +kernel
theorem d_Dw_review_21 : decode (mb M_Dw_review) 21 = .ok (.iload_n 2, 1) := by decide +kernel
theorem d_Dw_review_22 : decode (mb M_Dw_review) 22 = .ok (.iconst (-1), 1) := by decide +kernel
theorem d_Dw_review_23 : decode (mb M_Dw_review) 23 = .ok (.if_icmp .eq 9, 3) := by decide +kernel
theorem d_Dw_review_26 : decode (mb M_Dw_review) 26 = .ok (.aload_n 0, 1) := by decide +kernel
theorem d_Dw_review_27 : decode (mb M_Dw_review) 27 = .ok (.iload_n 2, 1) := by decide +kernel
theorem d_Dw_review_28 : decode (mb M_Dw_review) 28 = .ok (.invokevirtual 318, 3) := by decide +kernel
theorem d_Dw_review_31 : decode (mb M_Dw_review) 31 = .ok (.pop, 1) := by decide +kernel
theorem d_Dw_review_32 : decode (mb M_Dw_review) 32 = .ok (.aload_n 0, 1) := by decide +kernel
theorem d_Dw_review_33 : decode (mb M_Dw_review) 33 = .ok (.getfield 79, 3) := by decide +kernel
theorem d_Dw_review_36 : decode (mb M_Dw_review) 36 = .ok (.bipush 20, 2) := by decide +kernel
theorem d_Dw_review_38 : decode (mb M_Dw_review) 38 = .ok (.if_icmp .lt 14, 3) := by decide +kernel
theorem d_Dw_review_41 : decode (mb M_Dw_review) 41 = .ok (.new 132, 3) := by decide +kernel
theorem d_Dw_review_44 : decode (mb M_Dw_review) 44 = .ok (.dup, 1) := by decide +kernel
theorem d_Dw_review_45 : decode (mb M_Dw_review) 45 = .ok (.ldc_w 322, 3) := by decide +kernel
theorem d_Dw_review_48 : decode (mb M_Dw_review) 48 = .ok (.invokespecial 136, 3) := by decide +kernel
theorem d_Dw_review_51 : decode (mb M_Dw_review) 51 = .ok (.athrow, 1) := by decide +kernel
theorem d_Dw_review_52 : decode (mb M_Dw_review) 52 = .ok (.aload_n 0, 1) := by decide +kernel
theorem d_Dw_review_53 : decode (mb M_Dw_review) 53 = .ok (.getfield 23, 3) := by decide +kernel
theorem d_Dw_review_56 : decode (mb M_Dw_review) 56 = .ok (.aload_n 0, 1) := by decide +kernel
theorem d_Dw_review_57 : decode (mb M_Dw_review) 57 = .ok (.getfield 79, 3) := by decide +kernel
theorem d_Dw_review_60 : decode (mb M_Dw_review) 60 = .ok (.aaload, 1) := by decide +kernel
theorem d_Dw_review_61 : decode (mb M_Dw_review) 61 = .ok (.iload_n 1, 1) := by decide +kernel
theorem d_Dw_review_62 : decode (mb M_Dw_review) 62 = .ok (.iload_n 2, 1) := by decide +kernel
theorem d_Dw_review_63 : decode (mb M_Dw_review) 63 = .ok (.invokevirtual 324, 3) := by decide +kernel
theorem d_Dw_review_66 : decode (mb M_Dw_review) 66 = .ok (.aload_n 0, 1) := by decide +kernel
theorem d_Dw_review_67 : decode (mb M_Dw_review) 67 = .ok (.dup, 1) := by decide +kernel
theorem d_Dw_review_68 : decode (mb M_Dw_review) 68 = .ok (.getfield 79, 3) := by decide +kernel
theorem d_Dw_review_71 : decode (mb M_Dw_review) 71 = .ok (.iconst 1, 1) := by decide +kernel
theorem d_Dw_review_72 : decode (mb M_Dw_review) 72 = .ok (.iadd, 1) := by decide +kernel
theorem d_Dw_review_73 : decode (mb M_Dw_review) 73 = .ok (.putfield 79, 3) := by decide +kernel
theorem d_Dw_review_76 : decode (mb M_Dw_review) 76 = .ok (.aload_n 0, 1) := by decide +kernel
theorem d_Dw_review_77 : decode (mb M_Dw_review) 77 = .ok (.getfield 79, 3) := by decide +kernel
theorem d_Dw_review_80 : decode (mb M_Dw_review) 80 = .ok (.iconst 1, 1) := by decide +kernel
theorem d_Dw_review_81 : decode (mb M_Dw_review) 81 = .ok (.isub, 1) := by decide +kernel
theorem d_Dw_review_82 : decode (mb M_Dw_review) 82 = .ok (.ireturn, 1) := by decide +kernel
theorem d_Dw_reviewAt_0 : decode (mb M_Dw_reviewAt) 0 = .ok (.iload_n 1, 1) := by decide +kernel
theorem d_Dw_reviewAt_1 : decode (mb M_Dw_reviewAt) 1 = .ok (.ifCond .lt 11, 3) := by decide +kernel
theorem d_Dw_reviewAt_4 : decode (mb M_Dw_reviewAt) 4 = .ok (.iload_n 1, 1) := by decide +kernel
theorem d_Dw_reviewAt_5 : decode (mb M_Dw_reviewAt) 5 = .ok (.aload_n 0, 1) := by decide +kernel
theorem d_Dw_reviewAt_6 : decode (mb M_Dw_reviewAt) 6 = .ok (.getfield 79, 3) := by decide +kernel
theorem d_Dw_reviewAt_9 : decode (mb M_Dw_reviewAt) 9 = .ok (.if_icmp .lt 14, 3) := by decide +kernel
theorem d_Dw_reviewAt_12 : decode (mb M_Dw_reviewAt) 12 = .ok (.new 294, 3) := by decide +kernel
theorem d_Dw_reviewAt_15 : decode (mb M_Dw_reviewAt) 15 = .ok (.dup, 1) := by decide +kernel
theorem d_Dw_reviewAt_16 : decode (mb M_Dw_reviewAt) 16 = .ok (.ldc_w 372, 3) := by decide +kernel
theorem d_Dw_reviewAt_19 : decode (mb M_Dw_reviewAt) 19 = .ok (.invokespecial 298, 3) := by decide +kernel
theorem d_Dw_reviewAt_22 : decode (mb M_Dw_reviewAt) 22 = .ok (.athrow, 1) := by decide +kernel
theorem d_Dw_reviewAt_23 : decode (mb M_Dw_reviewAt) 23 = .ok (.aload_n 0, 1) := by decide +kernel
theorem d_Dw_reviewAt_24 : decode (mb M_Dw_reviewAt) 24 = .ok (.getfield 23, 3) := by decide +kernel
theorem d_Dw_reviewAt_27 : decode (mb M_Dw_reviewAt) 27 = .ok (.iload_n 1, 1) := by decide +kernel
theorem d_Dw_reviewAt_28 : decode (mb M_Dw_reviewAt) 28 = .ok (.aaload, 1) := by decide +kernel
theorem d_Dw_reviewAt_29 : decode (mb M_Dw_reviewAt) 29 = .ok (.areturn, 1) := by decide +kernel
theorem d_Dw_reviewState_0 : decode (mb M_Dw_reviewState) 0 = .ok (.aload_n 0, 1) := by decide +kernel
theorem d_Dw_reviewState_1 : decode (mb M_Dw_reviewState) 1 = .ok (.iload_n 1, 1) := by decide +kernel
theorem d_Dw_reviewState_2 : decode (mb M_Dw_reviewState) 2 = .ok (.invokevirtual 318, 3) := by decide +kernel
theorem d_Dw_reviewState_5 : decode (mb M_Dw_reviewState) 5 = .ok (.invokevirtual 343, 3) := by decide +kernel
theorem d_Dw_reviewState_8 : decode (mb M_Dw_reviewState) 8 = .ok (.ireturn, 1) := by decide +kernel
theorem d_Dw_settle_0 : decode (mb M_Dw_settle) 0 = .ok (.aload_n 0, 1) := by decide +kernel
theorem d_Dw_settle_1 : decode (mb M_Dw_settle) 1 = .ok (.iload_n 1, 1) := by decide +kernel
theorem d_Dw_settle_2 : decode (mb M_Dw_settle) 2 = .ok (.invokevirtual 255, 3) := by decide +kernel
theorem d_Dw_settle_5 : decode (mb M_Dw_settle) 5 = .ok (.iload_n 2, 1) := by decide +kernel
theorem d_Dw_settle_6 : decode (mb M_Dw_settle) 6 = .ok (.ifCond .lt 8, 3) := by decide +kernel
theorem d_Dw_settle_9 : decode (mb M_Dw_settle) 9 = .ok (.iload_n 2, 1) := by decide +kernel
theorem d_Dw_settle_10 : decode (mb M_Dw_settle) 10 = .ok (.iconst 4, 1) := by decide +kernel
theorem d_Dw_settle_11 : decode (mb M_Dw_settle) 11 = .ok (.if_icmp .le 14, 3) := by decide +kernel
theorem d_Dw_settle_14 : decode (mb M_Dw_settle) 14 = .ok (.new 241, 3) := by decide +kernel
theorem d_Dw_settle_17 : decode (mb M_Dw_settle) 17 = .ok (.dup, 1) := by decide +kernel
theorem d_Dw_settle_18 : decode (mb M_Dw_settle) 18 = .ok (.ldc_w 263, 3) := by decide +kernel
theorem d_Dw_settle_21 : decode (mb M_Dw_settle) 21 = .ok (.invokespecial 245, 3) := by decide +kernel
theorem d_Dw_settle_24 : decode (mb M_Dw_settle) 24 = .ok (.athrow, 1) := by decide +kernel
theorem d_Dw_settle_25 : decode (mb M_Dw_settle) 25 = .ok (.aload_n 0, 1) := by decide +kernel
theorem d_Dw_settle_26 : decode (mb M_Dw_settle) 26 = .ok (.getfield 58, 3) := by decide +kernel
theorem d_Dw_settle_29 : decode (mb M_Dw_settle) 29 = .ok (.iload_n 1, 1) := by decide +kernel
theorem d_Dw_settle_30 : decode (mb M_Dw_settle) 30 = .ok (.invokevirtual 265, 3) := by decide +kernel
theorem d_Dw_settle_33 : decode (mb M_Dw_settle) 33 = .ok (.ifCond .eq 14, 3) := by decide +kernel
theorem d_Dw_settle_36 : decode (mb M_Dw_settle) 36 = .ok (.new 132, 3) := by decide +kernel
theorem d_Dw_settle_39 : decode (mb M_Dw_settle) 39 = .ok (.dup, 1) := by decide +kernel
theorem d_Dw_settle_40 : decode (mb M_Dw_settle) 40 = .ok (.ldc_w 268, 3) := by decide +kernel
theorem d_Dw_settle_43 : decode (mb M_Dw_settle) 43 = .ok (.invokespecial 136, 3) := by decide +kernel
theorem d_Dw_settle_46 : decode (mb M_Dw_settle) 46 = .ok (.athrow, 1) := by decide +kernel
theorem d_Dw_settle_47 : decode (mb M_Dw_settle) 47 = .ok (.aload_n 0, 1) := by decide +kernel
theorem d_Dw_settle_48 : decode (mb M_Dw_settle) 48 = .ok (.getfield 58, 3) := by decide +kernel
theorem d_Dw_settle_51 : decode (mb M_Dw_settle) 51 = .ok (.getfield 111, 3) := by decide +kernel
theorem d_Dw_settle_54 : decode (mb M_Dw_settle) 54 = .ok (.invokevirtual 112, 3) := by decide +kernel
theorem d_Dw_settle_57 : decode (mb M_Dw_settle) 57 = .ok (.aload_n 0, 1) := by decide +kernel
theorem d_Dw_settle_58 : decode (mb M_Dw_settle) 58 = .ok (.getfield 58, 3) := by decide +kernel
theorem d_Dw_settle_61 : decode (mb M_Dw_settle) 61 = .ok (.iload_n 1, 1) := by decide +kernel
theorem d_Dw_settle_62 : decode (mb M_Dw_settle) 62 = .ok (.iload_n 2, 1) := by decide +kernel
theorem d_Dw_settle_63 : decode (mb M_Dw_settle) 63 = .ok (.invokevirtual 260, 3) := by decide +kernel
theorem d_Dw_settle_66 : decode (mb M_Dw_settle) 66 = .ok (.iadd, 1) := by decide +kernel
theorem d_Dw_settle_67 : decode (mb M_Dw_settle) 67 = .ok (.bipush 20, 2) := by decide +kernel
theorem d_Dw_settle_69 : decode (mb M_Dw_settle) 69 = .ok (.if_icmp .le 13, 3) := by decide +kernel
theorem d_Dw_settle_72 : decode (mb M_Dw_settle) 72 = .ok (.new 132, 3) := by decide +kernel
theorem d_Dw_settle_75 : decode (mb M_Dw_settle) 75 = .ok (.dup, 1) := by decide +kernel
theorem d_Dw_settle_76 : decode (mb M_Dw_settle) 76 = .ok (.ldc 250, 2) := by decide +kernel
theorem d_Dw_settle_78 : decode (mb M_Dw_settle) 78 = .ok (.invokespecial 136, 3) := by decide +kernel
theorem d_Dw_settle_81 : decode (mb M_Dw_settle) 81 = .ok (.athrow, 1) := by decide +kernel
theorem d_Dw_settle_82 : decode (mb M_Dw_settle) 82 = .ok (.aload_n 0, 1) := by decide +kernel
theorem d_Dw_settle_83 : decode (mb M_Dw_settle) 83 = .ok (.invokevirtual 270, 3) := by decide +kernel
theorem d_Dw_settle_86 : decode (mb M_Dw_settle) 86 = .ok (.aload_n 0, 1) := by decide +kernel
theorem d_Dw_settle_87 : decode (mb M_Dw_settle) 87 = .ok (.getfield 58, 3) := by decide +kernel
theorem d_Dw_settle_90 : decode (mb M_Dw_settle) 90 = .ok (.new 139, 3) := by decide +kernel
theorem d_Dw_settle_93 : decode (mb M_Dw_settle) 93 = .ok (.dup, 1) := by decide +kernel
theorem d_Dw_settle_94 : decode (mb M_Dw_settle) 94 = .ok (.iconst 4, 1) := by decide +kernel
theorem d_Dw_settle_95 : decode (mb M_Dw_settle) 95 = .ok (.iload_n 1, 1) := by decide +kernel
theorem d_Dw_settle_96 : decode (mb M_Dw_settle) 96 = .ok (.iload_n 2, 1) := by decide +kernel
theorem d_Dw_settle_97 : decode (mb M_Dw_settle) 97 = .ok (.lconst 0, 1) := by decide +kernel
theorem d_Dw_settle_98 : decode (mb M_Dw_settle) 98 = .ok (.aconst_null, 1) := by decide +kernel
theorem d_Dw_settle_99 : decode (mb M_Dw_settle) 99 = .ok (.invokespecial 141, 3) := by decide +kernel
theorem d_Dw_settle_102 : decode (mb M_Dw_settle) 102 = .ok (.invokevirtual 144, 3) := by decide +kernel
theorem d_Dw_settle_105 : decode (mb M_Dw_settle) 105 = .ok (.pop, 1) := by decide +kernel
theorem d_Dw_settle_106 : decode (mb M_Dw_settle) 106 = .ok (.aload_n 0, 1) := by decide +kernel
theorem d_Dw_settle_107 : decode (mb M_Dw_settle) 107 = .ok (.dup, 1) := by decide +kernel
theorem d_Dw_settle_108 : decode (mb M_Dw_settle) 108 = .ok (.getfield 85, 3) := by decide +kernel
theorem d_Dw_settle_111 : decode (mb M_Dw_settle) 111 = .ok (.iconst 1, 1) := by decide +kernel
theorem d_Dw_settle_112 : decode (mb M_Dw_settle) 112 = .ok (.iadd, 1) := by decide +kernel
theorem d_Dw_settle_113 : decode (mb M_Dw_settle) 113 = .ok (.putfield 85, 3) := by decide +kernel
theorem d_Dw_settle_116 : decode (mb M_Dw_settle) 116 = .ok (.aload_n 0, 1) := by decide +kernel
theorem d_Dw_settle_117 : decode (mb M_Dw_settle) 117 = .ok (.getfield 58, 3) := by decide +kernel
theorem d_Dw_settle_120 : decode (mb M_Dw_settle) 120 = .ok (.invokevirtual 252, 3) := by decide +kernel
theorem d_Dw_settle_123 : decode (mb M_Dw_settle) 123 = .ok (.ireturn, 1) := by decide +kernel
theorem d_Dw_since_0 : decode (mb M_Dw_since) 0 = .ok (.aload_n 0, 1) := by decide +kernel
theorem d_Dw_since_1 : decode (mb M_Dw_since) 1 = .ok (.iload_n 1, 1) := by decide +kernel
theorem d_Dw_since_2 : decode (mb M_Dw_since) 2 = .ok (.invokevirtual 91, 3) := by decide +kernel
theorem d_Dw_since_5 : decode (mb M_Dw_since) 5 = .ok (.getfield 99, 3) := by decide +kernel
theorem d_Dw_since_8 : decode (mb M_Dw_since) 8 = .ok (.astore_n 3, 1) := by decide +kernel
theorem d_Dw_since_9 : decode (mb M_Dw_since) 9 = .ok (.aload_n 0, 1) := by decide +kernel
theorem d_Dw_since_10 : decode (mb M_Dw_since) 10 = .ok (.iload_n 2, 1) := by decide +kernel
theorem d_Dw_since_11 : decode (mb M_Dw_since) 11 = .ok (.aload_n 3, 1) := by decide +kernel
theorem d_Dw_since_12 : decode (mb M_Dw_since) 12 = .ok (.invokevirtual 112, 3) := by decide +kernel
theorem d_Dw_since_15 : decode (mb M_Dw_since) 15 = .ok (.invokevirtual 121, 3) := by decide +kernel
theorem d_Dw_since_18 : decode (mb M_Dw_since) 18 = .ok (.aload_n 3, 1) := by decide +kernel
theorem d_Dw_since_19 : decode (mb M_Dw_since) 19 = .ok (.iload_n 2, 1) := by decide +kernel
theorem d_Dw_since_20 : decode (mb M_Dw_since) 20 = .ok (.invokevirtual 156, 3) := by decide +kernel
theorem d_Dw_since_23 : decode (mb M_Dw_since) 23 = .ok (.istore 4, 2) := by decide +kernel
theorem d_Dw_since_25 : decode (mb M_Dw_since) 25 = .ok (.iconst 0, 1) := by decide +kernel
theorem d_Dw_since_26 : decode (mb M_Dw_since) 26 = .ok (.istore 5, 2) := by decide +kernel
theorem d_Dw_since_28 : decode (mb M_Dw_since) 28 = .ok (.iload 5, 2) := by decide +kernel
theorem d_Dw_since_30 : decode (mb M_Dw_since) 30 = .ok (.iload_n 1, 1) := by decide +kernel
theorem d_Dw_since_31 : decode (mb M_Dw_since) 31 = .ok (.if_icmp .ge 30, 3) := by decide +kernel
theorem d_Dw_since_34 : decode (mb M_Dw_since) 34 = .ok (.aload_n 0, 1) := by decide +kernel
theorem d_Dw_since_35 : decode (mb M_Dw_since) 35 = .ok (.getfield 11, 3) := by decide +kernel
theorem d_Dw_since_38 : decode (mb M_Dw_since) 38 = .ok (.iload 5, 2) := by decide +kernel
theorem d_Dw_since_40 : decode (mb M_Dw_since) 40 = .ok (.aaload, 1) := by decide +kernel
theorem d_Dw_since_41 : decode (mb M_Dw_since) 41 = .ok (.getfield 99, 3) := by decide +kernel
theorem d_Dw_since_44 : decode (mb M_Dw_since) 44 = .ok (.iload 4, 2) := by decide +kernel
theorem d_Dw_since_46 : decode (mb M_Dw_since) 46 = .ok (.invokevirtual 213, 3) := by decide +kernel
theorem d_Dw_since_49 : decode (mb M_Dw_since) 49 = .ok (.ifCond .eq 6, 3) := by decide +kernel
theorem d_Dw_since_52 : decode (mb M_Dw_since) 52 = .ok (.iload 5, 2) := by decide +kernel
theorem d_Dw_since_54 : decode (mb M_Dw_since) 54 = .ok (.ireturn, 1) := by decide +kernel
theorem d_Dw_since_55 : decode (mb M_Dw_since) 55 = .ok (.iinc 5 1, 3) := by decide +kernel
theorem d_Dw_since_58 : decode (mb M_Dw_since) 58 = .ok (.goto (-30), 3) := by decide +kernel
theorem d_Dw_since_61 : decode (mb M_Dw_since) 61 = .ok (.iload_n 1, 1) := by decide +kernel
theorem d_Dw_since_62 : decode (mb M_Dw_since) 62 = .ok (.ireturn, 1) := by decide +kernel
theorem d_Dw_treeCost_0 : decode (mb M_Dw_treeCost) 0 = .ok (.aload_n 0, 1) := by decide +kernel
theorem d_Dw_treeCost_1 : decode (mb M_Dw_treeCost) 1 = .ok (.iload_n 1, 1) := by decide +kernel
theorem d_Dw_treeCost_2 : decode (mb M_Dw_treeCost) 2 = .ok (.invokevirtual 91, 3) := by decide +kernel
theorem d_Dw_treeCost_5 : decode (mb M_Dw_treeCost) 5 = .ok (.getfield 99, 3) := by decide +kernel
theorem d_Dw_treeCost_8 : decode (mb M_Dw_treeCost) 8 = .ok (.astore_n 3, 1) := by decide +kernel
theorem d_Dw_treeCost_9 : decode (mb M_Dw_treeCost) 9 = .ok (.aload_n 0, 1) := by decide +kernel
theorem d_Dw_treeCost_10 : decode (mb M_Dw_treeCost) 10 = .ok (.iload_n 2, 1) := by decide +kernel
theorem d_Dw_treeCost_11 : decode (mb M_Dw_treeCost) 11 = .ok (.invokevirtual 91, 3) := by decide +kernel
theorem d_Dw_treeCost_14 : decode (mb M_Dw_treeCost) 14 = .ok (.getfield 99, 3) := by decide +kernel
theorem d_Dw_treeCost_17 : decode (mb M_Dw_treeCost) 17 = .ok (.astore 4, 2) := by decide +kernel
theorem d_Dw_treeCost_19 : decode (mb M_Dw_treeCost) 19 = .ok (.aload_n 0, 1) := by decide +kernel
theorem d_Dw_treeCost_20 : decode (mb M_Dw_treeCost) 20 = .ok (.getfield 51, 3) := by decide +kernel
theorem d_Dw_treeCost_23 : decode (mb M_Dw_treeCost) 23 = .ok (.aload_n 3, 1) := by decide +kernel
theorem d_Dw_treeCost_24 : decode (mb M_Dw_treeCost) 24 = .ok (.aload 4, 2) := by decide +kernel
theorem d_Dw_treeCost_26 : decode (mb M_Dw_treeCost) 26 = .ok (.invokevirtual 233, 3) := by decide +kernel
theorem d_Dw_treeCost_29 : decode (mb M_Dw_treeCost) 29 = .ok (.ireturn, 1) := by decide +kernel
theorem d_Dw_turn_0 : decode (mb M_Dw_turn) 0 = .ok (.aload_n 0, 1) := by decide +kernel
theorem d_Dw_turn_1 : decode (mb M_Dw_turn) 1 = .ok (.iload_n 1, 1) := by decide +kernel
theorem d_Dw_turn_2 : decode (mb M_Dw_turn) 2 = .ok (.invokevirtual 282, 3) := by decide +kernel
theorem d_Dw_turn_5 : decode (mb M_Dw_turn) 5 = .ok (.astore_n 2, 1) := by decide +kernel
theorem d_Dw_turn_6 : decode (mb M_Dw_turn) 6 = .ok (.aload_n 0, 1) := by decide +kernel
theorem d_Dw_turn_7 : decode (mb M_Dw_turn) 7 = .ok (.invokevirtual 275, 3) := by decide +kernel
theorem d_Dw_turn_10 : decode (mb M_Dw_turn) 10 = .ok (.aload_n 0, 1) := by decide +kernel
theorem d_Dw_turn_11 : decode (mb M_Dw_turn) 11 = .ok (.getfield 17, 3) := by decide +kernel
theorem d_Dw_turn_14 : decode (mb M_Dw_turn) 14 = .ok (.aload_n 0, 1) := by decide +kernel
theorem d_Dw_turn_15 : decode (mb M_Dw_turn) 15 = .ok (.getfield 76, 3) := by decide +kernel
theorem d_Dw_turn_18 : decode (mb M_Dw_turn) 18 = .ok (.aaload, 1) := by decide +kernel
theorem d_Dw_turn_19 : decode (mb M_Dw_turn) 19 = .ok (.aload_n 2, 1) := by decide +kernel
theorem d_Dw_turn_20 : decode (mb M_Dw_turn) 20 = .ok (.invokevirtual 286, 3) := by decide +kernel
theorem d_Dw_turn_23 : decode (mb M_Dw_turn) 23 = .ok (.aload_n 0, 1) := by decide +kernel
theorem d_Dw_turn_24 : decode (mb M_Dw_turn) 24 = .ok (.dup, 1) := by decide +kernel
theorem d_Dw_turn_25 : decode (mb M_Dw_turn) 25 = .ok (.getfield 76, 3) := by decide +kernel
theorem d_Dw_turn_28 : decode (mb M_Dw_turn) 28 = .ok (.iconst 1, 1) := by decide +kernel
theorem d_Dw_turn_29 : decode (mb M_Dw_turn) 29 = .ok (.iadd, 1) := by decide +kernel
theorem d_Dw_turn_30 : decode (mb M_Dw_turn) 30 = .ok (.putfield 76, 3) := by decide +kernel
theorem d_Dw_turn_33 : decode (mb M_Dw_turn) 33 = .ok (.aload_n 0, 1) := by decide +kernel
theorem d_Dw_turn_34 : decode (mb M_Dw_turn) 34 = .ok (.getfield 76, 3) := by decide +kernel
theorem d_Dw_turn_37 : decode (mb M_Dw_turn) 37 = .ok (.iconst 1, 1) := by decide +kernel
theorem d_Dw_turn_38 : decode (mb M_Dw_turn) 38 = .ok (.isub, 1) := by decide +kernel
theorem d_Dw_turn_39 : decode (mb M_Dw_turn) 39 = .ok (.ireturn, 1) := by decide +kernel
theorem d_Dw_undo_0 : decode (mb M_Dw_undo) 0 = .ok (.aload_n 0, 1) := by decide +kernel
theorem d_Dw_undo_1 : decode (mb M_Dw_undo) 1 = .ok (.invokevirtual 168, 3) := by decide +kernel
theorem d_Dw_undo_4 : decode (mb M_Dw_undo) 4 = .ok (.aload_n 0, 1) := by decide +kernel
theorem d_Dw_undo_5 : decode (mb M_Dw_undo) 5 = .ok (.getfield 58, 3) := by decide +kernel
theorem d_Dw_undo_8 : decode (mb M_Dw_undo) 8 = .ok (.invokevirtual 171, 3) := by decide +kernel
theorem d_Dw_undo_11 : decode (mb M_Dw_undo) 11 = .ok (.ifCond .ne 13, 3) := by decide +kernel
theorem d_Dw_undo_14 : decode (mb M_Dw_undo) 14 = .ok (.new 132, 3) := by decide +kernel
theorem d_Dw_undo_17 : decode (mb M_Dw_undo) 17 = .ok (.dup, 1) := by decide +kernel
theorem d_Dw_undo_18 : decode (mb M_Dw_undo) 18 = .ok (.ldc 175, 2) := by decide +kernel
theorem d_Dw_undo_20 : decode (mb M_Dw_undo) 20 = .ok (.invokespecial 136, 3) := by decide +kernel
theorem d_Dw_undo_23 : decode (mb M_Dw_undo) 23 = .ok (.athrow, 1) := by decide +kernel
theorem d_Dw_undo_24 : decode (mb M_Dw_undo) 24 = .ok (.aload_n 0, 1) := by decide +kernel
theorem d_Dw_undo_25 : decode (mb M_Dw_undo) 25 = .ok (.getfield 58, 3) := by decide +kernel
theorem d_Dw_undo_28 : decode (mb M_Dw_undo) 28 = .ok (.invokevirtual 177, 3) := by decide +kernel
theorem d_Dw_undo_31 : decode (mb M_Dw_undo) 31 = .ok (.aload_n 0, 1) := by decide +kernel
theorem d_Dw_undo_32 : decode (mb M_Dw_undo) 32 = .ok (.getfield 58, 3) := by decide +kernel
theorem d_Dw_undo_35 : decode (mb M_Dw_undo) 35 = .ok (.getfield 111, 3) := by decide +kernel
theorem d_Dw_undo_38 : decode (mb M_Dw_undo) 38 = .ok (.invokevirtual 112, 3) := by decide +kernel
theorem d_Dw_undo_41 : decode (mb M_Dw_undo) 41 = .ok (.ireturn, 1) := by decide +kernel
theorem d_Dw_verdict_0 : decode (mb M_Dw_verdict) 0 = .ok (.aload_n 0, 1) := by decide +kernel
theorem d_Dw_verdict_1 : decode (mb M_Dw_verdict) 1 = .ok (.iload_n 1, 1) := by decide +kernel
theorem d_Dw_verdict_2 : decode (mb M_Dw_verdict) 2 = .ok (.invokevirtual 318, 3) := by decide +kernel
theorem d_Dw_verdict_5 : decode (mb M_Dw_verdict) 5 = .ok (.astore 4, 2) := by decide +kernel
theorem d_Dw_verdict_7 : decode (mb M_Dw_verdict) 7 = .ok (.aload_n 0, 1) := by decide +kernel
theorem d_Dw_verdict_8 : decode (mb M_Dw_verdict) 8 = .ok (.iload_n 2, 1) := by decide +kernel
theorem d_Dw_verdict_9 : decode (mb M_Dw_verdict) 9 = .ok (.invokevirtual 95, 3) := by decide +kernel
theorem d_Dw_verdict_12 : decode (mb M_Dw_verdict) 12 = .ok (.aload_n 0, 1) := by decide +kernel
theorem d_Dw_verdict_13 : decode (mb M_Dw_verdict) 13 = .ok (.aload 4, 2) := by decide +kernel
theorem d_Dw_verdict_15 : decode (mb M_Dw_verdict) 15 = .ok (.invokevirtual 327, 3) := by decide +kernel
theorem d_Dw_verdict_18 : decode (mb M_Dw_verdict) 18 = .ok (.aload_n 0, 1) := by decide +kernel
theorem d_Dw_verdict_19 : decode (mb M_Dw_verdict) 19 = .ok (.aload 4, 2) := by decide +kernel
theorem d_Dw_verdict_21 : decode (mb M_Dw_verdict) 21 = .ok (.getfield 331, 3) := by decide +kernel
theorem d_Dw_verdict_24 : decode (mb M_Dw_verdict) 24 = .ok (.invokevirtual 91, 3) := by decide +kernel
theorem d_Dw_verdict_27 : decode (mb M_Dw_verdict) 27 = .ok (.getfield 334, 3) := by decide +kernel
theorem d_Dw_verdict_30 : decode (mb M_Dw_verdict) 30 = .ok (.iload_n 2, 1) := by decide +kernel
theorem d_Dw_verdict_31 : decode (mb M_Dw_verdict) 31 = .ok (.if_icmp .ne 14, 3) := by decide +kernel
theorem d_Dw_verdict_34 : decode (mb M_Dw_verdict) 34 = .ok (.new 132, 3) := by decide +kernel
theorem d_Dw_verdict_37 : decode (mb M_Dw_verdict) 37 = .ok (.dup, 1) := by decide +kernel
theorem d_Dw_verdict_38 : decode (mb M_Dw_verdict) 38 = .ok (.ldc_w 337, 3) := by decide +kernel
theorem d_Dw_verdict_41 : decode (mb M_Dw_verdict) 41 = .ok (.invokespecial 136, 3) := by decide +kernel
theorem d_Dw_verdict_44 : decode (mb M_Dw_verdict) 44 = .ok (.athrow, 1) := by decide +kernel
theorem d_Dw_verdict_45 : decode (mb M_Dw_verdict) 45 = .ok (.aload 4, 2) := by decide +kernel
theorem d_Dw_verdict_47 : decode (mb M_Dw_verdict) 47 = .ok (.iload_n 2, 1) := by decide +kernel
theorem d_Dw_verdict_48 : decode (mb M_Dw_verdict) 48 = .ok (.iload_n 3, 1) := by decide +kernel
theorem d_Dw_verdict_49 : decode (mb M_Dw_verdict) 49 = .ok (.invokevirtual 339, 3) := by decide +kernel
theorem d_Dw_verdict_52 : decode (mb M_Dw_verdict) 52 = .ok (.aload 4, 2) := by decide +kernel
theorem d_Dw_verdict_54 : decode (mb M_Dw_verdict) 54 = .ok (.invokevirtual 343, 3) := by decide +kernel
theorem d_Dw_verdict_57 : decode (mb M_Dw_verdict) 57 = .ok (.ireturn, 1) := by decide +kernel
theorem d_Dw_versionAt_0 : decode (mb M_Dw_versionAt) 0 = .ok (.iload_n 1, 1) := by decide +kernel
theorem d_Dw_versionAt_1 : decode (mb M_Dw_versionAt) 1 = .ok (.ifCond .lt 11, 3) := by decide +kernel
theorem d_Dw_versionAt_4 : decode (mb M_Dw_versionAt) 4 = .ok (.iload_n 1, 1) := by decide +kernel
theorem d_Dw_versionAt_5 : decode (mb M_Dw_versionAt) 5 = .ok (.aload_n 0, 1) := by decide +kernel
theorem d_Dw_versionAt_6 : decode (mb M_Dw_versionAt) 6 = .ok (.getfield 72, 3) := by decide +kernel
theorem d_Dw_versionAt_9 : decode (mb M_Dw_versionAt) 9 = .ok (.if_icmp .lt 14, 3) := by decide +kernel
theorem d_Dw_versionAt_12 : decode (mb M_Dw_versionAt) 12 = .ok (.new 294, 3) := by decide +kernel
theorem d_Dw_versionAt_15 : decode (mb M_Dw_versionAt) 15 = .ok (.dup, 1) := by decide +kernel
theorem d_Dw_versionAt_16 : decode (mb M_Dw_versionAt) 16 = .ok (.ldc_w 368, 3) := by decide +kernel
theorem d_Dw_versionAt_19 : decode (mb M_Dw_versionAt) 19 = .ok (.invokespecial 298, 3) := by decide +kernel
theorem d_Dw_versionAt_22 : decode (mb M_Dw_versionAt) 22 = .ok (.athrow, 1) := by decide +kernel
theorem d_Dw_versionAt_23 : decode (mb M_Dw_versionAt) 23 = .ok (.aload_n 0, 1) := by decide +kernel
theorem d_Dw_versionAt_24 : decode (mb M_Dw_versionAt) 24 = .ok (.getfield 11, 3) := by decide +kernel
theorem d_Dw_versionAt_27 : decode (mb M_Dw_versionAt) 27 = .ok (.iload_n 1, 1) := by decide +kernel
theorem d_Dw_versionAt_28 : decode (mb M_Dw_versionAt) 28 = .ok (.aaload, 1) := by decide +kernel
theorem d_Dw_versionAt_29 : decode (mb M_Dw_versionAt) 29 = .ok (.areturn, 1) := by decide +kernel
theorem d_Dw_versions_0 : decode (mb M_Dw_versions) 0 = .ok (.aload_n 0, 1) := by decide +kernel
theorem d_Dw_versions_1 : decode (mb M_Dw_versions) 1 = .ok (.getfield 72, 3) := by decide +kernel
theorem d_Dw_versions_4 : decode (mb M_Dw_versions) 4 = .ok (.ireturn, 1) := by decide +kernel
theorem d_Cmp_countPairs_0 : decode (mb M_Cmp_countPairs) 0 = .ok (.aload_n 0, 1) := by decide +kernel
theorem d_Cmp_countPairs_1 : decode (mb M_Cmp_countPairs) 1 = .ok (.getfield 34, 3) := by decide +kernel
theorem d_Cmp_countPairs_4 : decode (mb M_Cmp_countPairs) 4 = .ok (.istore_n 1, 1) := by decide +kernel
theorem d_Cmp_countPairs_5 : decode (mb M_Cmp_countPairs) 5 = .ok (.iload_n 1, 1) := by decide +kernel
theorem d_Cmp_countPairs_6 : decode (mb M_Cmp_countPairs) 6 = .ok (.ifCond .lt 124, 3) := by decide +kernel
theorem d_Cmp_countPairs_9 : decode (mb M_Cmp_countPairs) 9 = .ok (.aload_n 0, 1) := by decide +kernel
theorem d_Cmp_countPairs_10 : decode (mb M_Cmp_countPairs) 10 = .ok (.getfield 38, 3) := by decide +kernel
theorem d_Cmp_countPairs_13 : decode (mb M_Cmp_countPairs) 13 = .ok (.istore_n 2, 1) := by decide +kernel
theorem d_Cmp_countPairs_14 : decode (mb M_Cmp_countPairs) 14 = .ok (.iload_n 2, 1) := by decide +kernel
theorem d_Cmp_countPairs_15 : decode (mb M_Cmp_countPairs) 15 = .ok (.ifCond .lt 109, 3) := by decide +kernel
theorem d_Cmp_countPairs_18 : decode (mb M_Cmp_countPairs) 18 = .ok (.iload_n 1, 1) := by decide +kernel
theorem d_Cmp_countPairs_19 : decode (mb M_Cmp_countPairs) 19 = .ok (.aload_n 0, 1) := by decide +kernel
theorem d_Cmp_countPairs_20 : decode (mb M_Cmp_countPairs) 20 = .ok (.getfield 34, 3) := by decide +kernel
theorem d_Cmp_countPairs_23 : decode (mb M_Cmp_countPairs) 23 = .ok (.if_icmp .eq 11, 3) := by decide +kernel
theorem d_Cmp_countPairs_26 : decode (mb M_Cmp_countPairs) 26 = .ok (.iload_n 2, 1) := by decide +kernel
theorem d_Cmp_countPairs_27 : decode (mb M_Cmp_countPairs) 27 = .ok (.aload_n 0, 1) := by decide +kernel
theorem d_Cmp_countPairs_28 : decode (mb M_Cmp_countPairs) 28 = .ok (.getfield 38, 3) := by decide +kernel
theorem d_Cmp_countPairs_31 : decode (mb M_Cmp_countPairs) 31 = .ok (.if_icmp .ne 15, 3) := by decide +kernel
theorem d_Cmp_countPairs_34 : decode (mb M_Cmp_countPairs) 34 = .ok (.aload_n 0, 1) := by decide +kernel
theorem d_Cmp_countPairs_35 : decode (mb M_Cmp_countPairs) 35 = .ok (.getfield 31, 3) := by decide +kernel
theorem d_Cmp_countPairs_38 : decode (mb M_Cmp_countPairs) 38 = .ok (.iload_n 1, 1) := by decide +kernel
theorem d_Cmp_countPairs_39 : decode (mb M_Cmp_countPairs) 39 = .ok (.aaload, 1) := by decide +kernel
theorem d_Cmp_countPairs_40 : decode (mb M_Cmp_countPairs) 40 = .ok (.iload_n 2, 1) := by decide +kernel
theorem d_Cmp_countPairs_41 : decode (mb M_Cmp_countPairs) 41 = .ok (.iconst 0, 1) := by decide +kernel
theorem d_Cmp_countPairs_42 : decode (mb M_Cmp_countPairs) 42 = .ok (.iastore, 1) := by decide +kernel
theorem d_Cmp_countPairs_43 : decode (mb M_Cmp_countPairs) 43 = .ok (.goto 75, 3) := by decide +kernel
theorem d_Cmp_countPairs_46 : decode (mb M_Cmp_countPairs) 46 = .ok (.aload_n 0, 1) := by decide +kernel
theorem d_Cmp_countPairs_47 : decode (mb M_Cmp_countPairs) 47 = .ok (.getfield 9, 3) := by decide +kernel
theorem d_Cmp_countPairs_50 : decode (mb M_Cmp_countPairs) 50 = .ok (.iload_n 1, 1) := by decide +kernel
theorem d_Cmp_countPairs_51 : decode (mb M_Cmp_countPairs) 51 = .ok (.laload, 1) := by decide +kernel
theorem d_Cmp_countPairs_52 : decode (mb M_Cmp_countPairs) 52 = .ok (.aload_n 0, 1) := by decide +kernel
theorem d_Cmp_countPairs_53 : decode (mb M_Cmp_countPairs) 53 = .ok (.getfield 15, 3) := by decide +kernel
theorem d_Cmp_countPairs_56 : decode (mb M_Cmp_countPairs) 56 = .ok (.iload_n 2, 1) := by decide +kernel
theorem d_Cmp_countPairs_57 : decode (mb M_Cmp_countPairs) 57 = .ok (.laload, 1) := by decide +kernel
theorem d_Cmp_countPairs_58 : decode (mb M_Cmp_countPairs) 58 = .ok (.lcmp, 1) := by decide +kernel
theorem d_Cmp_countPairs_59 : decode (mb M_Cmp_countPairs) 59 = .ok (.ifCond .ne 28, 3) := by decide +kernel
theorem d_Cmp_countPairs_62 : decode (mb M_Cmp_countPairs) 62 = .ok (.aload_n 0, 1) := by decide +kernel
theorem d_Cmp_countPairs_63 : decode (mb M_Cmp_countPairs) 63 = .ok (.getfield 31, 3) := by decide +kernel
theorem d_Cmp_countPairs_66 : decode (mb M_Cmp_countPairs) 66 = .ok (.iload_n 1, 1) := by decide +kernel
theorem d_Cmp_countPairs_67 : decode (mb M_Cmp_countPairs) 67 = .ok (.aaload, 1) := by decide +kernel
theorem d_Cmp_countPairs_68 : decode (mb M_Cmp_countPairs) 68 = .ok (.iload_n 2, 1) := by decide +kernel
theorem d_Cmp_countPairs_69 : decode (mb M_Cmp_countPairs) 69 = .ok (.aload_n 0, 1) := by decide +kernel
theorem d_Cmp_countPairs_70 : decode (mb M_Cmp_countPairs) 70 = .ok (.getfield 31, 3) := by decide +kernel
theorem d_Cmp_countPairs_73 : decode (mb M_Cmp_countPairs) 73 = .ok (.iload_n 1, 1) := by decide +kernel
theorem d_Cmp_countPairs_74 : decode (mb M_Cmp_countPairs) 74 = .ok (.iconst 1, 1) := by decide +kernel
theorem d_Cmp_countPairs_75 : decode (mb M_Cmp_countPairs) 75 = .ok (.iadd, 1) := by decide +kernel
theorem d_Cmp_countPairs_76 : decode (mb M_Cmp_countPairs) 76 = .ok (.aaload, 1) := by decide +kernel
theorem d_Cmp_countPairs_77 : decode (mb M_Cmp_countPairs) 77 = .ok (.iload_n 2, 1) := by decide +kernel
theorem d_Cmp_countPairs_78 : decode (mb M_Cmp_countPairs) 78 = .ok (.iconst 1, 1) := by decide +kernel
theorem d_Cmp_countPairs_79 : decode (mb M_Cmp_countPairs) 79 = .ok (.iadd, 1) := by decide +kernel
theorem d_Cmp_countPairs_80 : decode (mb M_Cmp_countPairs) 80 = .ok (.iaload, 1) := by decide +kernel
theorem d_Cmp_countPairs_81 : decode (mb M_Cmp_countPairs) 81 = .ok (.iconst 1, 1) := by decide +kernel
theorem d_Cmp_countPairs_82 : decode (mb M_Cmp_countPairs) 82 = .ok (.iadd, 1) := by decide +kernel
theorem d_Cmp_countPairs_83 : decode (mb M_Cmp_countPairs) 83 = .ok (.iastore, 1) := by decide +kernel
theorem d_Cmp_countPairs_84 : decode (mb M_Cmp_countPairs) 84 = .ok (.goto 34, 3) := by decide +kernel
theorem d_Cmp_countPairs_87 : decode (mb M_Cmp_countPairs) 87 = .ok (.aload_n 0, 1) := by decide +kernel
theorem d_Cmp_countPairs_88 : decode (mb M_Cmp_countPairs) 88 = .ok (.getfield 31, 3) := by decide +kernel
theorem d_Cmp_countPairs_91 : decode (mb M_Cmp_countPairs) 91 = .ok (.iload_n 1, 1) := by decide +kernel
theorem d_Cmp_countPairs_92 : decode (mb M_Cmp_countPairs) 92 = .ok (.aaload, 1) := by decide +kernel
theorem d_Cmp_countPairs_93 : decode (mb M_Cmp_countPairs) 93 = .ok (.iload_n 2, 1) := by decide +kernel
theorem d_Cmp_countPairs_94 : decode (mb M_Cmp_countPairs) 94 = .ok (.aload_n 0, 1) := by decide +kernel
theorem d_Cmp_countPairs_95 : decode (mb M_Cmp_countPairs) 95 = .ok (.getfield 31, 3) := by decide +kernel
theorem d_Cmp_countPairs_98 : decode (mb M_Cmp_countPairs) 98 = .ok (.iload_n 1, 1) := by decide +kernel
theorem d_Cmp_countPairs_99 : decode (mb M_Cmp_countPairs) 99 = .ok (.iconst 1, 1) := by decide +kernel
theorem d_Cmp_countPairs_100 : decode (mb M_Cmp_countPairs) 100 = .ok (.iadd, 1) := by decide +kernel
theorem d_Cmp_countPairs_101 : decode (mb M_Cmp_countPairs) 101 = .ok (.aaload, 1) := by decide +kernel
theorem d_Cmp_countPairs_102 : decode (mb M_Cmp_countPairs) 102 = .ok (.iload_n 2, 1) := by decide +kernel
theorem d_Cmp_countPairs_103 : decode (mb M_Cmp_countPairs) 103 = .ok (.iaload, 1) := by decide +kernel
theorem d_Cmp_countPairs_104 : decode (mb M_Cmp_countPairs) 104 = .ok (.aload_n 0, 1) := by decide +kernel
theorem d_Cmp_countPairs_105 : decode (mb M_Cmp_countPairs) 105 = .ok (.getfield 31, 3) := by decide +kernel
theorem d_Cmp_countPairs_108 : decode (mb M_Cmp_countPairs) 108 = .ok (.iload_n 1, 1) := by decide +kernel
theorem d_Cmp_countPairs_109 : decode (mb M_Cmp_countPairs) 109 = .ok (.aaload, 1) := by decide +kernel
theorem d_Cmp_countPairs_110 : decode (mb M_Cmp_countPairs) 110 = .ok (.iload_n 2, 1) := by decide +kernel
theorem d_Cmp_countPairs_111 : decode (mb M_Cmp_countPairs) 111 = .ok (.iconst 1, 1) := by decide +kernel
theorem d_Cmp_countPairs_112 : decode (mb M_Cmp_countPairs) 112 = .ok (.iadd, 1) := by decide +kernel
theorem d_Cmp_countPairs_113 : decode (mb M_Cmp_countPairs) 113 = .ok (.iaload, 1) := by decide +kernel
theorem d_Cmp_countPairs_114 : decode (mb M_Cmp_countPairs) 114 = .ok (.invokestatic 76, 3) := by decide +kernel
theorem d_Cmp_countPairs_117 : decode (mb M_Cmp_countPairs) 117 = .ok (.iastore, 1) := by decide +kernel
theorem d_Cmp_countPairs_118 : decode (mb M_Cmp_countPairs) 118 = .ok (.iinc 2 (-1), 3) := by decide +kernel
theorem d_Cmp_countPairs_121 : decode (mb M_Cmp_countPairs) 121 = .ok (.goto (-107), 3) := by decide +kernel
theorem d_Cmp_countPairs_124 : decode (mb M_Cmp_countPairs) 124 = .ok (.iinc 1 (-1), 3) := by decide +kernel
theorem d_Cmp_countPairs_127 : decode (mb M_Cmp_countPairs) 127 = .ok (.goto (-122), 3) := by decide +kernel
theorem d_Cmp_countPairs_130 : decode (mb M_Cmp_countPairs) 130 = .ok (.return_, 1) := by decide +kernel
theorem d_Cmp_findMoves_0 : decode (mb M_Cmp_findMoves) 0 = .ok (.iconst 0, 1) := by decide +kernel
theorem d_Cmp_findMoves_1 : decode (mb M_Cmp_findMoves) 1 = .ok (.istore_n 1, 1) := by decide +kernel
theorem d_Cmp_findMoves_2 : decode (mb M_Cmp_findMoves) 2 = .ok (.iload_n 1, 1) := by decide +kernel
theorem d_Cmp_findMoves_3 : decode (mb M_Cmp_findMoves) 3 = .ok (.bipush 20, 2) := by decide +kernel
theorem d_Cmp_findMoves_5 : decode (mb M_Cmp_findMoves) 5 = .ok (.if_icmp .ge 17, 3) := by decide +kernel
theorem d_Cmp_findMoves_8 : decode (mb M_Cmp_findMoves) 8 = .ok (.aload_n 0, 1) := by decide +kernel
theorem d_Cmp_findMoves_9 : decode (mb M_Cmp_findMoves) 9 = .ok (.invokevirtual 79, 3) := by decide +kernel
theorem d_Cmp_findMoves_12 : decode (mb M_Cmp_findMoves) 12 = .ok (.ifCond .ne 4, 3) := by decide +kernel
theorem d_Cmp_findMoves_15 : decode (mb M_Cmp_findMoves) 15 = .ok (.return_, 1) := by decide +kernel
theorem d_Cmp_findMoves_16 : decode (mb M_Cmp_findMoves) 16 = .ok (.iinc 1 1, 3) := by decide +kernel
theorem d_Cmp_findMoves_19 : decode (mb M_Cmp_findMoves) 19 = .ok (.goto (-17), 3) := by decide +kernel
theorem d_Cmp_findMoves_22 : decode (mb M_Cmp_findMoves) 22 = .ok (.return_, 1) := by decide +kernel
theorem d_Cmp_init_0 : decode (mb M_Cmp_init) 0 = .ok (.aload_n 0, 1) := by decide +kernel
theorem d_Cmp_init_1 : decode (mb M_Cmp_init) 1 = .ok (.invokespecial 3, 3) := by decide +kernel
theorem d_Cmp_init_4 : decode (mb M_Cmp_init) 4 = .ok (.aload_n 0, 1) := by decide +kernel
theorem d_Cmp_init_5 : decode (mb M_Cmp_init) 5 = .ok (.bipush 20, 2) := by decide +kernel
theorem d_Cmp_init_7 : decode (mb M_Cmp_init) 7 = .ok (.newarray .long, 2) := by decide +kernel
theorem d_Cmp_init_9 : decode (mb M_Cmp_init) 9 = .ok (.putfield 9, 3) := by decide +kernel
theorem d_Cmp_init_12 : decode (mb M_Cmp_init) 12 = .ok (.aload_n 0, 1) := by decide +kernel
theorem d_Cmp_init_13 : decode (mb M_Cmp_init) 13 = .ok (.bipush 20, 2) := by decide +kernel
theorem d_Cmp_init_15 : decode (mb M_Cmp_init) 15 = .ok (.newarray .long, 2) := by decide +kernel
theorem d_Cmp_init_17 : decode (mb M_Cmp_init) 17 = .ok (.putfield 15, 3) := by decide +kernel
theorem d_Cmp_init_20 : decode (mb M_Cmp_init) 20 = .ok (.aload_n 0, 1) := by decide +kernel
theorem d_Cmp_init_21 : decode (mb M_Cmp_init) 21 = .ok (.bipush 20, 2) := by decide +kernel
theorem d_Cmp_init_23 : decode (mb M_Cmp_init) 23 = .ok (.newarray .int, 2) := by decide +kernel
theorem d_Cmp_init_25 : decode (mb M_Cmp_init) 25 = .ok (.putfield 18, 3) := by decide +kernel
theorem d_Cmp_init_28 : decode (mb M_Cmp_init) 28 = .ok (.aload_n 0, 1) := by decide +kernel
theorem d_Cmp_init_29 : decode (mb M_Cmp_init) 29 = .ok (.bipush 20, 2) := by decide +kernel
theorem d_Cmp_init_31 : decode (mb M_Cmp_init) 31 = .ok (.newarray .int, 2) := by decide +kernel
theorem d_Cmp_init_33 : decode (mb M_Cmp_init) 33 = .ok (.putfield 22, 3) := by decide +kernel
theorem d_Cmp_init_36 : decode (mb M_Cmp_init) 36 = .ok (.aload_n 0, 1) := by decide +kernel
theorem d_Cmp_init_37 : decode (mb M_Cmp_init) 37 = .ok (.bipush 20, 2) := by decide +kernel
theorem d_Cmp_init_39 : decode (mb M_Cmp_init) 39 = .ok (.newarray .boolean, 2) := by decide +kernel
theorem d_Cmp_init_41 : decode (mb M_Cmp_init) 41 = .ok (.putfield 25, 3) := by decide +kernel
theorem d_Cmp_init_44 : decode (mb M_Cmp_init) 44 = .ok (.aload_n 0, 1) := by decide +kernel
theorem d_Cmp_init_45 : decode (mb M_Cmp_init) 45 = .ok (.bipush 21, 2) := by decide +kernel
theorem d_Cmp_init_47 : decode (mb M_Cmp_init) 47 = .ok (.bipush 21, 2) := by decide +kernel
theorem d_Cmp_init_49 : decode (mb M_Cmp_init) 49 = .ok (.multianewarray 29 2, 4) := by decide +kernel
theorem d_Cmp_init_53 : decode (mb M_Cmp_init) 53 = .ok (.putfield 31, 3) := by decide +kernel
theorem d_Cmp_init_56 : decode (mb M_Cmp_init) 56 = .ok (.aload_n 0, 1) := by decide +kernel
theorem d_Cmp_init_57 : decode (mb M_Cmp_init) 57 = .ok (.iconst 0, 1) := by decide +kernel
theorem d_Cmp_init_58 : decode (mb M_Cmp_init) 58 = .ok (.putfield 34, 3) := by decide +kernel
theorem d_Cmp_init_61 : decode (mb M_Cmp_init) 61 = .ok (.aload_n 0, 1) := by decide +kernel
theorem d_Cmp_init_62 : decode (mb M_Cmp_init) 62 = .ok (.iconst 0, 1) := by decide +kernel
theorem d_Cmp_init_63 : decode (mb M_Cmp_init) 63 = .ok (.putfield 38, 3) := by decide +kernel
theorem d_Cmp_init_66 : decode (mb M_Cmp_init) 66 = .ok (.aload_n 0, 1) := by decide +kernel
theorem d_Cmp_init_67 : decode (mb M_Cmp_init) 67 = .ok (.iconst 0, 1) := by decide +kernel
theorem d_Cmp_init_68 : decode (mb M_Cmp_init) 68 = .ok (.putfield 41, 3) := by decide +kernel
theorem d_Cmp_init_71 : decode (mb M_Cmp_init) 71 = .ok (.return_, 1) := by decide +kernel
theorem d_Cmp_moveAt_0 : decode (mb M_Cmp_moveAt) 0 = .ok (.iload_n 1, 1) := by decide +kernel
theorem d_Cmp_moveAt_1 : decode (mb M_Cmp_moveAt) 1 = .ok (.ifCond .lt 11, 3) := by decide +kernel
theorem d_Cmp_moveAt_4 : decode (mb M_Cmp_moveAt) 4 = .ok (.iload_n 1, 1) := by decide +kernel
theorem d_Cmp_moveAt_5 : decode (mb M_Cmp_moveAt) 5 = .ok (.aload_n 0, 1) := by decide +kernel
theorem d_Cmp_moveAt_6 : decode (mb M_Cmp_moveAt) 6 = .ok (.getfield 34, 3) := by decide +kernel
theorem d_Cmp_moveAt_9 : decode (mb M_Cmp_moveAt) 9 = .ok (.if_icmp .lt 7, 3) := by decide +kernel
theorem d_Cmp_moveAt_12 : decode (mb M_Cmp_moveAt) 12 = .ok (.iconst (-1), 1) := by decide +kernel
theorem d_Cmp_moveAt_13 : decode (mb M_Cmp_moveAt) 13 = .ok (.goto 9, 3) := by decide +kernel
theorem d_Cmp_moveAt_16 : decode (mb M_Cmp_moveAt) 16 = .ok (.aload_n 0, 1) := by decide +kernel
theorem d_Cmp_moveAt_17 : decode (mb M_Cmp_moveAt) 17 = .ok (.getfield 22, 3) := by decide +kernel
theorem d_Cmp_moveAt_20 : decode (mb M_Cmp_moveAt) 20 = .ok (.iload_n 1, 1) := by decide +kernel
theorem d_Cmp_moveAt_21 : decode (mb M_Cmp_moveAt) 21 = .ok (.iaload, 1) := by decide +kernel
theorem d_Cmp_moveAt_22 : decode (mb M_Cmp_moveAt) 22 = .ok (.ireturn, 1) := by decide +kernel
theorem d_Cmp_moveLength_0 : decode (mb M_Cmp_moveLength) 0 = .ok (.iconst 0, 1) := by decide +kernel
theorem d_Cmp_moveLength_1 : decode (mb M_Cmp_moveLength) 1 = .ok (.istore_n 3, 1) := by decide +kernel
theorem d_Cmp_moveLength_2 : decode (mb M_Cmp_moveLength) 2 = .ok (.iload_n 1, 1) := by decide +kernel
theorem d_Cmp_moveLength_3 : decode (mb M_Cmp_moveLength) 3 = .ok (.istore 4, 2) := by decide +kernel
theorem d_Cmp_moveLength_5 : decode (mb M_Cmp_moveLength) 5 = .ok (.iload_n 2, 1) := by decide +kernel
theorem d_Cmp_moveLength_6 : decode (mb M_Cmp_moveLength) 6 = .ok (.istore 5, 2) := by decide +kernel
theorem d_Cmp_moveLength_8 : decode (mb M_Cmp_moveLength) 8 = .ok (.iload 4, 2) := by decide +kernel
theorem d_Cmp_moveLength_10 : decode (mb M_Cmp_moveLength) 10 = .ok (.aload_n 0, 1) := by decide +kernel
theorem d_Cmp_moveLength_11 : decode (mb M_Cmp_moveLength) 11 = .ok (.getfield 34, 3) := by decide +kernel
theorem d_Cmp_moveLength_14 : decode (mb M_Cmp_moveLength) 14 = .ok (.if_icmp .ge 74, 3) := by decide +kernel
theorem d_Cmp_moveLength_17 : decode (mb M_Cmp_moveLength) 17 = .ok (.iload 5, 2) := by decide +kernel
theorem d_Cmp_moveLength_19 : decode (mb M_Cmp_moveLength) 19 = .ok (.aload_n 0, 1) := by decide +kernel
theorem d_Cmp_moveLength_20 : decode (mb M_Cmp_moveLength) 20 = .ok (.getfield 38, 3) := by decide +kernel
theorem d_Cmp_moveLength_23 : decode (mb M_Cmp_moveLength) 23 = .ok (.if_icmp .ge 65, 3) := by decide +kernel
theorem d_Cmp_moveLength_26 : decode (mb M_Cmp_moveLength) 26 = .ok (.aload_n 0, 1) := by decide +kernel
theorem d_Cmp_moveLength_27 : decode (mb M_Cmp_moveLength) 27 = .ok (.getfield 18, 3) := by decide +kernel
theorem d_Cmp_moveLength_30 : decode (mb M_Cmp_moveLength) 30 = .ok (.iload 4, 2) := by decide +kernel
theorem d_Cmp_moveLength_32 : decode (mb M_Cmp_moveLength) 32 = .ok (.iaload, 1) := by decide +kernel
theorem d_Cmp_moveLength_33 : decode (mb M_Cmp_moveLength) 33 = .ok (.iconst (-1), 1) := by decide +kernel
theorem d_Cmp_moveLength_34 : decode (mb M_Cmp_moveLength) 34 = .ok (.if_icmp .ne 54, 3) := by decide +kernel
theorem d_Cmp_moveLength_37 : decode (mb M_Cmp_moveLength) 37 = .ok (.aload_n 0, 1) := by decide +kernel
theorem d_Cmp_moveLength_38 : decode (mb M_Cmp_moveLength) 38 = .ok (.getfield 22, 3) := by decide +kernel
theorem d_Cmp_moveLength_41 : decode (mb M_Cmp_moveLength) 41 = .ok (.iload 4, 2) := by decide +kernel
theorem d_Cmp_moveLength_43 : decode (mb M_Cmp_moveLength) 43 = .ok (.iaload, 1) := by decide +kernel
theorem d_Cmp_moveLength_44 : decode (mb M_Cmp_moveLength) 44 = .ok (.iconst (-1), 1) := by decide +kernel
theorem d_Cmp_moveLength_45 : decode (mb M_Cmp_moveLength) 45 = .ok (.if_icmp .ne 43, 3) := by decide +kernel
theorem d_Cmp_moveLength_48 : decode (mb M_Cmp_moveLength) 48 = .ok (.aload_n 0, 1) := by decide +kernel
theorem d_Cmp_moveLength_49 : decode (mb M_Cmp_moveLength) 49 = .ok (.getfield 25, 3) := by decide +kernel
theorem d_Cmp_moveLength_52 : decode (mb M_Cmp_moveLength) 52 = .ok (.iload 5, 2) := by decide +kernel
theorem d_Cmp_moveLength_54 : decode (mb M_Cmp_moveLength) 54 = .ok (.baload, 1) := by decide +kernel
theorem d_Cmp_moveLength_55 : decode (mb M_Cmp_moveLength) 55 = .ok (.ifCond .eq 33, 3) := by decide +kernel
theorem d_Cmp_moveLength_58 : decode (mb M_Cmp_moveLength) 58 = .ok (.aload_n 0, 1) := by decide +kernel
theorem d_Cmp_moveLength_59 : decode (mb M_Cmp_moveLength) 59 = .ok (.getfield 9, 3) := by decide +kernel
theorem d_Cmp_moveLength_62 : decode (mb M_Cmp_moveLength) 62 = .ok (.iload 4, 2) := by decide +kernel
theorem d_Cmp_moveLength_64 : decode (mb M_Cmp_moveLength) 64 = .ok (.laload, 1) := by decide +kernel
theorem d_Cmp_moveLength_65 : decode (mb M_Cmp_moveLength) 65 = .ok (.aload_n 0, 1) := by decide +kernel
theorem d_Cmp_moveLength_66 : decode (mb M_Cmp_moveLength) 66 = .ok (.getfield 15, 3) := by decide +kernel
theorem d_Cmp_moveLength_69 : decode (mb M_Cmp_moveLength) 69 = .ok (.iload 5, 2) := by decide +kernel
theorem d_Cmp_moveLength_71 : decode (mb M_Cmp_moveLength) 71 = .ok (.laload, 1) := by decide +kernel
theorem d_Cmp_moveLength_72 : decode (mb M_Cmp_moveLength) 72 = .ok (.lcmp, 1) := by decide +kernel
theorem d_Cmp_moveLength_73 : decode (mb M_Cmp_moveLength) 73 = .ok (.ifCond .ne 15, 3) := by decide +kernel
theorem d_Cmp_moveLength_76 : decode (mb M_Cmp_moveLength) 76 = .ok (.iinc 3 1, 3) := by decide +kernel
theorem d_Cmp_moveLength_79 : decode (mb M_Cmp_moveLength) 79 = .ok (.iinc 4 1, 3) := by decide +kernel
theorem d_Cmp_moveLength_82 : decode (mb M_Cmp_moveLength) 82 = .ok (.iinc 5 1, 3) := by decide +kernel
theorem d_Cmp_moveLength_85 : decode (mb M_Cmp_moveLength) 85 = .ok (.goto (-77), 3) := by decide +kernel
theorem d_Cmp_moveLength_88 : decode (mb M_Cmp_moveLength) 88 = .ok (.iload_n 3, 1) := by decide +kernel
theorem d_Cmp_moveLength_89 : decode (mb M_Cmp_moveLength) 89 = .ok (.iconst 1, 1) := by decide +kernel
theorem d_Cmp_moveLength_90 : decode (mb M_Cmp_moveLength) 90 = .ok (.if_icmp .ne 21, 3) := by decide +kernel
theorem d_Cmp_moveLength_93 : decode (mb M_Cmp_moveLength) 93 = .ok (.aload_n 0, 1) := by decide +kernel
theorem d_Cmp_moveLength_94 : decode (mb M_Cmp_moveLength) 94 = .ok (.getfield 9, 3) := by decide +kernel
theorem d_Cmp_moveLength_97 : decode (mb M_Cmp_moveLength) 97 = .ok (.iload_n 1, 1) := by decide +kernel
theorem d_Cmp_moveLength_98 : decode (mb M_Cmp_moveLength) 98 = .ok (.laload, 1) := by decide +kernel
theorem d_Cmp_moveLength_99 : decode (mb M_Cmp_moveLength) 99 = .ok (.invokestatic 70, 3) := by decide +kernel
theorem d_Cmp_moveLength_102 : decode (mb M_Cmp_moveLength) 102 = .ok (.invokestatic 86, 3) := by decide +kernel
theorem d_Cmp_moveLength_105 : decode (mb M_Cmp_moveLength) 105 = .ok (.iconst 4, 1) := by decide +kernel
theorem d_Cmp_moveLength_106 : decode (mb M_Cmp_moveLength) 106 = .ok (.if_icmp .ge 5, 3) := by decide +kernel
theorem d_Cmp_moveLength_109 : decode (mb M_Cmp_moveLength) 109 = .ok (.iconst 0, 1) := by decide +kernel
theorem d_Cmp_moveLength_110 : decode (mb M_Cmp_moveLength) 110 = .ok (.ireturn, 1) := by decide +kernel
theorem d_Cmp_moveLength_111 : decode (mb M_Cmp_moveLength) 111 = .ok (.iload_n 3, 1) := by decide +kernel
theorem d_Cmp_moveLength_112 : decode (mb M_Cmp_moveLength) 112 = .ok (.ireturn, 1) := by decide +kernel
theorem d_Cmp_pairAt_0 : decode (mb M_Cmp_pairAt) 0 = .ok (.iload_n 1, 1) := by decide +kernel
theorem d_Cmp_pairAt_1 : decode (mb M_Cmp_pairAt) 1 = .ok (.ifCond .lt 11, 3) := by decide +kernel
theorem d_Cmp_pairAt_4 : decode (mb M_Cmp_pairAt) 4 = .ok (.iload_n 1, 1) := by decide +kernel
theorem d_Cmp_pairAt_5 : decode (mb M_Cmp_pairAt) 5 = .ok (.aload_n 0, 1) := by decide +kernel
theorem d_Cmp_pairAt_6 : decode (mb M_Cmp_pairAt) 6 = .ok (.getfield 34, 3) := by decide +kernel
theorem d_Cmp_pairAt_9 : decode (mb M_Cmp_pairAt) 9 = .ok (.if_icmp .lt 7, 3) := by decide +kernel
theorem d_Cmp_pairAt_12 : decode (mb M_Cmp_pairAt) 12 = .ok (.iconst (-1), 1) := by decide +kernel
theorem d_Cmp_pairAt_13 : decode (mb M_Cmp_pairAt) 13 = .ok (.goto 9, 3) := by decide +kernel
theorem d_Cmp_pairAt_16 : decode (mb M_Cmp_pairAt) 16 = .ok (.aload_n 0, 1) := by decide +kernel
theorem d_Cmp_pairAt_17 : decode (mb M_Cmp_pairAt) 17 = .ok (.getfield 18, 3) := by decide +kernel
theorem d_Cmp_pairAt_20 : decode (mb M_Cmp_pairAt) 20 = .ok (.iload_n 1, 1) := by decide +kernel
theorem d_Cmp_pairAt_21 : decode (mb M_Cmp_pairAt) 21 = .ok (.iaload, 1) := by decide +kernel
theorem d_Cmp_pairAt_22 : decode (mb M_Cmp_pairAt) 22 = .ok (.ireturn, 1) := by decide +kernel
theorem d_Cmp_pairCount_0 : decode (mb M_Cmp_pairCount) 0 = .ok (.aload_n 0, 1) := by decide +kernel
theorem d_Cmp_pairCount_1 : decode (mb M_Cmp_pairCount) 1 = .ok (.getfield 41, 3) := by decide +kernel
theorem d_Cmp_pairCount_4 : decode (mb M_Cmp_pairCount) 4 = .ok (.ireturn, 1) := by decide +kernel
theorem d_Cmp_pairUp_0 : decode (mb M_Cmp_pairUp) 0 = .ok (.aload_n 0, 1) := by decide +kernel
theorem d_Cmp_pairUp_1 : decode (mb M_Cmp_pairUp) 1 = .ok (.aload_n 1, 1) := by decide +kernel
theorem d_Cmp_pairUp_2 : decode (mb M_Cmp_pairUp) 2 = .ok (.aload_n 0, 1) := by decide +kernel
theorem d_Cmp_pairUp_3 : decode (mb M_Cmp_pairUp) 3 = .ok (.getfield 9, 3) := by decide +kernel
theorem d_Cmp_pairUp_6 : decode (mb M_Cmp_pairUp) 6 = .ok (.iload_n 3, 1) := by decide +kernel
theorem d_Cmp_pairUp_7 : decode (mb M_Cmp_pairUp) 7 = .ok (.invokestatic 44, 3) := by decide +kernel
theorem d_Cmp_pairUp_10 : decode (mb M_Cmp_pairUp) 10 = .ok (.putfield 34, 3) := by decide +kernel
theorem d_Cmp_pairUp_13 : decode (mb M_Cmp_pairUp) 13 = .ok (.aload_n 0, 1) := by decide +kernel
theorem d_Cmp_pairUp_14 : decode (mb M_Cmp_pairUp) 14 = .ok (.aload_n 2, 1) := by decide +kernel
theorem d_Cmp_pairUp_15 : decode (mb M_Cmp_pairUp) 15 = .ok (.aload_n 0, 1) := by decide +kernel
theorem d_Cmp_pairUp_16 : decode (mb M_Cmp_pairUp) 16 = .ok (.getfield 15, 3) := by decide +kernel
theorem d_Cmp_pairUp_19 : decode (mb M_Cmp_pairUp) 19 = .ok (.iload_n 3, 1) := by decide +kernel
theorem d_Cmp_pairUp_20 : decode (mb M_Cmp_pairUp) 20 = .ok (.invokestatic 44, 3) := by decide +kernel
theorem d_Cmp_pairUp_23 : decode (mb M_Cmp_pairUp) 23 = .ok (.putfield 38, 3) := by decide +kernel
theorem d_Cmp_pairUp_26 : decode (mb M_Cmp_pairUp) 26 = .ok (.aload_n 0, 1) := by decide +kernel
theorem d_Cmp_pairUp_27 : decode (mb M_Cmp_pairUp) 27 = .ok (.invokevirtual 48, 3) := by decide +kernel
theorem d_Cmp_pairUp_30 : decode (mb M_Cmp_pairUp) 30 = .ok (.aload_n 0, 1) := by decide +kernel
theorem d_Cmp_pairUp_31 : decode (mb M_Cmp_pairUp) 31 = .ok (.invokevirtual 51, 3) := by decide +kernel
theorem d_Cmp_pairUp_34 : decode (mb M_Cmp_pairUp) 34 = .ok (.return_, 1) := by decide +kernel
theorem d_Cmp_read_0 : decode (mb M_Cmp_read) 0 = .ok (.aload_n 0, 1) := by decide +kernel
theorem d_Cmp_read_1 : decode (mb M_Cmp_read) 1 = .ok (.invokevirtual 54, 3) := by decide +kernel
theorem d_Cmp_read_4 : decode (mb M_Cmp_read) 4 = .ok (.aload_n 1, 1) := by decide +kernel
theorem d_Cmp_read_5 : decode (mb M_Cmp_read) 5 = .ok (.arraylength, 1) := by decide +kernel
theorem d_Cmp_read_6 : decode (mb M_Cmp_read) 6 = .ok (.invokestatic 60, 3) := by decide +kernel
theorem d_Cmp_read_9 : decode (mb M_Cmp_read) 9 = .ok (.istore_n 3, 1) := by decide +kernel
theorem d_Cmp_read_10 : decode (mb M_Cmp_read) 10 = .ok (.iconst 0, 1) := by decide +kernel
theorem d_Cmp_read_11 : decode (mb M_Cmp_read) 11 = .ok (.istore 4, 2) := by decide +kernel
theorem d_Cmp_read_13 : decode (mb M_Cmp_read) 13 = .ok (.iload 4, 2) := by decide +kernel
theorem d_Cmp_read_15 : decode (mb M_Cmp_read) 15 = .ok (.iload_n 3, 1) := by decide +kernel
theorem d_Cmp_read_16 : decode (mb M_Cmp_read) 16 = .ok (.if_icmp .ge 35, 3) := by decide +kernel
theorem d_Cmp_read_19 : decode (mb M_Cmp_read) 19 = .ok (.aload_n 0, 1) := by decide +kernel
theorem d_Cmp_read_20 : decode (mb M_Cmp_read) 20 = .ok (.iload 4, 2) := by decide +kernel
theorem d_Cmp_read_22 : decode (mb M_Cmp_read) 22 = .ok (.invokevirtual 66, 3) := by decide +kernel
theorem d_Cmp_read_25 : decode (mb M_Cmp_read) 25 = .ok (.lstore 5, 2) := by decide +kernel
theorem d_Cmp_read_27 : decode (mb M_Cmp_read) 27 = .ok (.aload_n 1, 1) := by decide +kernel
theorem d_Cmp_read_28 : decode (mb M_Cmp_read) 28 = .ok (.iload 4, 2) := by decide +kernel
theorem d_Cmp_read_30 : decode (mb M_Cmp_read) 30 = .ok (.iload_n 2, 1) := by decide +kernel
theorem d_Cmp_read_31 : decode (mb M_Cmp_read) 31 = .ok (.ifCond .eq 11, 3) := by decide +kernel
theorem d_Cmp_read_34 : decode (mb M_Cmp_read) 34 = .ok (.lload 5, 2) := by decide +kernel
theorem d_Cmp_read_36 : decode (mb M_Cmp_read) 36 = .ok (.invokestatic 70, 3) := by decide +kernel
theorem d_Cmp_read_39 : decode (mb M_Cmp_read) 39 = .ok (.goto 5, 3) := by decide +kernel
theorem d_Cmp_read_42 : decode (mb M_Cmp_read) 42 = .ok (.lload 5, 2) := by decide +kernel
theorem d_Cmp_read_44 : decode (mb M_Cmp_read) 44 = .ok (.lastore, 1) := by decide +kernel
theorem d_Cmp_read_45 : decode (mb M_Cmp_read) 45 = .ok (.iinc 4 1, 3) := by decide +kernel
theorem d_Cmp_read_48 : decode (mb M_Cmp_read) 48 = .ok (.goto (-35), 3) := by decide +kernel
theorem d_Cmp_read_51 : decode (mb M_Cmp_read) 51 = .ok (.iload_n 3, 1) := by decide +kernel
theorem d_Cmp_read_52 : decode (mb M_Cmp_read) 52 = .ok (.ireturn, 1) := by decide +kernel
theorem d_Cmp_size_0 : decode (mb M_Cmp_size) 0 = .ok (.aload_n 0, 1) := by decide +kernel
theorem d_Cmp_size_1 : decode (mb M_Cmp_size) 1 = .ok (.getfield 34, 3) := by decide +kernel
theorem d_Cmp_size_4 : decode (mb M_Cmp_size) 4 = .ok (.ireturn, 1) := by decide +kernel
theorem d_Cmp_takeLongestMove_0 : decode (mb M_Cmp_takeLongestMove) 0 = .ok (.iconst 0, 1) := by decide +kernel
theorem d_Cmp_takeLongestMove_1 : decode (mb M_Cmp_takeLongestMove) 1 = .ok (.istore_n 1, 1) := by decide +kernel
theorem d_Cmp_takeLongestMove_2 : decode (mb M_Cmp_takeLongestMove) 2 = .ok (.iconst 0, 1) := by decide +kernel
theorem d_Cmp_takeLongestMove_3 : decode (mb M_Cmp_takeLongestMove) 3 = .ok (.istore_n 2, 1) := by decide +kernel
theorem d_Cmp_takeLongestMove_4 : decode (mb M_Cmp_takeLongestMove) 4 = .ok (.iconst 0, 1) := by decide +kernel
theorem d_Cmp_takeLongestMove_5 : decode (mb M_Cmp_takeLongestMove) 5 = .ok (.istore_n 3, 1) := by decide +kernel
theorem d_Cmp_takeLongestMove_6 : decode (mb M_Cmp_takeLongestMove) 6 = .ok (.iconst 0, 1) := by decide +kernel
theorem d_Cmp_takeLongestMove_7 : decode (mb M_Cmp_takeLongestMove) 7 = .ok (.istore 4, 2) := by decide +kernel
theorem d_Cmp_takeLongestMove_9 : decode (mb M_Cmp_takeLongestMove) 9 = .ok (.iload 4, 2) := by decide +kernel
theorem d_Cmp_takeLongestMove_11 : decode (mb M_Cmp_takeLongestMove) 11 = .ok (.aload_n 0, 1) := by decide +kernel
theorem d_Cmp_takeLongestMove_12 : decode (mb M_Cmp_takeLongestMove) 12 = .ok (.getfield 34, 3) := by decide +kernel
theorem d_Cmp_takeLongestMove_15 : decode (mb M_Cmp_takeLongestMove) 15 = .ok (.if_icmp .ge 52, 3) := by decide +kernel
theorem d_Cmp_takeLongestMove_18 : decode (mb M_Cmp_takeLongestMove) 18 = .ok (.iconst 0, 1) := by decide +kernel
theorem d_Cmp_takeLongestMove_19 : decode (mb M_Cmp_takeLongestMove) 19 = .ok (.istore 5, 2) := by decide +kernel
theorem d_Cmp_takeLongestMove_21 : decode (mb M_Cmp_takeLongestMove) 21 = .ok (.iload 5, 2) := by decide +kernel
theorem d_Cmp_takeLongestMove_23 : decode (mb M_Cmp_takeLongestMove) 23 = .ok (.aload_n 0, 1) := by decide +kernel
theorem d_Cmp_takeLongestMove_24 : decode (mb M_Cmp_takeLongestMove) 24 = .ok (.getfield 38, 3) := by decide +kernel
theorem d_Cmp_takeLongestMove_27 : decode (mb M_Cmp_takeLongestMove) 27 = .ok (.if_icmp .ge 34, 3) := by decide +kernel
theorem d_Cmp_takeLongestMove_30 : decode (mb M_Cmp_takeLongestMove) 30 = .ok (.aload_n 0, 1) := by decide +kernel
theorem d_Cmp_takeLongestMove_31 : decode (mb M_Cmp_takeLongestMove) 31 = .ok (.iload 4, 2) := by decide +kernel
theorem d_Cmp_takeLongestMove_33 : decode (mb M_Cmp_takeLongestMove) 33 = .ok (.iload 5, 2) := by decide +kernel
theorem d_Cmp_takeLongestMove_35 : decode (mb M_Cmp_takeLongestMove) 35 = .ok (.invokevirtual 83, 3) := by decide +kernel
theorem d_Cmp_takeLongestMove_38 : decode (mb M_Cmp_takeLongestMove) 38 = .ok (.istore 6, 2) := by decide +kernel
theorem d_Cmp_takeLongestMove_40 : decode (mb M_Cmp_takeLongestMove) 40 = .ok (.iload 6, 2) := by decide +kernel
theorem d_Cmp_takeLongestMove_42 : decode (mb M_Cmp_takeLongestMove) 42 = .ok (.iload_n 1, 1) := by decide +kernel
theorem d_Cmp_takeLongestMove_43 : decode (mb M_Cmp_takeLongestMove) 43 = .ok (.if_icmp .le 12, 3) := by decide +kernel
theorem d_Cmp_takeLongestMove_46 : decode (mb M_Cmp_takeLongestMove) 46 = .ok (.iload 6, 2) := by decide +kernel
theorem d_Cmp_takeLongestMove_48 : decode (mb M_Cmp_takeLongestMove) 48 = .ok (.istore_n 1, 1) := by decide +kernel
theorem d_Cmp_takeLongestMove_49 : decode (mb M_Cmp_takeLongestMove) 49 = .ok (.iload 4, 2) := by decide +kernel
theorem d_Cmp_takeLongestMove_51 : decode (mb M_Cmp_takeLongestMove) 51 = .ok (.istore_n 2, 1) := by decide +kernel
theorem d_Cmp_takeLongestMove_52 : decode (mb M_Cmp_takeLongestMove) 52 = .ok (.iload 5, 2) := by decide +kernel
theorem d_Cmp_takeLongestMove_54 : decode (mb M_Cmp_takeLongestMove) 54 = .ok (.istore_n 3, 1) := by decide +kernel
theorem d_Cmp_takeLongestMove_55 : decode (mb M_Cmp_takeLongestMove) 55 = .ok (.iinc 5 1, 3) := by decide +kernel
theorem d_Cmp_takeLongestMove_58 : decode (mb M_Cmp_takeLongestMove) 58 = .ok (.goto (-37), 3) := by decide +kernel
theorem d_Cmp_takeLongestMove_61 : decode (mb M_Cmp_takeLongestMove) 61 = .ok (.iinc 4 1, 3) := by decide +kernel
theorem d_Cmp_takeLongestMove_64 : decode (mb M_Cmp_takeLongestMove) 64 = .ok (.goto (-55), 3) := by decide +kernel
theorem d_Cmp_takeLongestMove_67 : decode (mb M_Cmp_takeLongestMove) 67 = .ok (.iconst 0, 1) := by decide +kernel
theorem d_Cmp_takeLongestMove_68 : decode (mb M_Cmp_takeLongestMove) 68 = .ok (.istore 4, 2) := by decide +kernel
theorem d_Cmp_takeLongestMove_70 : decode (mb M_Cmp_takeLongestMove) 70 = .ok (.iload 4, 2) := by decide +kernel
theorem d_Cmp_takeLongestMove_72 : decode (mb M_Cmp_takeLongestMove) 72 = .ok (.iload_n 1, 1) := by decide +kernel
theorem d_Cmp_takeLongestMove_73 : decode (mb M_Cmp_takeLongestMove) 73 = .ok (.if_icmp .ge 32, 3) := by decide +kernel
theorem d_Cmp_takeLongestMove_76 : decode (mb M_Cmp_takeLongestMove) 76 = .ok (.aload_n 0, 1) := by decide +kernel
theorem d_Cmp_takeLongestMove_77 : decode (mb M_Cmp_takeLongestMove) 77 = .ok (.getfield 22, 3) := by decide +kernel
theorem d_Cmp_takeLongestMove_80 : decode (mb M_Cmp_takeLongestMove) 80 = .ok (.iload_n 2, 1) := by decide +kernel
theorem d_Cmp_takeLongestMove_81 : decode (mb M_Cmp_takeLongestMove) 81 = .ok (.iload 4, 2) := by decide +kernel
theorem d_Cmp_takeLongestMove_83 : decode (mb M_Cmp_takeLongestMove) 83 = .ok (.iadd, 1) := by decide +kernel
theorem d_Cmp_takeLongestMove_84 : decode (mb M_Cmp_takeLongestMove) 84 = .ok (.iload_n 3, 1) := by decide +kernel
theorem d_Cmp_takeLongestMove_85 : decode (mb M_Cmp_takeLongestMove) 85 = .ok (.iload 4, 2) := by decide +kernel
theorem d_Cmp_takeLongestMove_87 : decode (mb M_Cmp_takeLongestMove) 87 = .ok (.iadd, 1) := by decide +kernel
theorem d_Cmp_takeLongestMove_88 : decode (mb M_Cmp_takeLongestMove) 88 = .ok (.iastore, 1) := by decide +kernel
theorem d_Cmp_takeLongestMove_89 : decode (mb M_Cmp_takeLongestMove) 89 = .ok (.aload_n 0, 1) := by decide +kernel
theorem d_Cmp_takeLongestMove_90 : decode (mb M_Cmp_takeLongestMove) 90 = .ok (.getfield 25, 3) := by decide +kernel
theorem d_Cmp_takeLongestMove_93 : decode (mb M_Cmp_takeLongestMove) 93 = .ok (.iload_n 3, 1) := by decide +kernel
theorem d_Cmp_takeLongestMove_94 : decode (mb M_Cmp_takeLongestMove) 94 = .ok (.iload 4, 2) := by decide +kernel
theorem d_Cmp_takeLongestMove_96 : decode (mb M_Cmp_takeLongestMove) 96 = .ok (.iadd, 1) := by decide +kernel
theorem d_Cmp_takeLongestMove_97 : decode (mb M_Cmp_takeLongestMove) 97 = .ok (.iconst 0, 1) := by decide +kernel
theorem d_Cmp_takeLongestMove_98 : decode (mb M_Cmp_takeLongestMove) 98 = .ok (.bastore, 1) := by decide +kernel
theorem d_Cmp_takeLongestMove_99 : decode (mb M_Cmp_takeLongestMove) 99 = .ok (.iinc 4 1, 3) := by decide +kernel
theorem d_Cmp_takeLongestMove_102 : decode (mb M_Cmp_takeLongestMove) 102 = .ok (.goto (-32), 3) := by decide +kernel
theorem d_Cmp_takeLongestMove_105 : decode (mb M_Cmp_takeLongestMove) 105 = .ok (.iload_n 1, 1) := by decide +kernel
theorem d_Cmp_takeLongestMove_106 : decode (mb M_Cmp_takeLongestMove) 106 = .ok (.ifCond .le 7, 3) := by decide +kernel
theorem d_Cmp_takeLongestMove_109 : decode (mb M_Cmp_takeLongestMove) 109 = .ok (.iconst 1, 1) := by decide +kernel
theorem d_Cmp_takeLongestMove_110 : decode (mb M_Cmp_takeLongestMove) 110 = .ok (.goto 4, 3) := by decide +kernel
theorem d_Cmp_takeLongestMove_113 : decode (mb M_Cmp_takeLongestMove) 113 = .ok (.iconst 0, 1) := by decide +kernel
theorem d_Cmp_takeLongestMove_114 : decode (mb M_Cmp_takeLongestMove) 114 = .ok (.ireturn, 1) := by decide +kernel
theorem d_Cmp_walk_0 : decode (mb M_Cmp_walk) 0 = .ok (.iconst 0, 1) := by decide +kernel
theorem d_Cmp_walk_1 : decode (mb M_Cmp_walk) 1 = .ok (.istore_n 1, 1) := by decide +kernel
theorem d_Cmp_walk_2 : decode (mb M_Cmp_walk) 2 = .ok (.iload_n 1, 1) := by decide +kernel
theorem d_Cmp_walk_3 : decode (mb M_Cmp_walk) 3 = .ok (.bipush 20, 2) := by decide +kernel
theorem d_Cmp_walk_5 : decode (mb M_Cmp_walk) 5 = .ok (.if_icmp .ge 42, 3) := by decide +kernel
theorem d_Cmp_walk_8 : decode (mb M_Cmp_walk) 8 = .ok (.aload_n 0, 1) := by decide +kernel
theorem d_Cmp_walk_9 : decode (mb M_Cmp_walk) 9 = .ok (.getfield 18, 3) := by decide +kernel
theorem d_Cmp_walk_12 : decode (mb M_Cmp_walk) 12 = .ok (.iload_n 1, 1) := by decide +kernel
theorem d_Cmp_walk_13 : decode (mb M_Cmp_walk) 13 = .ok (.iconst (-1), 1) := by decide +kernel
theorem d_Cmp_walk_14 : decode (mb M_Cmp_walk) 14 = .ok (.iastore, 1) := by decide +kernel
theorem d_Cmp_walk_15 : decode (mb M_Cmp_walk) 15 = .ok (.aload_n 0, 1) := by decide +kernel
theorem d_Cmp_walk_16 : decode (mb M_Cmp_walk) 16 = .ok (.getfield 22, 3) := by decide +kernel
theorem d_Cmp_walk_19 : decode (mb M_Cmp_walk) 19 = .ok (.iload_n 1, 1) := by decide +kernel
theorem d_Cmp_walk_20 : decode (mb M_Cmp_walk) 20 = .ok (.iconst (-1), 1) := by decide +kernel
theorem d_Cmp_walk_21 : decode (mb M_Cmp_walk) 21 = .ok (.iastore, 1) := by decide +kernel
theorem d_Cmp_walk_22 : decode (mb M_Cmp_walk) 22 = .ok (.aload_n 0, 1) := by decide +kernel
theorem d_Cmp_walk_23 : decode (mb M_Cmp_walk) 23 = .ok (.getfield 25, 3) := by decide +kernel
theorem d_Cmp_walk_26 : decode (mb M_Cmp_walk) 26 = .ok (.iload_n 1, 1) := by decide +kernel
theorem d_Cmp_walk_27 : decode (mb M_Cmp_walk) 27 = .ok (.iload_n 1, 1) := by decide +kernel
theorem d_Cmp_walk_28 : decode (mb M_Cmp_walk) 28 = .ok (.aload_n 0, 1) := by decide +kernel
theorem d_Cmp_walk_29 : decode (mb M_Cmp_walk) 29 = .ok (.getfield 38, 3) := by decide +kernel
theorem d_Cmp_walk_32 : decode (mb M_Cmp_walk) 32 = .ok (.if_icmp .ge 7, 3) := by decide +kernel
theorem d_Cmp_walk_35 : decode (mb M_Cmp_walk) 35 = .ok (.iconst 1, 1) := by decide +kernel
theorem d_Cmp_walk_36 : decode (mb M_Cmp_walk) 36 = .ok (.goto 4, 3) := by decide +kernel
theorem d_Cmp_walk_39 : decode (mb M_Cmp_walk) 39 = .ok (.iconst 0, 1) := by decide +kernel
theorem d_Cmp_walk_40 : decode (mb M_Cmp_walk) 40 = .ok (.bastore, 1) := by decide +kernel
theorem d_Cmp_walk_41 : decode (mb M_Cmp_walk) 41 = .ok (.iinc 1 1, 3) := by decide +kernel
theorem d_Cmp_walk_44 : decode (mb M_Cmp_walk) 44 = .ok (.goto (-42), 3) := by decide +kernel
theorem d_Cmp_walk_47 : decode (mb M_Cmp_walk) 47 = .ok (.aload_n 0, 1) := by decide +kernel
theorem d_Cmp_walk_48 : decode (mb M_Cmp_walk) 48 = .ok (.iconst 0, 1) := by decide +kernel
theorem d_Cmp_walk_49 : decode (mb M_Cmp_walk) 49 = .ok (.putfield 41, 3) := by decide +kernel
theorem d_Cmp_walk_52 : decode (mb M_Cmp_walk) 52 = .ok (.iconst 0, 1) := by decide +kernel
theorem d_Cmp_walk_53 : decode (mb M_Cmp_walk) 53 = .ok (.istore_n 1, 1) := by decide +kernel
theorem d_Cmp_walk_54 : decode (mb M_Cmp_walk) 54 = .ok (.iconst 0, 1) := by decide +kernel
theorem d_Cmp_walk_55 : decode (mb M_Cmp_walk) 55 = .ok (.istore_n 2, 1) := by decide +kernel
theorem d_Cmp_walk_56 : decode (mb M_Cmp_walk) 56 = .ok (.iload_n 1, 1) := by decide +kernel
theorem d_Cmp_walk_57 : decode (mb M_Cmp_walk) 57 = .ok (.aload_n 0, 1) := by decide +kernel
theorem d_Cmp_walk_58 : decode (mb M_Cmp_walk) 58 = .ok (.getfield 34, 3) := by decide +kernel
theorem d_Cmp_walk_61 : decode (mb M_Cmp_walk) 61 = .ok (.if_icmp .ge 93, 3) := by decide +kernel
theorem d_Cmp_walk_64 : decode (mb M_Cmp_walk) 64 = .ok (.iload_n 2, 1) := by decide +kernel
theorem d_Cmp_walk_65 : decode (mb M_Cmp_walk) 65 = .ok (.aload_n 0, 1) := by decide +kernel
theorem d_Cmp_walk_66 : decode (mb M_Cmp_walk) 66 = .ok (.getfield 38, 3) := by decide +kernel
theorem d_Cmp_walk_69 : decode (mb M_Cmp_walk) 69 = .ok (.if_icmp .ge 85, 3) := by decide +kernel
theorem d_Cmp_walk_72 : decode (mb M_Cmp_walk) 72 = .ok (.aload_n 0, 1) := by decide +kernel
theorem d_Cmp_walk_73 : decode (mb M_Cmp_walk) 73 = .ok (.getfield 9, 3) := by decide +kernel
theorem d_Cmp_walk_76 : decode (mb M_Cmp_walk) 76 = .ok (.iload_n 1, 1) := by decide +kernel
theorem d_Cmp_walk_77 : decode (mb M_Cmp_walk) 77 = .ok (.laload, 1) := by decide +kernel
theorem d_Cmp_walk_78 : decode (mb M_Cmp_walk) 78 = .ok (.aload_n 0, 1) := by decide +kernel
theorem d_Cmp_walk_79 : decode (mb M_Cmp_walk) 79 = .ok (.getfield 15, 3) := by decide +kernel
theorem d_Cmp_walk_82 : decode (mb M_Cmp_walk) 82 = .ok (.iload_n 2, 1) := by decide +kernel
theorem d_Cmp_walk_83 : decode (mb M_Cmp_walk) 83 = .ok (.laload, 1) := by decide +kernel
theorem d_Cmp_walk_84 : decode (mb M_Cmp_walk) 84 = .ok (.lcmp, 1) := by decide +kernel
theorem d_Cmp_walk_85 : decode (mb M_Cmp_walk) 85 = .ok (.ifCond .ne 36, 3) := by decide +kernel
theorem d_Cmp_walk_88 : decode (mb M_Cmp_walk) 88 = .ok (.aload_n 0, 1) := by decide +kernel
theorem d_Cmp_walk_89 : decode (mb M_Cmp_walk) 89 = .ok (.getfield 18, 3) := by decide +kernel
theorem d_Cmp_walk_92 : decode (mb M_Cmp_walk) 92 = .ok (.iload_n 1, 1) := by decide +kernel
theorem d_Cmp_walk_93 : decode (mb M_Cmp_walk) 93 = .ok (.iload_n 2, 1) := by decide +kernel
theorem d_Cmp_walk_94 : decode (mb M_Cmp_walk) 94 = .ok (.iastore, 1) := by decide +kernel
theorem d_Cmp_walk_95 : decode (mb M_Cmp_walk) 95 = .ok (.aload_n 0, 1) := by decide +kernel
theorem d_Cmp_walk_96 : decode (mb M_Cmp_walk) 96 = .ok (.getfield 25, 3) := by decide +kernel
theorem d_Cmp_walk_99 : decode (mb M_Cmp_walk) 99 = .ok (.iload_n 2, 1) := by decide +kernel
theorem d_Cmp_walk_100 : decode (mb M_Cmp_walk) 100 = .ok (.iconst 0, 1) := by decide +kernel
theorem d_Cmp_walk_101 : decode (mb M_Cmp_walk) 101 = .ok (.bastore, 1) := by decide +kernel
theorem d_Cmp_walk_102 : decode (mb M_Cmp_walk) 102 = .ok (.aload_n 0, 1) := by decide +kernel
theorem d_Cmp_walk_103 : decode (mb M_Cmp_walk) 103 = .ok (.dup, 1) := by decide +kernel
theorem d_Cmp_walk_104 : decode (mb M_Cmp_walk) 104 = .ok (.getfield 41, 3) := by decide +kernel
theorem d_Cmp_walk_107 : decode (mb M_Cmp_walk) 107 = .ok (.iconst 1, 1) := by decide +kernel
theorem d_Cmp_walk_108 : decode (mb M_Cmp_walk) 108 = .ok (.iadd, 1) := by decide +kernel
theorem d_Cmp_walk_109 : decode (mb M_Cmp_walk) 109 = .ok (.putfield 41, 3) := by decide +kernel
theorem d_Cmp_walk_112 : decode (mb M_Cmp_walk) 112 = .ok (.iinc 1 1, 3) := by decide +kernel
theorem d_Cmp_walk_115 : decode (mb M_Cmp_walk) 115 = .ok (.iinc 2 1, 3) := by decide +kernel
theorem d_Cmp_walk_118 : decode (mb M_Cmp_walk) 118 = .ok (.goto (-62), 3) := by decide +kernel
theorem d_Cmp_walk_121 : decode (mb M_Cmp_walk) 121 = .ok (.aload_n 0, 1) := by decide +kernel
theorem d_Cmp_walk_122 : decode (mb M_Cmp_walk) 122 = .ok (.getfield 31, 3) := by decide +kernel
theorem d_Cmp_walk_125 : decode (mb M_Cmp_walk) 125 = .ok (.iload_n 1, 1) := by decide +kernel
theorem d_Cmp_walk_126 : decode (mb M_Cmp_walk) 126 = .ok (.iconst 1, 1) := by decide +kernel
theorem d_Cmp_walk_127 : decode (mb M_Cmp_walk) 127 = .ok (.iadd, 1) := by decide +kernel
theorem d_Cmp_walk_128 : decode (mb M_Cmp_walk) 128 = .ok (.aaload, 1) := by decide +kernel
theorem d_Cmp_walk_129 : decode (mb M_Cmp_walk) 129 = .ok (.iload_n 2, 1) := by decide +kernel
theorem d_Cmp_walk_130 : decode (mb M_Cmp_walk) 130 = .ok (.iaload, 1) := by decide +kernel
theorem d_Cmp_walk_131 : decode (mb M_Cmp_walk) 131 = .ok (.aload_n 0, 1) := by decide +kernel
theorem d_Cmp_walk_132 : decode (mb M_Cmp_walk) 132 = .ok (.getfield 31, 3) := by decide +kernel
theorem d_Cmp_walk_135 : decode (mb M_Cmp_walk) 135 = .ok (.iload_n 1, 1) := by decide +kernel
theorem d_Cmp_walk_136 : decode (mb M_Cmp_walk) 136 = .ok (.aaload, 1) := by decide +kernel
theorem d_Cmp_walk_137 : decode (mb M_Cmp_walk) 137 = .ok (.iload_n 2, 1) := by decide +kernel
theorem d_Cmp_walk_138 : decode (mb M_Cmp_walk) 138 = .ok (.iaload, 1) := by decide +kernel
theorem d_Cmp_walk_139 : decode (mb M_Cmp_walk) 139 = .ok (.if_icmp .lt 9, 3) := by decide +kernel
theorem d_Cmp_walk_142 : decode (mb M_Cmp_walk) 142 = .ok (.iinc 1 1, 3) := by decide +kernel
theorem d_Cmp_walk_145 : decode (mb M_Cmp_walk) 145 = .ok (.goto (-89), 3) := by decide +kernel
theorem d_Cmp_walk_148 : decode (mb M_Cmp_walk) 148 = .ok (.iinc 2 1, 3) := by decide +kernel
theorem d_Cmp_walk_151 : decode (mb M_Cmp_walk) 151 = .ok (.goto (-95), 3) := by decide +kernel
theorem d_Cmp_walk_154 : decode (mb M_Cmp_walk) 154 = .ok (.return_, 1) := by decide +kernel
theorem d_Cnf_init_0 : decode (mb M_Cnf_init) 0 = .ok (.aload_n 0, 1) := by decide +kernel
theorem d_Cnf_init_1 : decode (mb M_Cnf_init) 1 = .ok (.invokespecial 3, 3) := by decide +kernel
theorem d_Cnf_init_4 : decode (mb M_Cnf_init) 4 = .ok (.aload_n 0, 1) := by decide +kernel
theorem d_Cnf_init_5 : decode (mb M_Cnf_init) 5 = .ok (.iconst 3, 1) := by decide +kernel
theorem d_Cnf_init_6 : decode (mb M_Cnf_init) 6 = .ok (.newarray .int, 2) := by decide +kernel
theorem d_Cnf_init_8 : decode (mb M_Cnf_init) 8 = .ok (.putfield 9, 3) := by decide +kernel
theorem d_Cnf_init_11 : decode (mb M_Cnf_init) 11 = .ok (.aload_n 0, 1) := by decide +kernel
theorem d_Cnf_init_12 : decode (mb M_Cnf_init) 12 = .ok (.iconst 3, 1) := by decide +kernel
theorem d_Cnf_init_13 : decode (mb M_Cnf_init) 13 = .ok (.newarray .int, 2) := by decide +kernel
theorem d_Cnf_init_15 : decode (mb M_Cnf_init) 15 = .ok (.putfield 15, 3) := by decide +kernel
theorem d_Cnf_init_18 : decode (mb M_Cnf_init) 18 = .ok (.aload_n 0, 1) := by decide +kernel
theorem d_Cnf_init_19 : decode (mb M_Cnf_init) 19 = .ok (.iconst 0, 1) := by decide +kernel
theorem d_Cnf_init_20 : decode (mb M_Cnf_init) 20 = .ok (.putfield 18, 3) := by decide +kernel
theorem d_Cnf_init_23 : decode (mb M_Cnf_init) 23 = .ok (.aload_n 0, 1) := by decide +kernel
theorem d_Cnf_init_24 : decode (mb M_Cnf_init) 24 = .ok (.iconst 0, 1) := by decide +kernel
theorem d_Cnf_init_25 : decode (mb M_Cnf_init) 25 = .ok (.putfield 22, 3) := by decide +kernel
theorem d_Cnf_init_28 : decode (mb M_Cnf_init) 28 = .ok (.return_, 1) := by decide +kernel
theorem d_Cnf_pieceSize_0 : decode (mb M_Cnf_pieceSize) 0 = .ok (.iload_n 1, 1) := by decide +kernel
theorem d_Cnf_pieceSize_1 : decode (mb M_Cnf_pieceSize) 1 = .ok (.ifCond .lt 8, 3) := by decide +kernel
theorem d_Cnf_pieceSize_4 : decode (mb M_Cnf_pieceSize) 4 = .ok (.iload_n 1, 1) := by decide +kernel
theorem d_Cnf_pieceSize_5 : decode (mb M_Cnf_pieceSize) 5 = .ok (.iconst 2, 1) := by decide +kernel
theorem d_Cnf_pieceSize_6 : decode (mb M_Cnf_pieceSize) 6 = .ok (.if_icmp .le 7, 3) := by decide +kernel
theorem d_Cnf_pieceSize_9 : decode (mb M_Cnf_pieceSize) 9 = .ok (.iconst 0, 1) := by decide +kernel
theorem d_Cnf_pieceSize_10 : decode (mb M_Cnf_pieceSize) 10 = .ok (.goto 16, 3) := by decide +kernel
theorem d_Cnf_pieceSize_13 : decode (mb M_Cnf_pieceSize) 13 = .ok (.aload_n 0, 1) := by decide +kernel
theorem d_Cnf_pieceSize_14 : decode (mb M_Cnf_pieceSize) 14 = .ok (.getfield 15, 3) := by decide +kernel
theorem d_Cnf_pieceSize_17 : decode (mb M_Cnf_pieceSize) 17 = .ok (.iload_n 1, 1) := by decide +kernel
theorem d_Cnf_pieceSize_18 : decode (mb M_Cnf_pieceSize) 18 = .ok (.iaload, 1) := by decide +kernel
theorem d_Cnf_pieceSize_19 : decode (mb M_Cnf_pieceSize) 19 = .ok (.aload_n 0, 1) := by decide +kernel
theorem d_Cnf_pieceSize_20 : decode (mb M_Cnf_pieceSize) 20 = .ok (.getfield 9, 3) := by decide +kernel
theorem d_Cnf_pieceSize_23 : decode (mb M_Cnf_pieceSize) 23 = .ok (.iload_n 1, 1) := by decide +kernel
theorem d_Cnf_pieceSize_24 : decode (mb M_Cnf_pieceSize) 24 = .ok (.iaload, 1) := by decide +kernel
theorem d_Cnf_pieceSize_25 : decode (mb M_Cnf_pieceSize) 25 = .ok (.isub, 1) := by decide +kernel
theorem d_Cnf_pieceSize_26 : decode (mb M_Cnf_pieceSize) 26 = .ok (.ireturn, 1) := by decide +kernel
theorem d_Drf_authorOfPutIn_0 : decode (mb M_Drf_authorOfPutIn) 0 = .ok (.lload_n 2, 1) := by decide +kernel
theorem d_Drf_authorOfPutIn_1 : decode (mb M_Drf_authorOfPutIn) 1 = .ok (.invokestatic 242, 3) := by decide +kernel
theorem d_Drf_authorOfPutIn_4 : decode (mb M_Drf_authorOfPutIn) 4 = .ok (.invokestatic 246, 3) := by decide +kernel
theorem d_Drf_authorOfPutIn_7 : decode (mb M_Drf_authorOfPutIn) 7 = .ok (.iconst 4, 1) := by decide +kernel
theorem d_Drf_authorOfPutIn_8 : decode (mb M_Drf_authorOfPutIn) 8 = .ok (.if_icmp .lt 52, 3) := by decide +kernel
theorem d_Drf_authorOfPutIn_11 : decode (mb M_Drf_authorOfPutIn) 11 = .ok (.iconst 0, 1) := by decide +kernel
theorem d_Drf_authorOfPutIn_12 : decode (mb M_Drf_authorOfPutIn) 12 = .ok (.istore 4, 2) := by decide +kernel
theorem d_Drf_authorOfPutIn_14 : decode (mb M_Drf_authorOfPutIn) 14 = .ok (.iload 4, 2) := by decide +kernel
theorem d_Drf_authorOfPutIn_16 : decode (mb M_Drf_authorOfPutIn) 16 = .ok (.aload_n 0, 1) := by decide +kernel
theorem d_Drf_authorOfPutIn_17 : decode (mb M_Drf_authorOfPutIn) 17 = .ok (.getfield 44, 3) := by decide +kernel
theorem d_Drf_authorOfPutIn_20 : decode (mb M_Drf_authorOfPutIn) 20 = .ok (.invokevirtual 88, 3) := by decide +kernel
theorem d_Drf_authorOfPutIn_23 : decode (mb M_Drf_authorOfPutIn) 23 = .ok (.if_icmp .ge 37, 3) := by decide +kernel
theorem d_Drf_authorOfPutIn_26 : decode (mb M_Drf_authorOfPutIn) 26 = .ok (.aload_n 0, 1) := by decide +kernel
theorem d_Drf_authorOfPutIn_27 : decode (mb M_Drf_authorOfPutIn) 27 = .ok (.getfield 44, 3) := by decide +kernel
theorem d_Drf_authorOfPutIn_30 : decode (mb M_Drf_authorOfPutIn) 30 = .ok (.iload 4, 2) := by decide +kernel
theorem d_Drf_authorOfPutIn_32 : decode (mb M_Drf_authorOfPutIn) 32 = .ok (.invokevirtual 226, 3) := by decide +kernel
theorem d_Drf_authorOfPutIn_35 : decode (mb M_Drf_authorOfPutIn) 35 = .ok (.lload_n 2, 1) := by decide +kernel
theorem d_Drf_authorOfPutIn_36 : decode (mb M_Drf_authorOfPutIn) 36 = .ok (.lcmp, 1) := by decide +kernel
theorem d_Drf_authorOfPutIn_37 : decode (mb M_Drf_authorOfPutIn) 37 = .ok (.ifCond .ne 17, 3) := by decide +kernel
theorem d_Drf_authorOfPutIn_40 : decode (mb M_Drf_authorOfPutIn) 40 = .ok (.aload_n 1, 1) := by decide +kernel
theorem d_Drf_authorOfPutIn_41 : decode (mb M_Drf_authorOfPutIn) 41 = .ok (.aload_n 0, 1) := by decide +kernel
theorem d_Drf_authorOfPutIn_42 : decode (mb M_Drf_authorOfPutIn) 42 = .ok (.getfield 44, 3) := by decide +kernel
theorem d_Drf_authorOfPutIn_45 : decode (mb M_Drf_authorOfPutIn) 45 = .ok (.iload 4, 2) := by decide +kernel
theorem d_Drf_authorOfPutIn_47 : decode (mb M_Drf_authorOfPutIn) 47 = .ok (.invokevirtual 223, 3) := by decide +kernel
theorem d_Drf_authorOfPutIn_50 : decode (mb M_Drf_authorOfPutIn) 50 = .ok (.invokevirtual 250, 3) := by decide +kernel
theorem d_Drf_authorOfPutIn_53 : decode (mb M_Drf_authorOfPutIn) 53 = .ok (.ireturn, 1) := by decide +kernel
theorem d_Drf_authorOfPutIn_54 : decode (mb M_Drf_authorOfPutIn) 54 = .ok (.iinc 4 1, 3) := by decide +kernel
theorem d_Drf_authorOfPutIn_57 : decode (mb M_Drf_authorOfPutIn) 57 = .ok (.goto (-43), 3) := by decide +kernel
theorem d_Drf_authorOfPutIn_60 : decode (mb M_Drf_authorOfPutIn) 60 = .ok (.aload_n 0, 1) := by decide +kernel
theorem d_Drf_authorOfPutIn_61 : decode (mb M_Drf_authorOfPutIn) 61 = .ok (.getfield 60, 3) := by decide +kernel
theorem d_Drf_authorOfPutIn_64 : decode (mb M_Drf_authorOfPutIn) 64 = .ok (.ireturn, 1) := by decide +kernel
theorem d_Drf_begun_0 : decode (mb M_Drf_begun) 0 = .ok (.aload_n 0, 1) := by decide +kernel
theorem d_Drf_begun_1 : decode (mb M_Drf_begun) 1 = .ok (.aload_n 1, 1) := by decide +kernel
theorem d_Drf_begun_2 : decode (mb M_Drf_begun) 2 = .ok (.putfield 44, 3) := by decide +kernel
theorem d_Drf_begun_5 : decode (mb M_Drf_begun) 5 = .ok (.aload_n 0, 1) := by decide +kernel
theorem d_Drf_begun_6 : decode (mb M_Drf_begun) 6 = .ok (.aload_n 2, 1) := by decide +kernel
theorem d_Drf_begun_7 : decode (mb M_Drf_begun) 7 = .ok (.putfield 47, 3) := by decide +kernel
theorem d_Drf_begun_10 : decode (mb M_Drf_begun) 10 = .ok (.aload_n 0, 1) := by decide +kernel
theorem d_Drf_begun_11 : decode (mb M_Drf_begun) 11 = .ok (.aload_n 3, 1) := by decide +kernel
theorem d_Drf_begun_12 : decode (mb M_Drf_begun) 12 = .ok (.putfield 50, 3) := by decide +kernel
theorem d_Drf_begun_15 : decode (mb M_Drf_begun) 15 = .ok (.aload_n 0, 1) := by decide +kernel
theorem d_Drf_begun_16 : decode (mb M_Drf_begun) 16 = .ok (.getfield 21, 3) := by decide +kernel
theorem d_Drf_begun_19 : decode (mb M_Drf_begun) 19 = .ok (.invokevirtual 78, 3) := by decide +kernel
theorem d_Drf_begun_22 : decode (mb M_Drf_begun) 22 = .ok (.aload_n 0, 1) := by decide +kernel
theorem d_Drf_begun_23 : decode (mb M_Drf_begun) 23 = .ok (.iconst 0, 1) := by decide +kernel
theorem d_Drf_begun_24 : decode (mb M_Drf_begun) 24 = .ok (.putfield 53, 3) := by decide +kernel
theorem d_Drf_begun_27 : decode (mb M_Drf_begun) 27 = .ok (.aload_n 0, 1) := by decide +kernel
theorem d_Drf_begun_28 : decode (mb M_Drf_begun) 28 = .ok (.iconst 0, 1) := by decide +kernel
theorem d_Drf_begun_29 : decode (mb M_Drf_begun) 29 = .ok (.putfield 57, 3) := by decide +kernel
theorem d_Drf_begun_32 : decode (mb M_Drf_begun) 32 = .ok (.return_, 1) := by decide +kernel
theorem d_Drf_conflictCount_0 : decode (mb M_Drf_conflictCount) 0 = .ok (.aload_n 0, 1) := by decide +kernel
theorem d_Drf_conflictCount_1 : decode (mb M_Drf_conflictCount) 1 = .ok (.getfield 53, 3) := by decide +kernel
theorem d_Drf_conflictCount_4 : decode (mb M_Drf_conflictCount) 4 = .ok (.ireturn, 1) := by decide +kernel
theorem d_Drf_cut_0 : decode (mb M_Drf_cut) 0 = .ok (.aload_n 0, 1) := by decide +kernel
theorem d_Drf_cut_1 : decode (mb M_Drf_cut) 1 = .ok (.getfield 27, 3) := by decide +kernel
theorem d_Drf_cut_4 : decode (mb M_Drf_cut) 4 = .ok (.aload_n 0, 1) := by decide +kernel
theorem d_Drf_cut_5 : decode (mb M_Drf_cut) 5 = .ok (.getfield 53, 3) := by decide +kernel
theorem d_Drf_cut_8 : decode (mb M_Drf_cut) 8 = .ok (.bipush 20, 2) := by decide +kernel
theorem d_Drf_cut_10 : decode (mb M_Drf_cut) 10 = .ok (.invokestatic 108, 3) := by decide +kernel
theorem d_Drf_cut_13 : decode (mb M_Drf_cut) 13 = .ok (.aaload, 1) := by decide +kernel
theorem d_Drf_cut_14 : decode (mb M_Drf_cut) 14 = .ok (.astore 7, 2) := by decide +kernel
theorem d_Drf_cut_16 : decode (mb M_Drf_cut) 16 = .ok (.aload 7, 2) := by decide +kernel
theorem d_Drf_cut_18 : decode (mb M_Drf_cut) 18 = .ok (.getfield 114, 3) := by decide +kernel
theorem d_Drf_cut_21 : decode (mb M_Drf_cut) 21 = .ok (.iconst 0, 1) := by decide +kernel
theorem d_Drf_cut_22 : decode (mb M_Drf_cut) 22 = .ok (.iload_n 1, 1) := by decide +kernel
theorem d_Drf_cut_23 : decode (mb M_Drf_cut) 23 = .ok (.iastore, 1) := by decide +kernel
theorem d_Drf_cut_24 : decode (mb M_Drf_cut) 24 = .ok (.aload 7, 2) := by decide +kernel
theorem d_Drf_cut_26 : decode (mb M_Drf_cut) 26 = .ok (.getfield 118, 3) := by decide +kernel
theorem d_Drf_cut_29 : decode (mb M_Drf_cut) 29 = .ok (.iconst 0, 1) := by decide +kernel
theorem d_Drf_cut_30 : decode (mb M_Drf_cut) 30 = .ok (.iload_n 2, 1) := by decide +kernel
theorem d_Drf_cut_31 : decode (mb M_Drf_cut) 31 = .ok (.iastore, 1) := by decide +kernel
theorem d_Drf_cut_32 : decode (mb M_Drf_cut) 32 = .ok (.aload 7, 2) := by decide +kernel
theorem d_Drf_cut_34 : decode (mb M_Drf_cut) 34 = .ok (.getfield 114, 3) := by decide +kernel
theorem d_Drf_cut_37 : decode (mb M_Drf_cut) 37 = .ok (.iconst 1, 1) := by decide +kernel
theorem d_Drf_cut_38 : decode (mb M_Drf_cut) 38 = .ok (.iload_n 3, 1) := by decide +kernel
theorem d_Drf_cut_39 : decode (mb M_Drf_cut) 39 = .ok (.iastore, 1) := by decide +kernel
theorem d_Drf_cut_40 : decode (mb M_Drf_cut) 40 = .ok (.aload 7, 2) := by decide +kernel
theorem d_Drf_cut_42 : decode (mb M_Drf_cut) 42 = .ok (.getfield 118, 3) := by decide +kernel
theorem d_Drf_cut_45 : decode (mb M_Drf_cut) 45 = .ok (.iconst 1, 1) := by decide +kernel
theorem d_Drf_cut_46 : decode (mb M_Drf_cut) 46 = .ok (.iload 4, 2) := by decide +kernel
theorem d_Drf_cut_48 : decode (mb M_Drf_cut) 48 = .ok (.iastore, 1) := by decide +kernel
theorem d_Drf_cut_49 : decode (mb M_Drf_cut) 49 = .ok (.aload 7, 2) := by decide +kernel
theorem d_Drf_cut_51 : decode (mb M_Drf_cut) 51 = .ok (.getfield 114, 3) := by decide +kernel
theorem d_Drf_cut_54 : decode (mb M_Drf_cut) 54 = .ok (.iconst 2, 1) := by decide +kernel
theorem d_Drf_cut_55 : decode (mb M_Drf_cut) 55 = .ok (.iload 5, 2) := by decide +kernel
theorem d_Drf_cut_57 : decode (mb M_Drf_cut) 57 = .ok (.iastore, 1) := by decide +kernel
theorem d_Drf_cut_58 : decode (mb M_Drf_cut) 58 = .ok (.aload 7, 2) := by decide +kernel
theorem d_Drf_cut_60 : decode (mb M_Drf_cut) 60 = .ok (.getfield 118, 3) := by decide +kernel
theorem d_Drf_cut_63 : decode (mb M_Drf_cut) 63 = .ok (.iconst 2, 1) := by decide +kernel
theorem d_Drf_cut_64 : decode (mb M_Drf_cut) 64 = .ok (.iload 6, 2) := by decide +kernel
theorem d_Drf_cut_66 : decode (mb M_Drf_cut) 66 = .ok (.iastore, 1) := by decide +kernel
theorem d_Drf_cut_67 : decode (mb M_Drf_cut) 67 = .ok (.aload 7, 2) := by decide +kernel
theorem d_Drf_cut_69 : decode (mb M_Drf_cut) 69 = .ok (.aload_n 0, 1) := by decide +kernel
theorem d_Drf_cut_70 : decode (mb M_Drf_cut) 70 = .ok (.getfield 12, 3) := by decide +kernel
theorem d_Drf_cut_73 : decode (mb M_Drf_cut) 73 = .ok (.invokevirtual 88, 3) := by decide +kernel
theorem d_Drf_cut_76 : decode (mb M_Drf_cut) 76 = .ok (.putfield 121, 3) := by decide +kernel
theorem d_Drf_cut_79 : decode (mb M_Drf_cut) 79 = .ok (.aload 7, 2) := by decide +kernel
theorem d_Drf_cut_81 : decode (mb M_Drf_cut) 81 = .ok (.iconst 0, 1) := by decide +kernel
theorem d_Drf_cut_82 : decode (mb M_Drf_cut) 82 = .ok (.putfield 124, 3) := by decide +kernel
theorem d_Drf_cut_85 : decode (mb M_Drf_cut) 85 = .ok (.aload 7, 2) := by decide +kernel
theorem d_Drf_cut_87 : decode (mb M_Drf_cut) 87 = .ok (.areturn, 1) := by decide +kernel
theorem d_Drf_hasEdits_0 : decode (mb M_Drf_hasEdits) 0 = .ok (.aload_n 0, 1) := by decide +kernel
theorem d_Drf_hasEdits_1 : decode (mb M_Drf_hasEdits) 1 = .ok (.getfield 21, 3) := by decide +kernel
theorem d_Drf_hasEdits_4 : decode (mb M_Drf_hasEdits) 4 = .ok (.invokevirtual 211, 3) := by decide +kernel
theorem d_Drf_hasEdits_7 : decode (mb M_Drf_hasEdits) 7 = .ok (.ifCond .le 7, 3) := by decide +kernel
theorem d_Drf_hasEdits_10 : decode (mb M_Drf_hasEdits) 10 = .ok (.iconst 1, 1) := by decide +kernel
theorem d_Drf_hasEdits_11 : decode (mb M_Drf_hasEdits) 11 = .ok (.goto 4, 3) := by decide +kernel
theorem d_Drf_hasEdits_14 : decode (mb M_Drf_hasEdits) 14 = .ok (.iconst 0, 1) := by decide +kernel
theorem d_Drf_hasEdits_15 : decode (mb M_Drf_hasEdits) 15 = .ok (.ireturn, 1) := by decide +kernel
theorem d_Drf_init_0 : decode (mb M_Drf_init) 0 = .ok (.aload_n 0, 1) := by decide +kernel
theorem d_Drf_init_1 : decode (mb M_Drf_init) 1 = .ok (.invokespecial 3, 3) := by decide +kernel
theorem d_Drf_init_4 : decode (mb M_Drf_init) 4 = .ok (.aload_n 0, 1) := by decide +kernel
theorem d_Drf_init_5 : decode (mb M_Drf_init) 5 = .ok (.new 9, 3) := by decide +kernel
theorem d_Drf_init_8 : decode (mb M_Drf_init) 8 = .ok (.dup, 1) := by decide +kernel
theorem d_Drf_init_9 : decode (mb M_Drf_init) 9 = .ok (.invokespecial 11, 3) := by decide +kernel
theorem d_Drf_init_12 : decode (mb M_Drf_init) 12 = .ok (.putfield 12, 3) := by decide +kernel
theorem d_Drf_init_15 : decode (mb M_Drf_init) 15 = .ok (.aload_n 0, 1) := by decide +kernel
theorem d_Drf_init_16 : decode (mb M_Drf_init) 16 = .ok (.new 18, 3) := by decide +kernel
theorem d_Drf_init_19 : decode (mb M_Drf_init) 19 = .ok (.dup, 1) := by decide +kernel
theorem d_Drf_init_20 : decode (mb M_Drf_init) 20 = .ok (.invokespecial 20, 3) := by decide +kernel
theorem d_Drf_init_23 : decode (mb M_Drf_init) 23 = .ok (.putfield 21, 3) := by decide +kernel
theorem d_Drf_init_26 : decode (mb M_Drf_init) 26 = .ok (.aload_n 0, 1) := by decide +kernel
theorem d_Drf_init_27 : decode (mb M_Drf_init) 27 = .ok (.bipush 21, 2) := by decide +kernel
theorem d_Drf_init_29 : decode (mb M_Drf_init) 29 = .ok (.anewarray 25, 3) := by decide +kernel
theorem d_Drf_init_32 : decode (mb M_Drf_init) 32 = .ok (.putfield 27, 3) := by decide +kernel
theorem d_Drf_init_35 : decode (mb M_Drf_init) 35 = .ok (.aload_n 0, 1) := by decide +kernel
theorem d_Drf_init_36 : decode (mb M_Drf_init) 36 = .ok (.new 31, 3) := by decide +kernel
theorem d_Drf_init_39 : decode (mb M_Drf_init) 39 = .ok (.dup, 1) := by decide +kernel
theorem d_Drf_init_40 : decode (mb M_Drf_init) 40 = .ok (.invokespecial 33, 3) := by decide +kernel
theorem d_Drf_init_43 : decode (mb M_Drf_init) 43 = .ok (.putfield 34, 3) := by decide +kernel
theorem d_Drf_init_46 : decode (mb M_Drf_init) 46 = .ok (.aload_n 0, 1) := by decide +kernel
theorem d_Drf_init_47 : decode (mb M_Drf_init) 47 = .ok (.new 31, 3) := by decide +kernel
theorem d_Drf_init_50 : decode (mb M_Drf_init) 50 = .ok (.dup, 1) := by decide +kernel
theorem d_Drf_init_51 : decode (mb M_Drf_init) 51 = .ok (.invokespecial 33, 3) := by decide +kernel
theorem d_Drf_init_54 : decode (mb M_Drf_init) 54 = .ok (.putfield 38, 3) := by decide +kernel
theorem d_Drf_init_57 : decode (mb M_Drf_init) 57 = .ok (.aload_n 0, 1) := by decide +kernel
theorem d_Drf_init_58 : decode (mb M_Drf_init) 58 = .ok (.new 9, 3) := by decide +kernel
theorem d_Drf_init_61 : decode (mb M_Drf_init) 61 = .ok (.dup, 1) := by decide +kernel
theorem d_Drf_init_62 : decode (mb M_Drf_init) 62 = .ok (.invokespecial 11, 3) := by decide +kernel
theorem d_Drf_init_65 : decode (mb M_Drf_init) 65 = .ok (.putfield 41, 3) := by decide +kernel
theorem d_Drf_init_68 : decode (mb M_Drf_init) 68 = .ok (.aload_n 0, 1) := by decide +kernel
theorem d_Drf_init_69 : decode (mb M_Drf_init) 69 = .ok (.aload_n 0, 1) := by decide +kernel
theorem d_Drf_init_70 : decode (mb M_Drf_init) 70 = .ok (.getfield 41, 3) := by decide +kernel
theorem d_Drf_init_73 : decode (mb M_Drf_init) 73 = .ok (.putfield 44, 3) := by decide +kernel
theorem d_Drf_init_76 : decode (mb M_Drf_init) 76 = .ok (.aload_n 0, 1) := by decide +kernel
theorem d_Drf_init_77 : decode (mb M_Drf_init) 77 = .ok (.aload_n 0, 1) := by decide +kernel
theorem d_Drf_init_78 : decode (mb M_Drf_init) 78 = .ok (.getfield 41, 3) := by decide +kernel
theorem d_Drf_init_81 : decode (mb M_Drf_init) 81 = .ok (.putfield 47, 3) := by decide +kernel
theorem d_Drf_init_84 : decode (mb M_Drf_init) 84 = .ok (.aload_n 0, 1) := by decide +kernel
theorem d_Drf_init_85 : decode (mb M_Drf_init) 85 = .ok (.aload_n 0, 1) := by decide +kernel
theorem d_Drf_init_86 : decode (mb M_Drf_init) 86 = .ok (.getfield 41, 3) := by decide +kernel
theorem d_Drf_init_89 : decode (mb M_Drf_init) 89 = .ok (.putfield 50, 3) := by decide +kernel
theorem d_Drf_init_92 : decode (mb M_Drf_init) 92 = .ok (.aload_n 0, 1) := by decide +kernel
theorem d_Drf_init_93 : decode (mb M_Drf_init) 93 = .ok (.iconst 0, 1) := by decide +kernel
theorem d_Drf_init_94 : decode (mb M_Drf_init) 94 = .ok (.putfield 53, 3) := by decide +kernel
theorem d_Drf_init_97 : decode (mb M_Drf_init) 97 = .ok (.aload_n 0, 1) := by decide +kernel
theorem d_Drf_init_98 : decode (mb M_Drf_init) 98 = .ok (.iconst 0, 1) := by decide +kernel
theorem d_Drf_init_99 : decode (mb M_Drf_init) 99 = .ok (.putfield 57, 3) := by decide +kernel
theorem d_Drf_init_102 : decode (mb M_Drf_init) 102 = .ok (.aload_n 0, 1) := by decide +kernel
theorem d_Drf_init_103 : decode (mb M_Drf_init) 103 = .ok (.iconst (-1), 1) := by decide +kernel
theorem d_Drf_init_104 : decode (mb M_Drf_init) 104 = .ok (.putfield 60, 3) := by decide +kernel
theorem d_Drf_init_107 : decode (mb M_Drf_init) 107 = .ok (.aload_n 0, 1) := by decide +kernel
theorem d_Drf_init_108 : decode (mb M_Drf_init) 108 = .ok (.iconst (-1), 1) := by decide +kernel
theorem d_Drf_init_109 : decode (mb M_Drf_init) 109 = .ok (.putfield 63, 3) := by decide +kernel
theorem d_Drf_init_112 : decode (mb M_Drf_init) 112 = .ok (.aload_n 0, 1) := by decide +kernel
theorem d_Drf_init_113 : decode (mb M_Drf_init) 113 = .ok (.iconst (-1), 1) := by decide +kernel
theorem d_Drf_init_114 : decode (mb M_Drf_init) 114 = .ok (.putfield 66, 3) := by decide +kernel
theorem d_Drf_init_117 : decode (mb M_Drf_init) 117 = .ok (.iconst 0, 1) := by decide +kernel
theorem d_Drf_init_118 : decode (mb M_Drf_init) 118 = .ok (.istore_n 1, 1) := by decide +kernel
theorem d_Drf_init_119 : decode (mb M_Drf_init) 119 = .ok (.iload_n 1, 1) := by decide +kernel
theorem d_Drf_init_120 : decode (mb M_Drf_init) 120 = .ok (.bipush 21, 2) := by decide +kernel
theorem d_Drf_init_122 : decode (mb M_Drf_init) 122 = .ok (.if_icmp .ge 22, 3) := by decide +kernel
theorem d_Drf_init_125 : decode (mb M_Drf_init) 125 = .ok (.aload_n 0, 1) := by decide +kernel
theorem d_Drf_init_126 : decode (mb M_Drf_init) 126 = .ok (.getfield 27, 3) := by decide +kernel
theorem d_Drf_init_129 : decode (mb M_Drf_init) 129 = .ok (.iload_n 1, 1) := by decide +kernel
theorem d_Drf_init_130 : decode (mb M_Drf_init) 130 = .ok (.new 25, 3) := by decide +kernel
theorem d_Drf_init_133 : decode (mb M_Drf_init) 133 = .ok (.dup, 1) := by decide +kernel
theorem d_Drf_init_134 : decode (mb M_Drf_init) 134 = .ok (.invokespecial 69, 3) := by decide +kernel
theorem d_Drf_init_137 : decode (mb M_Drf_init) 137 = .ok (.aastore, 1) := by decide +kernel
theorem d_Drf_init_138 : decode (mb M_Drf_init) 138 = .ok (.iinc 1 1, 3) := by decide +kernel
theorem d_Drf_init_141 : decode (mb M_Drf_init) 141 = .ok (.goto (-22), 3) := by decide +kernel
theorem d_Drf_init_144 : decode (mb M_Drf_init) 144 = .ok (.return_, 1) := by decide +kernel
theorem d_Drf_isAlike_0 : decode (mb M_Drf_isAlike) 0 = .ok (.aload_n 0, 1) := by decide +kernel
theorem d_Drf_isAlike_1 : decode (mb M_Drf_isAlike) 1 = .ok (.iload_n 2, 1) := by decide +kernel
theorem d_Drf_isAlike_2 : decode (mb M_Drf_isAlike) 2 = .ok (.invokevirtual 136, 3) := by decide +kernel
theorem d_Drf_isAlike_5 : decode (mb M_Drf_isAlike) 5 = .ok (.aload_n 1, 1) := by decide +kernel
theorem d_Drf_isAlike_6 : decode (mb M_Drf_isAlike) 6 = .ok (.getfield 114, 3) := by decide +kernel
theorem d_Drf_isAlike_9 : decode (mb M_Drf_isAlike) 9 = .ok (.iload_n 2, 1) := by decide +kernel
theorem d_Drf_isAlike_10 : decode (mb M_Drf_isAlike) 10 = .ok (.iaload, 1) := by decide +kernel
theorem d_Drf_isAlike_11 : decode (mb M_Drf_isAlike) 11 = .ok (.aload_n 1, 1) := by decide +kernel
theorem d_Drf_isAlike_12 : decode (mb M_Drf_isAlike) 12 = .ok (.getfield 118, 3) := by decide +kernel
theorem d_Drf_isAlike_15 : decode (mb M_Drf_isAlike) 15 = .ok (.iload_n 2, 1) := by decide +kernel
theorem d_Drf_isAlike_16 : decode (mb M_Drf_isAlike) 16 = .ok (.iaload, 1) := by decide +kernel
theorem d_Drf_isAlike_17 : decode (mb M_Drf_isAlike) 17 = .ok (.aload_n 0, 1) := by decide +kernel
theorem d_Drf_isAlike_18 : decode (mb M_Drf_isAlike) 18 = .ok (.iload_n 3, 1) := by decide +kernel
theorem d_Drf_isAlike_19 : decode (mb M_Drf_isAlike) 19 = .ok (.invokevirtual 136, 3) := by decide +kernel
theorem d_Drf_isAlike_22 : decode (mb M_Drf_isAlike) 22 = .ok (.aload_n 1, 1) := by decide +kernel
theorem d_Drf_isAlike_23 : decode (mb M_Drf_isAlike) 23 = .ok (.getfield 114, 3) := by decide +kernel
theorem d_Drf_isAlike_26 : decode (mb M_Drf_isAlike) 26 = .ok (.iload_n 3, 1) := by decide +kernel
theorem d_Drf_isAlike_27 : decode (mb M_Drf_isAlike) 27 = .ok (.iaload, 1) := by decide +kernel
theorem d_Drf_isAlike_28 : decode (mb M_Drf_isAlike) 28 = .ok (.aload_n 1, 1) := by decide +kernel
theorem d_Drf_isAlike_29 : decode (mb M_Drf_isAlike) 29 = .ok (.getfield 118, 3) := by decide +kernel
theorem d_Drf_isAlike_32 : decode (mb M_Drf_isAlike) 32 = .ok (.iload_n 3, 1) := by decide +kernel
theorem d_Drf_isAlike_33 : decode (mb M_Drf_isAlike) 33 = .ok (.iaload, 1) := by decide +kernel
theorem d_Drf_isAlike_34 : decode (mb M_Drf_isAlike) 34 = .ok (.invokevirtual 140, 3) := by decide +kernel
theorem d_Drf_isAlike_37 : decode (mb M_Drf_isAlike) 37 = .ok (.ireturn, 1) := by decide +kernel
theorem d_Drf_isSettled_0 : decode (mb M_Drf_isSettled) 0 = .ok (.iload_n 1, 1) := by decide +kernel
theorem d_Drf_isSettled_1 : decode (mb M_Drf_isSettled) 1 = .ok (.ifCond .lt 23, 3) := by decide +kernel
theorem d_Drf_isSettled_4 : decode (mb M_Drf_isSettled) 4 = .ok (.iload_n 1, 1) := by decide +kernel
theorem d_Drf_isSettled_5 : decode (mb M_Drf_isSettled) 5 = .ok (.aload_n 0, 1) := by decide +kernel
theorem d_Drf_isSettled_6 : decode (mb M_Drf_isSettled) 6 = .ok (.getfield 53, 3) := by decide +kernel
theorem d_Drf_isSettled_9 : decode (mb M_Drf_isSettled) 9 = .ok (.if_icmp .ge 15, 3) := by decide +kernel
theorem d_Drf_isSettled_12 : decode (mb M_Drf_isSettled) 12 = .ok (.aload_n 0, 1) := by decide +kernel
theorem d_Drf_isSettled_13 : decode (mb M_Drf_isSettled) 13 = .ok (.getfield 27, 3) := by decide +kernel
theorem d_Drf_isSettled_16 : decode (mb M_Drf_isSettled) 16 = .ok (.iload_n 1, 1) := by decide +kernel
theorem d_Drf_isSettled_17 : decode (mb M_Drf_isSettled) 17 = .ok (.aaload, 1) := by decide +kernel
theorem d_Drf_isSettled_18 : decode (mb M_Drf_isSettled) 18 = .ok (.getfield 124, 3) := by decide +kernel
theorem d_Drf_isSettled_21 : decode (mb M_Drf_isSettled) 21 = .ok (.ifCond .eq 7, 3) := by decide +kernel
theorem d_Drf_isSettled_24 : decode (mb M_Drf_isSettled) 24 = .ok (.iconst 1, 1) := by decide +kernel
theorem d_Drf_isSettled_25 : decode (mb M_Drf_isSettled) 25 = .ok (.goto 4, 3) := by decide +kernel
theorem d_Drf_isSettled_28 : decode (mb M_Drf_isSettled) 28 = .ok (.iconst 0, 1) := by decide +kernel
theorem d_Drf_isSettled_29 : decode (mb M_Drf_isSettled) 29 = .ok (.ireturn, 1) := by decide +kernel
theorem d_Drf_linesPut_0 : decode (mb M_Drf_linesPut) 0 = .ok (.iload_n 1, 1) := by decide +kernel
theorem d_Drf_linesPut_1 : decode (mb M_Drf_linesPut) 1 = .ok (.ifCond .lt 11, 3) := by decide +kernel
theorem d_Drf_linesPut_4 : decode (mb M_Drf_linesPut) 4 = .ok (.iload_n 1, 1) := by decide +kernel
theorem d_Drf_linesPut_5 : decode (mb M_Drf_linesPut) 5 = .ok (.aload_n 0, 1) := by decide +kernel
theorem d_Drf_linesPut_6 : decode (mb M_Drf_linesPut) 6 = .ok (.getfield 53, 3) := by decide +kernel
theorem d_Drf_linesPut_9 : decode (mb M_Drf_linesPut) 9 = .ok (.if_icmp .lt 5, 3) := by decide +kernel
theorem d_Drf_linesPut_12 : decode (mb M_Drf_linesPut) 12 = .ok (.iconst 0, 1) := by decide +kernel
theorem d_Drf_linesPut_13 : decode (mb M_Drf_linesPut) 13 = .ok (.ireturn, 1) := by decide +kernel
theorem d_Drf_linesPut_14 : decode (mb M_Drf_linesPut) 14 = .ok (.aload_n 0, 1) := by decide +kernel
theorem d_Drf_linesPut_15 : decode (mb M_Drf_linesPut) 15 = .ok (.getfield 27, 3) := by decide +kernel
theorem d_Drf_linesPut_18 : decode (mb M_Drf_linesPut) 18 = .ok (.iload_n 1, 1) := by decide +kernel
theorem d_Drf_linesPut_19 : decode (mb M_Drf_linesPut) 19 = .ok (.aaload, 1) := by decide +kernel
theorem d_Drf_linesPut_20 : decode (mb M_Drf_linesPut) 20 = .ok (.astore_n 3, 1) := by decide +kernel
theorem d_Drf_linesPut_21 : decode (mb M_Drf_linesPut) 21 = .ok (.iload_n 2, 1) := by decide +kernel
theorem d_Drf_linesPut_22 : decode (mb M_Drf_linesPut) 22 = .ok (.iconst 3, 1) := by decide +kernel
theorem d_Drf_linesPut_23 : decode (mb M_Drf_linesPut) 23 = .ok (.if_icmp .eq 8, 3) := by decide +kernel
theorem d_Drf_linesPut_26 : decode (mb M_Drf_linesPut) 26 = .ok (.iload_n 2, 1) := by decide +kernel
theorem d_Drf_linesPut_27 : decode (mb M_Drf_linesPut) 27 = .ok (.iconst 4, 1) := by decide +kernel
theorem d_Drf_linesPut_28 : decode (mb M_Drf_linesPut) 28 = .ok (.if_icmp .ne 15, 3) := by decide +kernel
theorem d_Drf_linesPut_31 : decode (mb M_Drf_linesPut) 31 = .ok (.aload_n 3, 1) := by decide +kernel
theorem d_Drf_linesPut_32 : decode (mb M_Drf_linesPut) 32 = .ok (.iconst 0, 1) := by decide +kernel
theorem d_Drf_linesPut_33 : decode (mb M_Drf_linesPut) 33 = .ok (.invokevirtual 144, 3) := by decide +kernel
theorem d_Drf_linesPut_36 : decode (mb M_Drf_linesPut) 36 = .ok (.aload_n 3, 1) := by decide +kernel
theorem d_Drf_linesPut_37 : decode (mb M_Drf_linesPut) 37 = .ok (.iconst 1, 1) := by decide +kernel
theorem d_Drf_linesPut_38 : decode (mb M_Drf_linesPut) 38 = .ok (.invokevirtual 144, 3) := by decide +kernel
theorem d_Drf_linesPut_41 : decode (mb M_Drf_linesPut) 41 = .ok (.iadd, 1) := by decide +kernel
theorem d_Drf_linesPut_42 : decode (mb M_Drf_linesPut) 42 = .ok (.ireturn, 1) := by decide +kernel
theorem d_Drf_linesPut_43 : decode (mb M_Drf_linesPut) 43 = .ok (.aload_n 3, 1) := by decide +kernel
theorem d_Drf_linesPut_44 : decode (mb M_Drf_linesPut) 44 = .ok (.iload_n 2, 1) := by decide +kernel
theorem d_Drf_linesPut_45 : decode (mb M_Drf_linesPut) 45 = .ok (.invokevirtual 144, 3) := by decide +kernel
theorem d_Drf_linesPut_48 : decode (mb M_Drf_linesPut) 48 = .ok (.ireturn, 1) := by decide +kernel
theorem d_Drf_make_0 : decode (mb M_Drf_make) 0 = .ok (.aload_n 1, 1) := by decide +kernel
theorem d_Drf_make_1 : decode (mb M_Drf_make) 1 = .ok (.getfield 157, 3) := by decide +kernel
theorem d_Drf_make_4 : decode (mb M_Drf_make) 4 = .ok (.aload_n 0, 1) := by decide +kernel
theorem d_Drf_make_5 : decode (mb M_Drf_make) 5 = .ok (.getfield 12, 3) := by decide +kernel
theorem d_Drf_make_8 : decode (mb M_Drf_make) 8 = .ok (.invokevirtual 74, 3) := by decide +kernel
theorem d_Drf_make_11 : decode (mb M_Drf_make) 11 = .ok (.aload_n 0, 1) := by decide +kernel
theorem d_Drf_make_12 : decode (mb M_Drf_make) 12 = .ok (.getfield 21, 3) := by decide +kernel
theorem d_Drf_make_15 : decode (mb M_Drf_make) 15 = .ok (.aload_n 1, 1) := by decide +kernel
theorem d_Drf_make_16 : decode (mb M_Drf_make) 16 = .ok (.invokevirtual 162, 3) := by decide +kernel
theorem d_Drf_make_19 : decode (mb M_Drf_make) 19 = .ok (.pop, 1) := by decide +kernel
theorem d_Drf_make_20 : decode (mb M_Drf_make) 20 = .ok (.aload_n 0, 1) := by decide +kernel
theorem d_Drf_make_21 : decode (mb M_Drf_make) 21 = .ok (.aload_n 1, 1) := by decide +kernel
theorem d_Drf_make_22 : decode (mb M_Drf_make) 22 = .ok (.invokevirtual 166, 3) := by decide +kernel
theorem d_Drf_make_25 : decode (mb M_Drf_make) 25 = .ok (.ireturn, 1) := by decide +kernel
theorem d_Drf_namePutIn_0 : decode (mb M_Drf_namePutIn) 0 = .ok (.iconst 0, 1) := by decide +kernel
theorem d_Drf_namePutIn_1 : decode (mb M_Drf_namePutIn) 1 = .ok (.istore_n 2, 1) := by decide +kernel
theorem d_Drf_namePutIn_2 : decode (mb M_Drf_namePutIn) 2 = .ok (.iload_n 2, 1) := by decide +kernel
theorem d_Drf_namePutIn_3 : decode (mb M_Drf_namePutIn) 3 = .ok (.aload_n 0, 1) := by decide +kernel
theorem d_Drf_namePutIn_4 : decode (mb M_Drf_namePutIn) 4 = .ok (.getfield 12, 3) := by decide +kernel
theorem d_Drf_namePutIn_7 : decode (mb M_Drf_namePutIn) 7 = .ok (.invokevirtual 88, 3) := by decide +kernel
theorem d_Drf_namePutIn_10 : decode (mb M_Drf_namePutIn) 10 = .ok (.if_icmp .ge 47, 3) := by decide +kernel
theorem d_Drf_namePutIn_13 : decode (mb M_Drf_namePutIn) 13 = .ok (.aload_n 0, 1) := by decide +kernel
theorem d_Drf_namePutIn_14 : decode (mb M_Drf_namePutIn) 14 = .ok (.getfield 12, 3) := by decide +kernel
theorem d_Drf_namePutIn_17 : decode (mb M_Drf_namePutIn) 17 = .ok (.iload_n 2, 1) := by decide +kernel
theorem d_Drf_namePutIn_18 : decode (mb M_Drf_namePutIn) 18 = .ok (.invokevirtual 223, 3) := by decide +kernel
theorem d_Drf_namePutIn_21 : decode (mb M_Drf_namePutIn) 21 = .ok (.iconst (-1), 1) := by decide +kernel
theorem d_Drf_namePutIn_22 : decode (mb M_Drf_namePutIn) 22 = .ok (.if_icmp .ne 29, 3) := by decide +kernel
theorem d_Drf_namePutIn_25 : decode (mb M_Drf_namePutIn) 25 = .ok (.aload_n 0, 1) := by decide +kernel
theorem d_Drf_namePutIn_26 : decode (mb M_Drf_namePutIn) 26 = .ok (.getfield 12, 3) := by decide +kernel
theorem d_Drf_namePutIn_29 : decode (mb M_Drf_namePutIn) 29 = .ok (.iload_n 2, 1) := by decide +kernel
theorem d_Drf_namePutIn_30 : decode (mb M_Drf_namePutIn) 30 = .ok (.aload_n 1, 1) := by decide +kernel
theorem d_Drf_namePutIn_31 : decode (mb M_Drf_namePutIn) 31 = .ok (.aload_n 0, 1) := by decide +kernel
theorem d_Drf_namePutIn_32 : decode (mb M_Drf_namePutIn) 32 = .ok (.aload_n 1, 1) := by decide +kernel
theorem d_Drf_namePutIn_33 : decode (mb M_Drf_namePutIn) 33 = .ok (.aload_n 0, 1) := by decide +kernel
theorem d_Drf_namePutIn_34 : decode (mb M_Drf_namePutIn) 34 = .ok (.getfield 12, 3) := by decide +kernel
theorem d_Drf_namePutIn_37 : decode (mb M_Drf_namePutIn) 37 = .ok (.iload_n 2, 1) := by decide +kernel
theorem d_Drf_namePutIn_38 : decode (mb M_Drf_namePutIn) 38 = .ok (.invokevirtual 226, 3) := by decide +kernel
theorem d_Drf_namePutIn_41 : decode (mb M_Drf_namePutIn) 41 = .ok (.invokevirtual 230, 3) := by decide +kernel
theorem d_Drf_namePutIn_44 : decode (mb M_Drf_namePutIn) 44 = .ok (.iconst (-1), 1) := by decide +kernel
theorem d_Drf_namePutIn_45 : decode (mb M_Drf_namePutIn) 45 = .ok (.invokevirtual 234, 3) := by decide +kernel
theorem d_Drf_namePutIn_48 : decode (mb M_Drf_namePutIn) 48 = .ok (.invokevirtual 239, 3) := by decide +kernel
theorem d_Drf_namePutIn_51 : decode (mb M_Drf_namePutIn) 51 = .ok (.iinc 2 1, 3) := by decide +kernel
theorem d_Drf_namePutIn_54 : decode (mb M_Drf_namePutIn) 54 = .ok (.goto (-52), 3) := by decide +kernel
theorem d_Drf_namePutIn_57 : decode (mb M_Drf_namePutIn) 57 = .ok (.return_, 1) := by decide +kernel
theorem d_Drf_nameRewritten_0 : decode (mb M_Drf_nameRewritten) 0 = .ok (.aload_n 0, 1) := by decide +kernel
theorem d_Drf_nameRewritten_1 : decode (mb M_Drf_nameRewritten) 1 = .ok (.getfield 12, 3) := by decide +kernel
theorem d_Drf_nameRewritten_4 : decode (mb M_Drf_nameRewritten) 4 = .ok (.iload_n 2, 1) := by decide +kernel
theorem d_Drf_nameRewritten_5 : decode (mb M_Drf_nameRewritten) 5 = .ok (.invokevirtual 223, 3) := by decide +kernel
theorem d_Drf_nameRewritten_8 : decode (mb M_Drf_nameRewritten) 8 = .ok (.iconst (-1), 1) := by decide +kernel
theorem d_Drf_nameRewritten_9 : decode (mb M_Drf_nameRewritten) 9 = .ok (.if_icmp .ne 20, 3) := by decide +kernel
theorem d_Drf_nameRewritten_12 : decode (mb M_Drf_nameRewritten) 12 = .ok (.aload_n 0, 1) := by decide +kernel
theorem d_Drf_nameRewritten_13 : decode (mb M_Drf_nameRewritten) 13 = .ok (.getfield 12, 3) := by decide +kernel
theorem d_Drf_nameRewritten_16 : decode (mb M_Drf_nameRewritten) 16 = .ok (.iload_n 2, 1) := by decide +kernel
theorem d_Drf_nameRewritten_17 : decode (mb M_Drf_nameRewritten) 17 = .ok (.aload_n 1, 1) := by decide +kernel
theorem d_Drf_nameRewritten_18 : decode (mb M_Drf_nameRewritten) 18 = .ok (.aload_n 0, 1) := by decide +kernel
theorem d_Drf_nameRewritten_19 : decode (mb M_Drf_nameRewritten) 19 = .ok (.getfield 60, 3) := by decide +kernel
theorem d_Drf_nameRewritten_22 : decode (mb M_Drf_nameRewritten) 22 = .ok (.iload_n 3, 1) := by decide +kernel
theorem d_Drf_nameRewritten_23 : decode (mb M_Drf_nameRewritten) 23 = .ok (.invokevirtual 234, 3) := by decide +kernel
theorem d_Drf_nameRewritten_26 : decode (mb M_Drf_nameRewritten) 26 = .ok (.invokevirtual 239, 3) := by decide +kernel
theorem d_Drf_nameRewritten_29 : decode (mb M_Drf_nameRewritten) 29 = .ok (.return_, 1) := by decide +kernel
theorem d_Drf_perform_0 : decode (mb M_Drf_perform) 0 = .ok (.aload_n 1, 1) := by decide +kernel
theorem d_Drf_perform_1 : decode (mb M_Drf_perform) 1 = .ok (.getfield 170, 3) := by decide +kernel
theorem d_Drf_perform_4 : decode (mb M_Drf_perform) 4 = .ok (.tableswitch 115 0 4 #[36, 54, 67, 84, 101], 36) := by decide +kernel
theorem d_Drf_perform_40 : decode (mb M_Drf_perform) 40 = .ok (.aload_n 0, 1) := by decide +kernel
theorem d_Drf_perform_41 : decode (mb M_Drf_perform) 41 = .ok (.getfield 12, 3) := by decide +kernel
theorem d_Drf_perform_44 : decode (mb M_Drf_perform) 44 = .ok (.aload_n 1, 1) := by decide +kernel
theorem d_Drf_perform_45 : decode (mb M_Drf_perform) 45 = .ok (.getfield 173, 3) := by decide +kernel
theorem d_Drf_perform_48 : decode (mb M_Drf_perform) 48 = .ok (.aload_n 1, 1) := by decide +kernel
theorem d_Drf_perform_49 : decode (mb M_Drf_perform) 49 = .ok (.getfield 176, 3) := by decide +kernel
theorem d_Drf_perform_52 : decode (mb M_Drf_perform) 52 = .ok (.iconst (-1), 1) := by decide +kernel
theorem d_Drf_perform_53 : decode (mb M_Drf_perform) 53 = .ok (.invokevirtual 180, 3) := by decide +kernel
theorem d_Drf_perform_56 : decode (mb M_Drf_perform) 56 = .ok (.iconst 0, 1) := by decide +kernel
theorem d_Drf_perform_57 : decode (mb M_Drf_perform) 57 = .ok (.ireturn, 1) := by decide +kernel
theorem d_Drf_perform_58 : decode (mb M_Drf_perform) 58 = .ok (.aload_n 0, 1) := by decide +kernel
theorem d_Drf_perform_59 : decode (mb M_Drf_perform) 59 = .ok (.getfield 12, 3) := by decide +kernel
theorem d_Drf_perform_62 : decode (mb M_Drf_perform) 62 = .ok (.aload_n 1, 1) := by decide +kernel
theorem d_Drf_perform_63 : decode (mb M_Drf_perform) 63 = .ok (.getfield 173, 3) := by decide +kernel
theorem d_Drf_perform_66 : decode (mb M_Drf_perform) 66 = .ok (.invokevirtual 184, 3) := by decide +kernel
theorem d_Drf_perform_69 : decode (mb M_Drf_perform) 69 = .ok (.iconst 0, 1) := by decide +kernel
theorem d_Drf_perform_70 : decode (mb M_Drf_perform) 70 = .ok (.ireturn, 1) := by decide +kernel
theorem d_Drf_perform_71 : decode (mb M_Drf_perform) 71 = .ok (.aload_n 0, 1) := by decide +kernel
theorem d_Drf_perform_72 : decode (mb M_Drf_perform) 72 = .ok (.getfield 12, 3) := by decide +kernel
theorem d_Drf_perform_75 : decode (mb M_Drf_perform) 75 = .ok (.aload_n 1, 1) := by decide +kernel
theorem d_Drf_perform_76 : decode (mb M_Drf_perform) 76 = .ok (.getfield 173, 3) := by decide +kernel
theorem d_Drf_perform_79 : decode (mb M_Drf_perform) 79 = .ok (.aload_n 1, 1) := by decide +kernel
theorem d_Drf_perform_80 : decode (mb M_Drf_perform) 80 = .ok (.getfield 176, 3) := by decide +kernel
theorem d_Drf_perform_83 : decode (mb M_Drf_perform) 83 = .ok (.invokevirtual 188, 3) := by decide +kernel
theorem d_Drf_perform_86 : decode (mb M_Drf_perform) 86 = .ok (.iconst 0, 1) := by decide +kernel
theorem d_Drf_perform_87 : decode (mb M_Drf_perform) 87 = .ok (.ireturn, 1) := by decide +kernel
theorem d_Drf_perform_88 : decode (mb M_Drf_perform) 88 = .ok (.aload_n 0, 1) := by decide +kernel
theorem d_Drf_perform_89 : decode (mb M_Drf_perform) 89 = .ok (.getfield 12, 3) := by decide +kernel
theorem d_Drf_perform_92 : decode (mb M_Drf_perform) 92 = .ok (.aload_n 1, 1) := by decide +kernel
theorem d_Drf_perform_93 : decode (mb M_Drf_perform) 93 = .ok (.getfield 173, 3) := by decide +kernel
theorem d_Drf_perform_96 : decode (mb M_Drf_perform) 96 = .ok (.aload_n 1, 1) := by decide +kernel
theorem d_Drf_perform_97 : decode (mb M_Drf_perform) 97 = .ok (.getfield 192, 3) := by decide +kernel
theorem d_Drf_perform_100 : decode (mb M_Drf_perform) 100 = .ok (.invokevirtual 195, 3) := by decide +kernel
theorem d_Drf_perform_103 : decode (mb M_Drf_perform) 103 = .ok (.iconst 0, 1) := by decide +kernel
theorem d_Drf_perform_104 : decode (mb M_Drf_perform) 104 = .ok (.ireturn, 1) := by decide +kernel
theorem d_Drf_perform_105 : decode (mb M_Drf_perform) 105 = .ok (.aload_n 0, 1) := by decide +kernel
theorem d_Drf_perform_106 : decode (mb M_Drf_perform) 106 = .ok (.aload_n 1, 1) := by decide +kernel
theorem d_Drf_perform_107 : decode (mb M_Drf_perform) 107 = .ok (.getfield 173, 3) := by decide +kernel
theorem d_Drf_perform_110 : decode (mb M_Drf_perform) 110 = .ok (.aload_n 1, 1) := by decide +kernel
theorem d_Drf_perform_111 : decode (mb M_Drf_perform) 111 = .ok (.getfield 192, 3) := by decide +kernel
theorem d_Drf_perform_114 : decode (mb M_Drf_perform) 114 = .ok (.invokevirtual 198, 3) := by decide +kernel
theorem d_Drf_perform_117 : decode (mb M_Drf_perform) 117 = .ok (.iconst 0, 1) := by decide +kernel
theorem d_Drf_perform_118 : decode (mb M_Drf_perform) 118 = .ok (.ireturn, 1) := by decide +kernel
theorem d_Drf_perform_119 : decode (mb M_Drf_perform) 119 = .ok (.aload_n 1, 1) := by decide +kernel
theorem d_Drf_perform_120 : decode (mb M_Drf_perform) 120 = .ok (.getfield 201, 3) := by decide +kernel
theorem d_Drf_perform_123 : decode (mb M_Drf_perform) 123 = .ok (.ifnonnull 7, 3) := by decide +kernel
theorem d_Drf_perform_126 : decode (mb M_Drf_perform) 126 = .ok (.iconst 0, 1) := by decide +kernel
theorem d_Drf_perform_127 : decode (mb M_Drf_perform) 127 = .ok (.goto 18, 3) := by decide +kernel
theorem d_Drf_perform_130 : decode (mb M_Drf_perform) 130 = .ok (.aload_n 1, 1) := by decide +kernel
theorem d_Drf_perform_131 : decode (mb M_Drf_perform) 131 = .ok (.getfield 201, 3) := by decide +kernel
theorem d_Drf_perform_134 : decode (mb M_Drf_perform) 134 = .ok (.aload_n 0, 1) := by decide +kernel
theorem d_Drf_perform_135 : decode (mb M_Drf_perform) 135 = .ok (.getfield 12, 3) := by decide +kernel
theorem d_Drf_perform_138 : decode (mb M_Drf_perform) 138 = .ok (.aload_n 1, 1) := by decide +kernel
theorem d_Drf_perform_139 : decode (mb M_Drf_perform) 139 = .ok (.getfield 192, 3) := by decide +kernel
theorem d_Drf_perform_142 : decode (mb M_Drf_perform) 142 = .ok (.invokevirtual 205, 3) := by decide +kernel
theorem d_Drf_perform_145 : decode (mb M_Drf_perform) 145 = .ok (.ireturn, 1) := by decide +kernel
theorem d_Drf_pushBehind_0 : decode (mb M_Drf_pushBehind) 0 = .ok (.iload_n 1, 1) := by decide +kernel
theorem d_Drf_pushBehind_1 : decode (mb M_Drf_pushBehind) 1 = .ok (.iconst 1, 1) := by decide +kernel
theorem d_Drf_pushBehind_2 : decode (mb M_Drf_pushBehind) 2 = .ok (.iadd, 1) := by decide +kernel
theorem d_Drf_pushBehind_3 : decode (mb M_Drf_pushBehind) 3 = .ok (.istore_n 3, 1) := by decide +kernel
theorem d_Drf_pushBehind_4 : decode (mb M_Drf_pushBehind) 4 = .ok (.iload_n 3, 1) := by decide +kernel
theorem d_Drf_pushBehind_5 : decode (mb M_Drf_pushBehind) 5 = .ok (.aload_n 0, 1) := by decide +kernel
theorem d_Drf_pushBehind_6 : decode (mb M_Drf_pushBehind) 6 = .ok (.getfield 53, 3) := by decide +kernel
theorem d_Drf_pushBehind_9 : decode (mb M_Drf_pushBehind) 9 = .ok (.if_icmp .ge 24, 3) := by decide +kernel
theorem d_Drf_pushBehind_12 : decode (mb M_Drf_pushBehind) 12 = .ok (.aload_n 0, 1) := by decide +kernel
theorem d_Drf_pushBehind_13 : decode (mb M_Drf_pushBehind) 13 = .ok (.getfield 27, 3) := by decide +kernel
theorem d_Drf_pushBehind_16 : decode (mb M_Drf_pushBehind) 16 = .ok (.iload_n 3, 1) := by decide +kernel
theorem d_Drf_pushBehind_17 : decode (mb M_Drf_pushBehind) 17 = .ok (.aaload, 1) := by decide +kernel
theorem d_Drf_pushBehind_18 : decode (mb M_Drf_pushBehind) 18 = .ok (.dup, 1) := by decide +kernel
theorem d_Drf_pushBehind_19 : decode (mb M_Drf_pushBehind) 19 = .ok (.getfield 121, 3) := by decide +kernel
theorem d_Drf_pushBehind_22 : decode (mb M_Drf_pushBehind) 22 = .ok (.iload_n 2, 1) := by decide +kernel
theorem d_Drf_pushBehind_23 : decode (mb M_Drf_pushBehind) 23 = .ok (.iadd, 1) := by decide +kernel
theorem d_Drf_pushBehind_24 : decode (mb M_Drf_pushBehind) 24 = .ok (.putfield 121, 3) := by decide +kernel
theorem d_Drf_pushBehind_27 : decode (mb M_Drf_pushBehind) 27 = .ok (.iinc 3 1, 3) := by decide +kernel
theorem d_Drf_pushBehind_30 : decode (mb M_Drf_pushBehind) 30 = .ok (.goto (-26), 3) := by decide +kernel
theorem d_Drf_pushBehind_33 : decode (mb M_Drf_pushBehind) 33 = .ok (.return_, 1) := by decide +kernel
theorem d_Drf_putPiece_0 : decode (mb M_Drf_putPiece) 0 = .ok (.aload_n 0, 1) := by decide +kernel
theorem d_Drf_putPiece_1 : decode (mb M_Drf_putPiece) 1 = .ok (.getfield 12, 3) := by decide +kernel
theorem d_Drf_putPiece_4 : decode (mb M_Drf_putPiece) 4 = .ok (.iload_n 3, 1) := by decide +kernel
theorem d_Drf_putPiece_5 : decode (mb M_Drf_putPiece) 5 = .ok (.aload_n 0, 1) := by decide +kernel
theorem d_Drf_putPiece_6 : decode (mb M_Drf_putPiece) 6 = .ok (.iload_n 2, 1) := by decide +kernel
theorem d_Drf_putPiece_7 : decode (mb M_Drf_putPiece) 7 = .ok (.invokevirtual 136, 3) := by decide +kernel
theorem d_Drf_putPiece_10 : decode (mb M_Drf_putPiece) 10 = .ok (.aload_n 1, 1) := by decide +kernel
theorem d_Drf_putPiece_11 : decode (mb M_Drf_putPiece) 11 = .ok (.getfield 114, 3) := by decide +kernel
theorem d_Drf_putPiece_14 : decode (mb M_Drf_putPiece) 14 = .ok (.iload_n 2, 1) := by decide +kernel
theorem d_Drf_putPiece_15 : decode (mb M_Drf_putPiece) 15 = .ok (.iaload, 1) := by decide +kernel
theorem d_Drf_putPiece_16 : decode (mb M_Drf_putPiece) 16 = .ok (.aload_n 1, 1) := by decide +kernel
theorem d_Drf_putPiece_17 : decode (mb M_Drf_putPiece) 17 = .ok (.getfield 118, 3) := by decide +kernel
theorem d_Drf_putPiece_20 : decode (mb M_Drf_putPiece) 20 = .ok (.iload_n 2, 1) := by decide +kernel
theorem d_Drf_putPiece_21 : decode (mb M_Drf_putPiece) 21 = .ok (.iaload, 1) := by decide +kernel
theorem d_Drf_putPiece_22 : decode (mb M_Drf_putPiece) 22 = .ok (.invokevirtual 104, 3) := by decide +kernel
theorem d_Drf_putPiece_25 : decode (mb M_Drf_putPiece) 25 = .ok (.ireturn, 1) := by decide +kernel
theorem d_Drf_reopen_0 : decode (mb M_Drf_reopen) 0 = .ok (.iload_n 1, 1) := by decide +kernel
theorem d_Drf_reopen_1 : decode (mb M_Drf_reopen) 1 = .ok (.ifCond .lt 11, 3) := by decide +kernel
theorem d_Drf_reopen_4 : decode (mb M_Drf_reopen) 4 = .ok (.iload_n 1, 1) := by decide +kernel
theorem d_Drf_reopen_5 : decode (mb M_Drf_reopen) 5 = .ok (.aload_n 0, 1) := by decide +kernel
theorem d_Drf_reopen_6 : decode (mb M_Drf_reopen) 6 = .ok (.getfield 53, 3) := by decide +kernel
theorem d_Drf_reopen_9 : decode (mb M_Drf_reopen) 9 = .ok (.if_icmp .lt 4, 3) := by decide +kernel
theorem d_Drf_reopen_12 : decode (mb M_Drf_reopen) 12 = .ok (.return_, 1) := by decide +kernel
theorem d_Drf_reopen_13 : decode (mb M_Drf_reopen) 13 = .ok (.aload_n 0, 1) := by decide +kernel
theorem d_Drf_reopen_14 : decode (mb M_Drf_reopen) 14 = .ok (.getfield 27, 3) := by decide +kernel
theorem d_Drf_reopen_17 : decode (mb M_Drf_reopen) 17 = .ok (.iload_n 1, 1) := by decide +kernel
theorem d_Drf_reopen_18 : decode (mb M_Drf_reopen) 18 = .ok (.aaload, 1) := by decide +kernel
theorem d_Drf_reopen_19 : decode (mb M_Drf_reopen) 19 = .ok (.iconst 0, 1) := by decide +kernel
theorem d_Drf_reopen_20 : decode (mb M_Drf_reopen) 20 = .ok (.putfield 124, 3) := by decide +kernel
theorem d_Drf_reopen_23 : decode (mb M_Drf_reopen) 23 = .ok (.aload_n 0, 1) := by decide +kernel
theorem d_Drf_reopen_24 : decode (mb M_Drf_reopen) 24 = .ok (.dup, 1) := by decide +kernel
theorem d_Drf_reopen_25 : decode (mb M_Drf_reopen) 25 = .ok (.getfield 57, 3) := by decide +kernel
theorem d_Drf_reopen_28 : decode (mb M_Drf_reopen) 28 = .ok (.iconst 1, 1) := by decide +kernel
theorem d_Drf_reopen_29 : decode (mb M_Drf_reopen) 29 = .ok (.iadd, 1) := by decide +kernel
theorem d_Drf_reopen_30 : decode (mb M_Drf_reopen) 30 = .ok (.putfield 57, 3) := by decide +kernel
theorem d_Drf_reopen_33 : decode (mb M_Drf_reopen) 33 = .ok (.aload_n 0, 1) := by decide +kernel
theorem d_Drf_reopen_34 : decode (mb M_Drf_reopen) 34 = .ok (.iload_n 1, 1) := by decide +kernel
theorem d_Drf_reopen_35 : decode (mb M_Drf_reopen) 35 = .ok (.aload_n 0, 1) := by decide +kernel
theorem d_Drf_reopen_36 : decode (mb M_Drf_reopen) 36 = .ok (.iload_n 1, 1) := by decide +kernel
theorem d_Drf_reopen_37 : decode (mb M_Drf_reopen) 37 = .ok (.iload_n 2, 1) := by decide +kernel
theorem d_Drf_reopen_38 : decode (mb M_Drf_reopen) 38 = .ok (.invokevirtual 150, 3) := by decide +kernel
theorem d_Drf_reopen_41 : decode (mb M_Drf_reopen) 41 = .ok (.ineg, 1) := by decide +kernel
theorem d_Drf_reopen_42 : decode (mb M_Drf_reopen) 42 = .ok (.invokevirtual 153, 3) := by decide +kernel
theorem d_Drf_reopen_45 : decode (mb M_Drf_reopen) 45 = .ok (.return_, 1) := by decide +kernel
theorem d_Drf_settleBy_0 : decode (mb M_Drf_settleBy) 0 = .ok (.aload_n 0, 1) := by decide +kernel
theorem d_Drf_settleBy_1 : decode (mb M_Drf_settleBy) 1 = .ok (.iload_n 1, 1) := by decide +kernel
theorem d_Drf_settleBy_2 : decode (mb M_Drf_settleBy) 2 = .ok (.invokevirtual 147, 3) := by decide +kernel
theorem d_Drf_settleBy_5 : decode (mb M_Drf_settleBy) 5 = .ok (.ifCond .eq 4, 3) := by decide +kernel
theorem d_Drf_settleBy_8 : decode (mb M_Drf_settleBy) 8 = .ok (.return_, 1) := by decide +kernel
theorem d_Drf_settleBy_9 : decode (mb M_Drf_settleBy) 9 = .ok (.aload_n 0, 1) := by decide +kernel
theorem d_Drf_settleBy_10 : decode (mb M_Drf_settleBy) 10 = .ok (.getfield 27, 3) := by decide +kernel
theorem d_Drf_settleBy_13 : decode (mb M_Drf_settleBy) 13 = .ok (.iload_n 1, 1) := by decide +kernel
theorem d_Drf_settleBy_14 : decode (mb M_Drf_settleBy) 14 = .ok (.aaload, 1) := by decide +kernel
theorem d_Drf_settleBy_15 : decode (mb M_Drf_settleBy) 15 = .ok (.astore_n 3, 1) := by decide +kernel
theorem d_Drf_settleBy_16 : decode (mb M_Drf_settleBy) 16 = .ok (.iload_n 2, 1) := by decide +kernel
theorem d_Drf_settleBy_17 : decode (mb M_Drf_settleBy) 17 = .ok (.iconst 3, 1) := by decide +kernel
theorem d_Drf_settleBy_18 : decode (mb M_Drf_settleBy) 18 = .ok (.if_icmp .ne 23, 3) := by decide +kernel
theorem d_Drf_settleBy_21 : decode (mb M_Drf_settleBy) 21 = .ok (.aload_n 0, 1) := by decide +kernel
theorem d_Drf_settleBy_22 : decode (mb M_Drf_settleBy) 22 = .ok (.aload_n 3, 1) := by decide +kernel
theorem d_Drf_settleBy_23 : decode (mb M_Drf_settleBy) 23 = .ok (.iconst 1, 1) := by decide +kernel
theorem d_Drf_settleBy_24 : decode (mb M_Drf_settleBy) 24 = .ok (.aload_n 0, 1) := by decide +kernel
theorem d_Drf_settleBy_25 : decode (mb M_Drf_settleBy) 25 = .ok (.aload_n 3, 1) := by decide +kernel
theorem d_Drf_settleBy_26 : decode (mb M_Drf_settleBy) 26 = .ok (.iconst 0, 1) := by decide +kernel
theorem d_Drf_settleBy_27 : decode (mb M_Drf_settleBy) 27 = .ok (.aload_n 3, 1) := by decide +kernel
theorem d_Drf_settleBy_28 : decode (mb M_Drf_settleBy) 28 = .ok (.getfield 121, 3) := by decide +kernel
theorem d_Drf_settleBy_31 : decode (mb M_Drf_settleBy) 31 = .ok (.invokevirtual 132, 3) := by decide +kernel
theorem d_Drf_settleBy_34 : decode (mb M_Drf_settleBy) 34 = .ok (.invokevirtual 132, 3) := by decide +kernel
theorem d_Drf_settleBy_37 : decode (mb M_Drf_settleBy) 37 = .ok (.pop, 1) := by decide +kernel
theorem d_Drf_settleBy_38 : decode (mb M_Drf_settleBy) 38 = .ok (.goto 48, 3) := by decide +kernel
theorem d_Drf_settleBy_41 : decode (mb M_Drf_settleBy) 41 = .ok (.iload_n 2, 1) := by decide +kernel
theorem d_Drf_settleBy_42 : decode (mb M_Drf_settleBy) 42 = .ok (.iconst 4, 1) := by decide +kernel
theorem d_Drf_settleBy_43 : decode (mb M_Drf_settleBy) 43 = .ok (.if_icmp .ne 23, 3) := by decide +kernel
theorem d_Drf_settleBy_46 : decode (mb M_Drf_settleBy) 46 = .ok (.aload_n 0, 1) := by decide +kernel
theorem d_Drf_settleBy_47 : decode (mb M_Drf_settleBy) 47 = .ok (.aload_n 3, 1) := by decide +kernel
theorem d_Drf_settleBy_48 : decode (mb M_Drf_settleBy) 48 = .ok (.iconst 0, 1) := by decide +kernel
theorem d_Drf_settleBy_49 : decode (mb M_Drf_settleBy) 49 = .ok (.aload_n 0, 1) := by decide +kernel
theorem d_Drf_settleBy_50 : decode (mb M_Drf_settleBy) 50 = .ok (.aload_n 3, 1) := by decide +kernel
theorem d_Drf_settleBy_51 : decode (mb M_Drf_settleBy) 51 = .ok (.iconst 1, 1) := by decide +kernel
theorem d_Drf_settleBy_52 : decode (mb M_Drf_settleBy) 52 = .ok (.aload_n 3, 1) := by decide +kernel
theorem d_Drf_settleBy_53 : decode (mb M_Drf_settleBy) 53 = .ok (.getfield 121, 3) := by decide +kernel
theorem d_Drf_settleBy_56 : decode (mb M_Drf_settleBy) 56 = .ok (.invokevirtual 132, 3) := by decide +kernel
theorem d_Drf_settleBy_59 : decode (mb M_Drf_settleBy) 59 = .ok (.invokevirtual 132, 3) := by decide +kernel
theorem d_Drf_settleBy_62 : decode (mb M_Drf_settleBy) 62 = .ok (.pop, 1) := by decide +kernel
theorem d_Drf_settleBy_63 : decode (mb M_Drf_settleBy) 63 = .ok (.goto 23, 3) := by decide +kernel
theorem d_Drf_settleBy_66 : decode (mb M_Drf_settleBy) 66 = .ok (.iload_n 2, 1) := by decide +kernel
theorem d_Drf_settleBy_67 : decode (mb M_Drf_settleBy) 67 = .ok (.ifCond .lt 19, 3) := by decide +kernel
theorem d_Drf_settleBy_70 : decode (mb M_Drf_settleBy) 70 = .ok (.iload_n 2, 1) := by decide +kernel
theorem d_Drf_settleBy_71 : decode (mb M_Drf_settleBy) 71 = .ok (.iconst 2, 1) := by decide +kernel
theorem d_Drf_settleBy_72 : decode (mb M_Drf_settleBy) 72 = .ok (.if_icmp .gt 14, 3) := by decide +kernel
theorem d_Drf_settleBy_75 : decode (mb M_Drf_settleBy) 75 = .ok (.aload_n 0, 1) := by decide +kernel
theorem d_Drf_settleBy_76 : decode (mb M_Drf_settleBy) 76 = .ok (.aload_n 3, 1) := by decide +kernel
theorem d_Drf_settleBy_77 : decode (mb M_Drf_settleBy) 77 = .ok (.iload_n 2, 1) := by decide +kernel
theorem d_Drf_settleBy_78 : decode (mb M_Drf_settleBy) 78 = .ok (.aload_n 3, 1) := by decide +kernel
theorem d_Drf_settleBy_79 : decode (mb M_Drf_settleBy) 79 = .ok (.getfield 121, 3) := by decide +kernel
theorem d_Drf_settleBy_82 : decode (mb M_Drf_settleBy) 82 = .ok (.invokevirtual 132, 3) := by decide +kernel
theorem d_Drf_settleBy_85 : decode (mb M_Drf_settleBy) 85 = .ok (.pop, 1) := by decide +kernel
theorem d_Drf_settleBy_86 : decode (mb M_Drf_settleBy) 86 = .ok (.aload_n 3, 1) := by decide +kernel
theorem d_Drf_settleBy_87 : decode (mb M_Drf_settleBy) 87 = .ok (.iconst 1, 1) := by decide +kernel
theorem d_Drf_settleBy_88 : decode (mb M_Drf_settleBy) 88 = .ok (.putfield 124, 3) := by decide +kernel
theorem d_Drf_settleBy_91 : decode (mb M_Drf_settleBy) 91 = .ok (.aload_n 0, 1) := by decide +kernel
theorem d_Drf_settleBy_92 : decode (mb M_Drf_settleBy) 92 = .ok (.dup, 1) := by decide +kernel
theorem d_Drf_settleBy_93 : decode (mb M_Drf_settleBy) 93 = .ok (.getfield 57, 3) := by decide +kernel
theorem d_Drf_settleBy_96 : decode (mb M_Drf_settleBy) 96 = .ok (.iconst 1, 1) := by decide +kernel
theorem d_Drf_settleBy_97 : decode (mb M_Drf_settleBy) 97 = .ok (.isub, 1) := by decide +kernel
theorem d_Drf_settleBy_98 : decode (mb M_Drf_settleBy) 98 = .ok (.putfield 57, 3) := by decide +kernel
theorem d_Drf_settleBy_101 : decode (mb M_Drf_settleBy) 101 = .ok (.aload_n 0, 1) := by decide +kernel
theorem d_Drf_settleBy_102 : decode (mb M_Drf_settleBy) 102 = .ok (.iload_n 1, 1) := by decide +kernel
theorem d_Drf_settleBy_103 : decode (mb M_Drf_settleBy) 103 = .ok (.aload_n 0, 1) := by decide +kernel
theorem d_Drf_settleBy_104 : decode (mb M_Drf_settleBy) 104 = .ok (.iload_n 1, 1) := by decide +kernel
theorem d_Drf_settleBy_105 : decode (mb M_Drf_settleBy) 105 = .ok (.iload_n 2, 1) := by decide +kernel
theorem d_Drf_settleBy_106 : decode (mb M_Drf_settleBy) 106 = .ok (.invokevirtual 150, 3) := by decide +kernel
theorem d_Drf_settleBy_109 : decode (mb M_Drf_settleBy) 109 = .ok (.invokevirtual 153, 3) := by decide +kernel
theorem d_Drf_settleBy_112 : decode (mb M_Drf_settleBy) 112 = .ok (.return_, 1) := by decide +kernel
theorem d_Drf_signFor_0 : decode (mb M_Drf_signFor) 0 = .ok (.aload_n 0, 1) := by decide +kernel
theorem d_Drf_signFor_1 : decode (mb M_Drf_signFor) 1 = .ok (.iload_n 1, 1) := by decide +kernel
theorem d_Drf_signFor_2 : decode (mb M_Drf_signFor) 2 = .ok (.putfield 60, 3) := by decide +kernel
theorem d_Drf_signFor_5 : decode (mb M_Drf_signFor) 5 = .ok (.aload_n 0, 1) := by decide +kernel
theorem d_Drf_signFor_6 : decode (mb M_Drf_signFor) 6 = .ok (.iload_n 2, 1) := by decide +kernel
theorem d_Drf_signFor_7 : decode (mb M_Drf_signFor) 7 = .ok (.putfield 63, 3) := by decide +kernel
theorem d_Drf_signFor_10 : decode (mb M_Drf_signFor) 10 = .ok (.aload_n 0, 1) := by decide +kernel
theorem d_Drf_signFor_11 : decode (mb M_Drf_signFor) 11 = .ok (.iload_n 3, 1) := by decide +kernel
theorem d_Drf_signFor_12 : decode (mb M_Drf_signFor) 12 = .ok (.putfield 66, 3) := by decide +kernel
theorem d_Drf_signFor_15 : decode (mb M_Drf_signFor) 15 = .ok (.return_, 1) := by decide +kernel
theorem d_Drf_sourceOf_0 : decode (mb M_Drf_sourceOf) 0 = .ok (.iload_n 1, 1) := by decide +kernel
theorem d_Drf_sourceOf_1 : decode (mb M_Drf_sourceOf) 1 = .ok (.ifCond .ne 10, 3) := by decide +kernel
theorem d_Drf_sourceOf_4 : decode (mb M_Drf_sourceOf) 4 = .ok (.aload_n 0, 1) := by decide +kernel
theorem d_Drf_sourceOf_5 : decode (mb M_Drf_sourceOf) 5 = .ok (.getfield 44, 3) := by decide +kernel
theorem d_Drf_sourceOf_8 : decode (mb M_Drf_sourceOf) 8 = .ok (.goto 19, 3) := by decide +kernel
theorem d_Drf_sourceOf_11 : decode (mb M_Drf_sourceOf) 11 = .ok (.iload_n 1, 1) := by decide +kernel
theorem d_Drf_sourceOf_12 : decode (mb M_Drf_sourceOf) 12 = .ok (.iconst 1, 1) := by decide +kernel
theorem d_Drf_sourceOf_13 : decode (mb M_Drf_sourceOf) 13 = .ok (.if_icmp .ne 10, 3) := by decide +kernel
theorem d_Drf_sourceOf_16 : decode (mb M_Drf_sourceOf) 16 = .ok (.aload_n 0, 1) := by decide +kernel
theorem d_Drf_sourceOf_17 : decode (mb M_Drf_sourceOf) 17 = .ok (.getfield 47, 3) := by decide +kernel
theorem d_Drf_sourceOf_20 : decode (mb M_Drf_sourceOf) 20 = .ok (.goto 7, 3) := by decide +kernel
theorem d_Drf_sourceOf_23 : decode (mb M_Drf_sourceOf) 23 = .ok (.aload_n 0, 1) := by decide +kernel
theorem d_Drf_sourceOf_24 : decode (mb M_Drf_sourceOf) 24 = .ok (.getfield 50, 3) := by decide +kernel
theorem d_Drf_sourceOf_27 : decode (mb M_Drf_sourceOf) 27 = .ok (.areturn, 1) := by decide +kernel
theorem d_Drf_startFrom_0 : decode (mb M_Drf_startFrom) 0 = .ok (.aload_n 0, 1) := by decide +kernel
theorem d_Drf_startFrom_1 : decode (mb M_Drf_startFrom) 1 = .ok (.aload_n 1, 1) := by decide +kernel
theorem d_Drf_startFrom_2 : decode (mb M_Drf_startFrom) 2 = .ok (.aload_n 0, 1) := by decide +kernel
theorem d_Drf_startFrom_3 : decode (mb M_Drf_startFrom) 3 = .ok (.getfield 41, 3) := by decide +kernel
theorem d_Drf_startFrom_6 : decode (mb M_Drf_startFrom) 6 = .ok (.aload_n 0, 1) := by decide +kernel
theorem d_Drf_startFrom_7 : decode (mb M_Drf_startFrom) 7 = .ok (.getfield 41, 3) := by decide +kernel
theorem d_Drf_startFrom_10 : decode (mb M_Drf_startFrom) 10 = .ok (.invokevirtual 70, 3) := by decide +kernel
theorem d_Drf_startFrom_13 : decode (mb M_Drf_startFrom) 13 = .ok (.aload_n 0, 1) := by decide +kernel
theorem d_Drf_startFrom_14 : decode (mb M_Drf_startFrom) 14 = .ok (.getfield 12, 3) := by decide +kernel
theorem d_Drf_startFrom_17 : decode (mb M_Drf_startFrom) 17 = .ok (.aload_n 1, 1) := by decide +kernel
theorem d_Drf_startFrom_18 : decode (mb M_Drf_startFrom) 18 = .ok (.invokevirtual 74, 3) := by decide +kernel
theorem d_Drf_startFrom_21 : decode (mb M_Drf_startFrom) 21 = .ok (.return_, 1) := by decide +kernel
theorem d_Drf_takeBack_0 : decode (mb M_Drf_takeBack) 0 = .ok (.aload_n 0, 1) := by decide +kernel
theorem d_Drf_takeBack_1 : decode (mb M_Drf_takeBack) 1 = .ok (.getfield 21, 3) := by decide +kernel
theorem d_Drf_takeBack_4 : decode (mb M_Drf_takeBack) 4 = .ok (.invokevirtual 212, 3) := by decide +kernel
theorem d_Drf_takeBack_7 : decode (mb M_Drf_takeBack) 7 = .ok (.ifCond .eq 4, 3) := by decide +kernel
theorem d_Drf_takeBack_10 : decode (mb M_Drf_takeBack) 10 = .ok (.return_, 1) := by decide +kernel
theorem d_Drf_takeBack_11 : decode (mb M_Drf_takeBack) 11 = .ok (.aload_n 0, 1) := by decide +kernel
theorem d_Drf_takeBack_12 : decode (mb M_Drf_takeBack) 12 = .ok (.getfield 21, 3) := by decide +kernel
theorem d_Drf_takeBack_15 : decode (mb M_Drf_takeBack) 15 = .ok (.aload_n 0, 1) := by decide +kernel
theorem d_Drf_takeBack_16 : decode (mb M_Drf_takeBack) 16 = .ok (.getfield 21, 3) := by decide +kernel
theorem d_Drf_takeBack_19 : decode (mb M_Drf_takeBack) 19 = .ok (.invokevirtual 211, 3) := by decide +kernel
theorem d_Drf_takeBack_22 : decode (mb M_Drf_takeBack) 22 = .ok (.iconst 1, 1) := by decide +kernel
theorem d_Drf_takeBack_23 : decode (mb M_Drf_takeBack) 23 = .ok (.isub, 1) := by decide +kernel
theorem d_Drf_takeBack_24 : decode (mb M_Drf_takeBack) 24 = .ok (.invokevirtual 216, 3) := by decide +kernel
theorem d_Drf_takeBack_27 : decode (mb M_Drf_takeBack) 27 = .ok (.checkcast 158, 3) := by decide +kernel
theorem d_Drf_takeBack_30 : decode (mb M_Drf_takeBack) 30 = .ok (.astore_n 1, 1) := by decide +kernel
theorem d_Drf_takeBack_31 : decode (mb M_Drf_takeBack) 31 = .ok (.aload_n 0, 1) := by decide +kernel
theorem d_Drf_takeBack_32 : decode (mb M_Drf_takeBack) 32 = .ok (.getfield 12, 3) := by decide +kernel
theorem d_Drf_takeBack_35 : decode (mb M_Drf_takeBack) 35 = .ok (.aload_n 1, 1) := by decide +kernel
theorem d_Drf_takeBack_36 : decode (mb M_Drf_takeBack) 36 = .ok (.getfield 157, 3) := by decide +kernel
theorem d_Drf_takeBack_39 : decode (mb M_Drf_takeBack) 39 = .ok (.invokevirtual 74, 3) := by decide +kernel
theorem d_Drf_takeBack_42 : decode (mb M_Drf_takeBack) 42 = .ok (.aload_n 1, 1) := by decide +kernel
theorem d_Drf_takeBack_43 : decode (mb M_Drf_takeBack) 43 = .ok (.getfield 170, 3) := by decide +kernel
theorem d_Drf_takeBack_46 : decode (mb M_Drf_takeBack) 46 = .ok (.iconst 4, 1) := by decide +kernel
theorem d_Drf_takeBack_47 : decode (mb M_Drf_takeBack) 47 = .ok (.if_icmp .ne 15, 3) := by decide +kernel
theorem d_Drf_takeBack_50 : decode (mb M_Drf_takeBack) 50 = .ok (.aload_n 0, 1) := by decide +kernel
theorem d_Drf_takeBack_51 : decode (mb M_Drf_takeBack) 51 = .ok (.aload_n 1, 1) := by decide +kernel
theorem d_Drf_takeBack_52 : decode (mb M_Drf_takeBack) 52 = .ok (.getfield 173, 3) := by decide +kernel
theorem d_Drf_takeBack_55 : decode (mb M_Drf_takeBack) 55 = .ok (.aload_n 1, 1) := by decide +kernel
theorem d_Drf_takeBack_56 : decode (mb M_Drf_takeBack) 56 = .ok (.getfield 192, 3) := by decide +kernel
theorem d_Drf_takeBack_59 : decode (mb M_Drf_takeBack) 59 = .ok (.invokevirtual 220, 3) := by decide +kernel
theorem d_Drf_takeBack_62 : decode (mb M_Drf_takeBack) 62 = .ok (.return_, 1) := by decide +kernel
theorem d_Drf_unsettled_0 : decode (mb M_Drf_unsettled) 0 = .ok (.aload_n 0, 1) := by decide +kernel
theorem d_Drf_unsettled_1 : decode (mb M_Drf_unsettled) 1 = .ok (.getfield 57, 3) := by decide +kernel
theorem d_Drf_unsettled_4 : decode (mb M_Drf_unsettled) 4 = .ok (.ireturn, 1) := by decide +kernel
theorem d_Drf_weave_0 : decode (mb M_Drf_weave) 0 = .ok (.aload_n 0, 1) := by decide +kernel
theorem d_Drf_weave_1 : decode (mb M_Drf_weave) 1 = .ok (.aload_n 1, 1) := by decide +kernel
theorem d_Drf_weave_2 : decode (mb M_Drf_weave) 2 = .ok (.aload_n 2, 1) := by decide +kernel
theorem d_Drf_weave_3 : decode (mb M_Drf_weave) 3 = .ok (.aload_n 3, 1) := by decide +kernel
theorem d_Drf_weave_4 : decode (mb M_Drf_weave) 4 = .ok (.invokevirtual 70, 3) := by decide +kernel
theorem d_Drf_weave_7 : decode (mb M_Drf_weave) 7 = .ok (.aload_n 0, 1) := by decide +kernel
theorem d_Drf_weave_8 : decode (mb M_Drf_weave) 8 = .ok (.getfield 12, 3) := by decide +kernel
theorem d_Drf_weave_11 : decode (mb M_Drf_weave) 11 = .ok (.invokevirtual 81, 3) := by decide +kernel
theorem d_Drf_weave_14 : decode (mb M_Drf_weave) 14 = .ok (.aload_n 0, 1) := by decide +kernel
theorem d_Drf_weave_15 : decode (mb M_Drf_weave) 15 = .ok (.getfield 34, 3) := by decide +kernel
theorem d_Drf_weave_18 : decode (mb M_Drf_weave) 18 = .ok (.aload_n 3, 1) := by decide +kernel
theorem d_Drf_weave_19 : decode (mb M_Drf_weave) 19 = .ok (.aload_n 1, 1) := by decide +kernel
theorem d_Drf_weave_20 : decode (mb M_Drf_weave) 20 = .ok (.iconst 0, 1) := by decide +kernel
theorem d_Drf_weave_21 : decode (mb M_Drf_weave) 21 = .ok (.invokevirtual 84, 3) := by decide +kernel
theorem d_Drf_weave_24 : decode (mb M_Drf_weave) 24 = .ok (.aload_n 0, 1) := by decide +kernel
theorem d_Drf_weave_25 : decode (mb M_Drf_weave) 25 = .ok (.getfield 38, 3) := by decide +kernel
theorem d_Drf_weave_28 : decode (mb M_Drf_weave) 28 = .ok (.aload_n 3, 1) := by decide +kernel
theorem d_Drf_weave_29 : decode (mb M_Drf_weave) 29 = .ok (.aload_n 2, 1) := by decide +kernel
theorem d_Drf_weave_30 : decode (mb M_Drf_weave) 30 = .ok (.iconst 0, 1) := by decide +kernel
theorem d_Drf_weave_31 : decode (mb M_Drf_weave) 31 = .ok (.invokevirtual 84, 3) := by decide +kernel
theorem d_Drf_weave_34 : decode (mb M_Drf_weave) 34 = .ok (.iconst 0, 1) := by decide +kernel
theorem d_Drf_weave_35 : decode (mb M_Drf_weave) 35 = .ok (.istore 4, 2) := by decide +kernel
theorem d_Drf_weave_37 : decode (mb M_Drf_weave) 37 = .ok (.iconst 0, 1) := by decide +kernel
theorem d_Drf_weave_38 : decode (mb M_Drf_weave) 38 = .ok (.istore 5, 2) := by decide +kernel
theorem d_Drf_weave_40 : decode (mb M_Drf_weave) 40 = .ok (.iconst 0, 1) := by decide +kernel
theorem d_Drf_weave_41 : decode (mb M_Drf_weave) 41 = .ok (.istore 6, 2) := by decide +kernel
theorem d_Drf_weave_43 : decode (mb M_Drf_weave) 43 = .ok (.iconst 0, 1) := by decide +kernel
theorem d_Drf_weave_44 : decode (mb M_Drf_weave) 44 = .ok (.istore 7, 2) := by decide +kernel
theorem d_Drf_weave_46 : decode (mb M_Drf_weave) 46 = .ok (.iload 7, 2) := by decide +kernel
theorem d_Drf_weave_48 : decode (mb M_Drf_weave) 48 = .ok (.aload_n 3, 1) := by decide +kernel
theorem d_Drf_weave_49 : decode (mb M_Drf_weave) 49 = .ok (.invokevirtual 88, 3) := by decide +kernel
theorem d_Drf_weave_52 : decode (mb M_Drf_weave) 52 = .ok (.if_icmp .ge 103, 3) := by decide +kernel
theorem d_Drf_weave_55 : decode (mb M_Drf_weave) 55 = .ok (.aload_n 0, 1) := by decide +kernel
theorem d_Drf_weave_56 : decode (mb M_Drf_weave) 56 = .ok (.getfield 34, 3) := by decide +kernel
theorem d_Drf_weave_59 : decode (mb M_Drf_weave) 59 = .ok (.iload 7, 2) := by decide +kernel
theorem d_Drf_weave_61 : decode (mb M_Drf_weave) 61 = .ok (.invokevirtual 92, 3) := by decide +kernel
theorem d_Drf_weave_64 : decode (mb M_Drf_weave) 64 = .ok (.istore 8, 2) := by decide +kernel
theorem d_Drf_weave_66 : decode (mb M_Drf_weave) 66 = .ok (.aload_n 0, 1) := by decide +kernel
theorem d_Drf_weave_67 : decode (mb M_Drf_weave) 67 = .ok (.getfield 38, 3) := by decide +kernel
theorem d_Drf_weave_70 : decode (mb M_Drf_weave) 70 = .ok (.iload 7, 2) := by decide +kernel
theorem d_Drf_weave_72 : decode (mb M_Drf_weave) 72 = .ok (.invokevirtual 92, 3) := by decide +kernel
theorem d_Drf_weave_75 : decode (mb M_Drf_weave) 75 = .ok (.istore 9, 2) := by decide +kernel
theorem d_Drf_weave_77 : decode (mb M_Drf_weave) 77 = .ok (.iload 8, 2) := by decide +kernel
theorem d_Drf_weave_79 : decode (mb M_Drf_weave) 79 = .ok (.iconst (-1), 1) := by decide +kernel
theorem d_Drf_weave_80 : decode (mb M_Drf_weave) 80 = .ok (.if_icmp .eq 69, 3) := by decide +kernel
theorem d_Drf_weave_83 : decode (mb M_Drf_weave) 83 = .ok (.iload 9, 2) := by decide +kernel
theorem d_Drf_weave_85 : decode (mb M_Drf_weave) 85 = .ok (.iconst (-1), 1) := by decide +kernel
theorem d_Drf_weave_86 : decode (mb M_Drf_weave) 86 = .ok (.if_icmp .eq 63, 3) := by decide +kernel
theorem d_Drf_weave_89 : decode (mb M_Drf_weave) 89 = .ok (.aload_n 0, 1) := by decide +kernel
theorem d_Drf_weave_90 : decode (mb M_Drf_weave) 90 = .ok (.aload_n 0, 1) := by decide +kernel
theorem d_Drf_weave_91 : decode (mb M_Drf_weave) 91 = .ok (.iload 5, 2) := by decide +kernel
theorem d_Drf_weave_93 : decode (mb M_Drf_weave) 93 = .ok (.iload 8, 2) := by decide +kernel
theorem d_Drf_weave_95 : decode (mb M_Drf_weave) 95 = .ok (.iload 6, 2) := by decide +kernel
theorem d_Drf_weave_97 : decode (mb M_Drf_weave) 97 = .ok (.iload 9, 2) := by decide +kernel
theorem d_Drf_weave_99 : decode (mb M_Drf_weave) 99 = .ok (.iload 4, 2) := by decide +kernel
theorem d_Drf_weave_101 : decode (mb M_Drf_weave) 101 = .ok (.iload 7, 2) := by decide +kernel
theorem d_Drf_weave_103 : decode (mb M_Drf_weave) 103 = .ok (.invokevirtual 96, 3) := by decide +kernel
theorem d_Drf_weave_106 : decode (mb M_Drf_weave) 106 = .ok (.invokevirtual 100, 3) := by decide +kernel
theorem d_Drf_weave_109 : decode (mb M_Drf_weave) 109 = .ok (.aload_n 0, 1) := by decide +kernel
theorem d_Drf_weave_110 : decode (mb M_Drf_weave) 110 = .ok (.getfield 12, 3) := by decide +kernel
theorem d_Drf_weave_113 : decode (mb M_Drf_weave) 113 = .ok (.aload_n 0, 1) := by decide +kernel
theorem d_Drf_weave_114 : decode (mb M_Drf_weave) 114 = .ok (.getfield 12, 3) := by decide +kernel
theorem d_Drf_weave_117 : decode (mb M_Drf_weave) 117 = .ok (.invokevirtual 88, 3) := by decide +kernel
theorem d_Drf_weave_120 : decode (mb M_Drf_weave) 120 = .ok (.aload_n 1, 1) := by decide +kernel
theorem d_Drf_weave_121 : decode (mb M_Drf_weave) 121 = .ok (.iload 8, 2) := by decide +kernel
theorem d_Drf_weave_123 : decode (mb M_Drf_weave) 123 = .ok (.iload 8, 2) := by decide +kernel
theorem d_Drf_weave_125 : decode (mb M_Drf_weave) 125 = .ok (.iconst 1, 1) := by decide +kernel
theorem d_Drf_weave_126 : decode (mb M_Drf_weave) 126 = .ok (.iadd, 1) := by decide +kernel
theorem d_Drf_weave_127 : decode (mb M_Drf_weave) 127 = .ok (.invokevirtual 104, 3) := by decide +kernel
theorem d_Drf_weave_130 : decode (mb M_Drf_weave) 130 = .ok (.pop, 1) := by decide +kernel
theorem d_Drf_weave_131 : decode (mb M_Drf_weave) 131 = .ok (.iload 8, 2) := by decide +kernel
theorem d_Drf_weave_133 : decode (mb M_Drf_weave) 133 = .ok (.iconst 1, 1) := by decide +kernel
theorem d_Drf_weave_134 : decode (mb M_Drf_weave) 134 = .ok (.iadd, 1) := by decide +kernel
theorem d_Drf_weave_135 : decode (mb M_Drf_weave) 135 = .ok (.istore 5, 2) := by decide +kernel
theorem d_Drf_weave_137 : decode (mb M_Drf_weave) 137 = .ok (.iload 9, 2) := by decide +kernel
theorem d_Drf_weave_139 : decode (mb M_Drf_weave) 139 = .ok (.iconst 1, 1) := by decide +kernel
theorem d_Drf_weave_140 : decode (mb M_Drf_weave) 140 = .ok (.iadd, 1) := by decide +kernel
theorem d_Drf_weave_141 : decode (mb M_Drf_weave) 141 = .ok (.istore 6, 2) := by decide +kernel
theorem d_Drf_weave_143 : decode (mb M_Drf_weave) 143 = .ok (.iload 7, 2) := by decide +kernel
theorem d_Drf_weave_145 : decode (mb M_Drf_weave) 145 = .ok (.iconst 1, 1) := by decide +kernel
theorem d_Drf_weave_146 : decode (mb M_Drf_weave) 146 = .ok (.iadd, 1) := by decide +kernel
theorem d_Drf_weave_147 : decode (mb M_Drf_weave) 147 = .ok (.istore 4, 2) := by decide +kernel
theorem d_Drf_weave_149 : decode (mb M_Drf_weave) 149 = .ok (.iinc 7 1, 3) := by decide +kernel
theorem d_Drf_weave_152 : decode (mb M_Drf_weave) 152 = .ok (.goto (-106), 3) := by decide +kernel
theorem d_Drf_weave_155 : decode (mb M_Drf_weave) 155 = .ok (.aload_n 0, 1) := by decide +kernel
theorem d_Drf_weave_156 : decode (mb M_Drf_weave) 156 = .ok (.aload_n 0, 1) := by decide +kernel
theorem d_Drf_weave_157 : decode (mb M_Drf_weave) 157 = .ok (.iload 5, 2) := by decide +kernel
theorem d_Drf_weave_159 : decode (mb M_Drf_weave) 159 = .ok (.aload_n 1, 1) := by decide +kernel
theorem d_Drf_weave_160 : decode (mb M_Drf_weave) 160 = .ok (.invokevirtual 88, 3) := by decide +kernel
theorem d_Drf_weave_163 : decode (mb M_Drf_weave) 163 = .ok (.iload 6, 2) := by decide +kernel
theorem d_Drf_weave_165 : decode (mb M_Drf_weave) 165 = .ok (.aload_n 2, 1) := by decide +kernel
theorem d_Drf_weave_166 : decode (mb M_Drf_weave) 166 = .ok (.invokevirtual 88, 3) := by decide +kernel
theorem d_Drf_weave_169 : decode (mb M_Drf_weave) 169 = .ok (.iload 4, 2) := by decide +kernel
theorem d_Drf_weave_171 : decode (mb M_Drf_weave) 171 = .ok (.aload_n 3, 1) := by decide +kernel
theorem d_Drf_weave_172 : decode (mb M_Drf_weave) 172 = .ok (.invokevirtual 88, 3) := by decide +kernel
theorem d_Drf_weave_175 : decode (mb M_Drf_weave) 175 = .ok (.invokevirtual 96, 3) := by decide +kernel
theorem d_Drf_weave_178 : decode (mb M_Drf_weave) 178 = .ok (.invokevirtual 100, 3) := by decide +kernel
theorem d_Drf_weave_181 : decode (mb M_Drf_weave) 181 = .ok (.return_, 1) := by decide +kernel
theorem d_Drf_weavePiece_0 : decode (mb M_Drf_weavePiece) 0 = .ok (.aload_n 0, 1) := by decide +kernel
theorem d_Drf_weavePiece_1 : decode (mb M_Drf_weavePiece) 1 = .ok (.aload_n 1, 1) := by decide +kernel
theorem d_Drf_weavePiece_2 : decode (mb M_Drf_weavePiece) 2 = .ok (.iconst 0, 1) := by decide +kernel
theorem d_Drf_weavePiece_3 : decode (mb M_Drf_weavePiece) 3 = .ok (.iconst 2, 1) := by decide +kernel
theorem d_Drf_weavePiece_4 : decode (mb M_Drf_weavePiece) 4 = .ok (.invokevirtual 128, 3) := by decide +kernel
theorem d_Drf_weavePiece_7 : decode (mb M_Drf_weavePiece) 7 = .ok (.ifCond .eq 17, 3) := by decide +kernel
theorem d_Drf_weavePiece_10 : decode (mb M_Drf_weavePiece) 10 = .ok (.aload_n 0, 1) := by decide +kernel
theorem d_Drf_weavePiece_11 : decode (mb M_Drf_weavePiece) 11 = .ok (.aload_n 1, 1) := by decide +kernel
theorem d_Drf_weavePiece_12 : decode (mb M_Drf_weavePiece) 12 = .ok (.iconst 1, 1) := by decide +kernel
theorem d_Drf_weavePiece_13 : decode (mb M_Drf_weavePiece) 13 = .ok (.aload_n 1, 1) := by decide +kernel
theorem d_Drf_weavePiece_14 : decode (mb M_Drf_weavePiece) 14 = .ok (.getfield 121, 3) := by decide +kernel
theorem d_Drf_weavePiece_17 : decode (mb M_Drf_weavePiece) 17 = .ok (.invokevirtual 132, 3) := by decide +kernel
theorem d_Drf_weavePiece_20 : decode (mb M_Drf_weavePiece) 20 = .ok (.pop, 1) := by decide +kernel
theorem d_Drf_weavePiece_21 : decode (mb M_Drf_weavePiece) 21 = .ok (.goto 66, 3) := by decide +kernel
theorem d_Drf_weavePiece_24 : decode (mb M_Drf_weavePiece) 24 = .ok (.aload_n 0, 1) := by decide +kernel
theorem d_Drf_weavePiece_25 : decode (mb M_Drf_weavePiece) 25 = .ok (.aload_n 1, 1) := by decide +kernel
theorem d_Drf_weavePiece_26 : decode (mb M_Drf_weavePiece) 26 = .ok (.iconst 1, 1) := by decide +kernel
theorem d_Drf_weavePiece_27 : decode (mb M_Drf_weavePiece) 27 = .ok (.iconst 2, 1) := by decide +kernel
theorem d_Drf_weavePiece_28 : decode (mb M_Drf_weavePiece) 28 = .ok (.invokevirtual 128, 3) := by decide +kernel
theorem d_Drf_weavePiece_31 : decode (mb M_Drf_weavePiece) 31 = .ok (.ifCond .ne 13, 3) := by decide +kernel
theorem d_Drf_weavePiece_34 : decode (mb M_Drf_weavePiece) 34 = .ok (.aload_n 0, 1) := by decide +kernel
theorem d_Drf_weavePiece_35 : decode (mb M_Drf_weavePiece) 35 = .ok (.aload_n 1, 1) := by decide +kernel
theorem d_Drf_weavePiece_36 : decode (mb M_Drf_weavePiece) 36 = .ok (.iconst 1, 1) := by decide +kernel
theorem d_Drf_weavePiece_37 : decode (mb M_Drf_weavePiece) 37 = .ok (.iconst 0, 1) := by decide +kernel
theorem d_Drf_weavePiece_38 : decode (mb M_Drf_weavePiece) 38 = .ok (.invokevirtual 128, 3) := by decide +kernel
theorem d_Drf_weavePiece_41 : decode (mb M_Drf_weavePiece) 41 = .ok (.ifCond .eq 17, 3) := by decide +kernel
theorem d_Drf_weavePiece_44 : decode (mb M_Drf_weavePiece) 44 = .ok (.aload_n 0, 1) := by decide +kernel
theorem d_Drf_weavePiece_45 : decode (mb M_Drf_weavePiece) 45 = .ok (.aload_n 1, 1) := by decide +kernel
theorem d_Drf_weavePiece_46 : decode (mb M_Drf_weavePiece) 46 = .ok (.iconst 0, 1) := by decide +kernel
theorem d_Drf_weavePiece_47 : decode (mb M_Drf_weavePiece) 47 = .ok (.aload_n 1, 1) := by decide +kernel
theorem d_Drf_weavePiece_48 : decode (mb M_Drf_weavePiece) 48 = .ok (.getfield 121, 3) := by decide +kernel
theorem d_Drf_weavePiece_51 : decode (mb M_Drf_weavePiece) 51 = .ok (.invokevirtual 132, 3) := by decide +kernel
theorem d_Drf_weavePiece_54 : decode (mb M_Drf_weavePiece) 54 = .ok (.pop, 1) := by decide +kernel
theorem d_Drf_weavePiece_55 : decode (mb M_Drf_weavePiece) 55 = .ok (.goto 32, 3) := by decide +kernel
theorem d_Drf_weavePiece_58 : decode (mb M_Drf_weavePiece) 58 = .ok (.aload_n 0, 1) := by decide +kernel
theorem d_Drf_weavePiece_59 : decode (mb M_Drf_weavePiece) 59 = .ok (.getfield 53, 3) := by decide +kernel
theorem d_Drf_weavePiece_62 : decode (mb M_Drf_weavePiece) 62 = .ok (.bipush 21, 2) := by decide +kernel
theorem d_Drf_weavePiece_64 : decode (mb M_Drf_weavePiece) 64 = .ok (.if_icmp .ge 23, 3) := by decide +kernel
theorem d_Drf_weavePiece_67 : decode (mb M_Drf_weavePiece) 67 = .ok (.aload_n 0, 1) := by decide +kernel
theorem d_Drf_weavePiece_68 : decode (mb M_Drf_weavePiece) 68 = .ok (.dup, 1) := by decide +kernel
theorem d_Drf_weavePiece_69 : decode (mb M_Drf_weavePiece) 69 = .ok (.getfield 53, 3) := by decide +kernel
theorem d_Drf_weavePiece_72 : decode (mb M_Drf_weavePiece) 72 = .ok (.iconst 1, 1) := by decide +kernel
theorem d_Drf_weavePiece_73 : decode (mb M_Drf_weavePiece) 73 = .ok (.iadd, 1) := by decide +kernel
theorem d_Drf_weavePiece_74 : decode (mb M_Drf_weavePiece) 74 = .ok (.putfield 53, 3) := by decide +kernel
theorem d_Drf_weavePiece_77 : decode (mb M_Drf_weavePiece) 77 = .ok (.aload_n 0, 1) := by decide +kernel
theorem d_Drf_weavePiece_78 : decode (mb M_Drf_weavePiece) 78 = .ok (.dup, 1) := by decide +kernel
theorem d_Drf_weavePiece_79 : decode (mb M_Drf_weavePiece) 79 = .ok (.getfield 57, 3) := by decide +kernel
theorem d_Drf_weavePiece_82 : decode (mb M_Drf_weavePiece) 82 = .ok (.iconst 1, 1) := by decide +kernel
theorem d_Drf_weavePiece_83 : decode (mb M_Drf_weavePiece) 83 = .ok (.iadd, 1) := by decide +kernel
theorem d_Drf_weavePiece_84 : decode (mb M_Drf_weavePiece) 84 = .ok (.putfield 57, 3) := by decide +kernel
theorem d_Drf_weavePiece_87 : decode (mb M_Drf_weavePiece) 87 = .ok (.return_, 1) := by decide +kernel
theorem d_Edt_init_0 : decode (mb M_Edt_init) 0 = .ok (.aload_n 0, 1) := by decide +kernel
theorem d_Edt_init_1 : decode (mb M_Edt_init) 1 = .ok (.invokespecial 1, 3) := by decide +kernel
theorem d_Edt_init_4 : decode (mb M_Edt_init) 4 = .ok (.aload_n 0, 1) := by decide +kernel
theorem d_Edt_init_5 : decode (mb M_Edt_init) 5 = .ok (.new 7, 3) := by decide +kernel
theorem d_Edt_init_8 : decode (mb M_Edt_init) 8 = .ok (.dup, 1) := by decide +kernel
theorem d_Edt_init_9 : decode (mb M_Edt_init) 9 = .ok (.invokespecial 9, 3) := by decide +kernel
theorem d_Edt_init_12 : decode (mb M_Edt_init) 12 = .ok (.putfield 10, 3) := by decide +kernel
theorem d_Edt_init_15 : decode (mb M_Edt_init) 15 = .ok (.aload_n 0, 1) := by decide +kernel
theorem d_Edt_init_16 : decode (mb M_Edt_init) 16 = .ok (.iload_n 1, 1) := by decide +kernel
theorem d_Edt_init_17 : decode (mb M_Edt_init) 17 = .ok (.putfield 16, 3) := by decide +kernel
theorem d_Edt_init_20 : decode (mb M_Edt_init) 20 = .ok (.aload_n 0, 1) := by decide +kernel
theorem d_Edt_init_21 : decode (mb M_Edt_init) 21 = .ok (.iload_n 2, 1) := by decide +kernel
theorem d_Edt_init_22 : decode (mb M_Edt_init) 22 = .ok (.putfield 20, 3) := by decide +kernel
theorem d_Edt_init_25 : decode (mb M_Edt_init) 25 = .ok (.aload_n 0, 1) := by decide +kernel
theorem d_Edt_init_26 : decode (mb M_Edt_init) 26 = .ok (.iload_n 3, 1) := by decide +kernel
theorem d_Edt_init_27 : decode (mb M_Edt_init) 27 = .ok (.putfield 23, 3) := by decide +kernel
theorem d_Edt_init_30 : decode (mb M_Edt_init) 30 = .ok (.aload_n 0, 1) := by decide +kernel
theorem d_Edt_init_31 : decode (mb M_Edt_init) 31 = .ok (.lload 4, 2) := by decide +kernel
theorem d_Edt_init_33 : decode (mb M_Edt_init) 33 = .ok (.putfield 26, 3) := by decide +kernel
theorem d_Edt_init_36 : decode (mb M_Edt_init) 36 = .ok (.aload_n 0, 1) := by decide +kernel
theorem d_Edt_init_37 : decode (mb M_Edt_init) 37 = .ok (.aload 6, 2) := by decide +kernel
theorem d_Edt_init_39 : decode (mb M_Edt_init) 39 = .ok (.putfield 30, 3) := by decide +kernel
theorem d_Edt_init_42 : decode (mb M_Edt_init) 42 = .ok (.return_, 1) := by decide +kernel
theorem d_Hnk_findIn_0 : decode (mb M_Hnk_findIn) 0 = .ok (.bipush 80, 2) := by decide +kernel
theorem d_Hnk_findIn_2 : decode (mb M_Hnk_findIn) 2 = .ok (.iload_n 2, 1) := by decide +kernel
theorem d_Hnk_findIn_3 : decode (mb M_Hnk_findIn) 3 = .ok (.aload_n 1, 1) := by decide +kernel
theorem d_Hnk_findIn_4 : decode (mb M_Hnk_findIn) 4 = .ok (.invokevirtual 34, 3) := by decide +kernel
theorem d_Hnk_findIn_7 : decode (mb M_Hnk_findIn) 7 = .ok (.iload_n 2, 1) := by decide +kernel
theorem d_Hnk_findIn_8 : decode (mb M_Hnk_findIn) 8 = .ok (.isub, 1) := by decide +kernel
theorem d_Hnk_findIn_9 : decode (mb M_Hnk_findIn) 9 = .ok (.invokestatic 40, 3) := by decide +kernel
theorem d_Hnk_findIn_12 : decode (mb M_Hnk_findIn) 12 = .ok (.invokestatic 46, 3) := by decide +kernel
theorem d_Hnk_findIn_15 : decode (mb M_Hnk_findIn) 15 = .ok (.istore 5, 2) := by decide +kernel
theorem d_Hnk_findIn_17 : decode (mb M_Hnk_findIn) 17 = .ok (.iconst 0, 1) := by decide +kernel
theorem d_Hnk_findIn_18 : decode (mb M_Hnk_findIn) 18 = .ok (.istore 6, 2) := by decide +kernel
theorem d_Hnk_findIn_20 : decode (mb M_Hnk_findIn) 20 = .ok (.iload 6, 2) := by decide +kernel
theorem d_Hnk_findIn_22 : decode (mb M_Hnk_findIn) 22 = .ok (.iload 4, 2) := by decide +kernel
theorem d_Hnk_findIn_24 : decode (mb M_Hnk_findIn) 24 = .ok (.if_icmp .gt 65, 3) := by decide +kernel
theorem d_Hnk_findIn_27 : decode (mb M_Hnk_findIn) 27 = .ok (.iconst 0, 1) := by decide +kernel
theorem d_Hnk_findIn_28 : decode (mb M_Hnk_findIn) 28 = .ok (.istore 7, 2) := by decide +kernel
theorem d_Hnk_findIn_30 : decode (mb M_Hnk_findIn) 30 = .ok (.iload 7, 2) := by decide +kernel
theorem d_Hnk_findIn_32 : decode (mb M_Hnk_findIn) 32 = .ok (.iload 5, 2) := by decide +kernel
theorem d_Hnk_findIn_34 : decode (mb M_Hnk_findIn) 34 = .ok (.if_icmp .gt 49, 3) := by decide +kernel
theorem d_Hnk_findIn_37 : decode (mb M_Hnk_findIn) 37 = .ok (.aload_n 0, 1) := by decide +kernel
theorem d_Hnk_findIn_38 : decode (mb M_Hnk_findIn) 38 = .ok (.aload_n 1, 1) := by decide +kernel
theorem d_Hnk_findIn_39 : decode (mb M_Hnk_findIn) 39 = .ok (.iload_n 2, 1) := by decide +kernel
theorem d_Hnk_findIn_40 : decode (mb M_Hnk_findIn) 40 = .ok (.iload 7, 2) := by decide +kernel
theorem d_Hnk_findIn_42 : decode (mb M_Hnk_findIn) 42 = .ok (.isub, 1) := by decide +kernel
theorem d_Hnk_findIn_43 : decode (mb M_Hnk_findIn) 43 = .ok (.iload_n 3, 1) := by decide +kernel
theorem d_Hnk_findIn_44 : decode (mb M_Hnk_findIn) 44 = .ok (.iload 6, 2) := by decide +kernel
theorem d_Hnk_findIn_46 : decode (mb M_Hnk_findIn) 46 = .ok (.invokevirtual 49, 3) := by decide +kernel
theorem d_Hnk_findIn_49 : decode (mb M_Hnk_findIn) 49 = .ok (.ifCond .eq 8, 3) := by decide +kernel
theorem d_Hnk_findIn_52 : decode (mb M_Hnk_findIn) 52 = .ok (.iload_n 2, 1) := by decide +kernel
theorem d_Hnk_findIn_53 : decode (mb M_Hnk_findIn) 53 = .ok (.iload 7, 2) := by decide +kernel
theorem d_Hnk_findIn_55 : decode (mb M_Hnk_findIn) 55 = .ok (.isub, 1) := by decide +kernel
theorem d_Hnk_findIn_56 : decode (mb M_Hnk_findIn) 56 = .ok (.ireturn, 1) := by decide +kernel
theorem d_Hnk_findIn_57 : decode (mb M_Hnk_findIn) 57 = .ok (.aload_n 0, 1) := by decide +kernel
theorem d_Hnk_findIn_58 : decode (mb M_Hnk_findIn) 58 = .ok (.aload_n 1, 1) := by decide +kernel
theorem d_Hnk_findIn_59 : decode (mb M_Hnk_findIn) 59 = .ok (.iload_n 2, 1) := by decide +kernel
theorem d_Hnk_findIn_60 : decode (mb M_Hnk_findIn) 60 = .ok (.iload 7, 2) := by decide +kernel
theorem d_Hnk_findIn_62 : decode (mb M_Hnk_findIn) 62 = .ok (.iadd, 1) := by decide +kernel
theorem d_Hnk_findIn_63 : decode (mb M_Hnk_findIn) 63 = .ok (.iload_n 3, 1) := by decide +kernel
theorem d_Hnk_findIn_64 : decode (mb M_Hnk_findIn) 64 = .ok (.iload 6, 2) := by decide +kernel
theorem d_Hnk_findIn_66 : decode (mb M_Hnk_findIn) 66 = .ok (.invokevirtual 49, 3) := by decide +kernel
theorem d_Hnk_findIn_69 : decode (mb M_Hnk_findIn) 69 = .ok (.ifCond .eq 8, 3) := by decide +kernel
theorem d_Hnk_findIn_72 : decode (mb M_Hnk_findIn) 72 = .ok (.iload_n 2, 1) := by decide +kernel
theorem d_Hnk_findIn_73 : decode (mb M_Hnk_findIn) 73 = .ok (.iload 7, 2) := by decide +kernel
theorem d_Hnk_findIn_75 : decode (mb M_Hnk_findIn) 75 = .ok (.iadd, 1) := by decide +kernel
theorem d_Hnk_findIn_76 : decode (mb M_Hnk_findIn) 76 = .ok (.ireturn, 1) := by decide +kernel
theorem d_Hnk_findIn_77 : decode (mb M_Hnk_findIn) 77 = .ok (.iinc 7 1, 3) := by decide +kernel
theorem d_Hnk_findIn_80 : decode (mb M_Hnk_findIn) 80 = .ok (.goto (-50), 3) := by decide +kernel
theorem d_Hnk_findIn_83 : decode (mb M_Hnk_findIn) 83 = .ok (.iinc 6 1, 3) := by decide +kernel
theorem d_Hnk_findIn_86 : decode (mb M_Hnk_findIn) 86 = .ok (.goto (-66), 3) := by decide +kernel
theorem d_Hnk_findIn_89 : decode (mb M_Hnk_findIn) 89 = .ok (.iconst (-1), 1) := by decide +kernel
theorem d_Hnk_findIn_90 : decode (mb M_Hnk_findIn) 90 = .ok (.ireturn, 1) := by decide +kernel
theorem d_Hnk_fits_0 : decode (mb M_Hnk_fits) 0 = .ok (.iload 4, 2) := by decide +kernel
theorem d_Hnk_fits_2 : decode (mb M_Hnk_fits) 2 = .ok (.aload_n 0, 1) := by decide +kernel
theorem d_Hnk_fits_3 : decode (mb M_Hnk_fits) 3 = .ok (.getfield 18, 3) := by decide +kernel
theorem d_Hnk_fits_6 : decode (mb M_Hnk_fits) 6 = .ok (.arraylength, 1) := by decide +kernel
theorem d_Hnk_fits_7 : decode (mb M_Hnk_fits) 7 = .ok (.invokestatic 46, 3) := by decide +kernel
theorem d_Hnk_fits_10 : decode (mb M_Hnk_fits) 10 = .ok (.istore 5, 2) := by decide +kernel
theorem d_Hnk_fits_12 : decode (mb M_Hnk_fits) 12 = .ok (.aload_n 0, 1) := by decide +kernel
theorem d_Hnk_fits_13 : decode (mb M_Hnk_fits) 13 = .ok (.getfield 28, 3) := by decide +kernel
theorem d_Hnk_fits_16 : decode (mb M_Hnk_fits) 16 = .ok (.arraylength, 1) := by decide +kernel
theorem d_Hnk_fits_17 : decode (mb M_Hnk_fits) 17 = .ok (.iload 4, 2) := by decide +kernel
theorem d_Hnk_fits_19 : decode (mb M_Hnk_fits) 19 = .ok (.aload_n 0, 1) := by decide +kernel
theorem d_Hnk_fits_20 : decode (mb M_Hnk_fits) 20 = .ok (.getfield 28, 3) := by decide +kernel
theorem d_Hnk_fits_23 : decode (mb M_Hnk_fits) 23 = .ok (.arraylength, 1) := by decide +kernel
theorem d_Hnk_fits_24 : decode (mb M_Hnk_fits) 24 = .ok (.invokestatic 46, 3) := by decide +kernel
theorem d_Hnk_fits_27 : decode (mb M_Hnk_fits) 27 = .ok (.isub, 1) := by decide +kernel
theorem d_Hnk_fits_28 : decode (mb M_Hnk_fits) 28 = .ok (.istore 6, 2) := by decide +kernel
theorem d_Hnk_fits_30 : decode (mb M_Hnk_fits) 30 = .ok (.iload_n 2, 1) := by decide +kernel
theorem d_Hnk_fits_31 : decode (mb M_Hnk_fits) 31 = .ok (.aload_n 0, 1) := by decide +kernel
theorem d_Hnk_fits_32 : decode (mb M_Hnk_fits) 32 = .ok (.getfield 18, 3) := by decide +kernel
theorem d_Hnk_fits_35 : decode (mb M_Hnk_fits) 35 = .ok (.arraylength, 1) := by decide +kernel
theorem d_Hnk_fits_36 : decode (mb M_Hnk_fits) 36 = .ok (.iload 5, 2) := by decide +kernel
theorem d_Hnk_fits_38 : decode (mb M_Hnk_fits) 38 = .ok (.isub, 1) := by decide +kernel
theorem d_Hnk_fits_39 : decode (mb M_Hnk_fits) 39 = .ok (.isub, 1) := by decide +kernel
theorem d_Hnk_fits_40 : decode (mb M_Hnk_fits) 40 = .ok (.istore 7, 2) := by decide +kernel
theorem d_Hnk_fits_42 : decode (mb M_Hnk_fits) 42 = .ok (.iload 7, 2) := by decide +kernel
theorem d_Hnk_fits_44 : decode (mb M_Hnk_fits) 44 = .ok (.iload_n 3, 1) := by decide +kernel
theorem d_Hnk_fits_45 : decode (mb M_Hnk_fits) 45 = .ok (.if_icmp .lt 66, 3) := by decide +kernel
theorem d_Hnk_fits_48 : decode (mb M_Hnk_fits) 48 = .ok (.aload_n 1, 1) := by decide +kernel
theorem d_Hnk_fits_49 : decode (mb M_Hnk_fits) 49 = .ok (.iload 7, 2) := by decide +kernel
theorem d_Hnk_fits_51 : decode (mb M_Hnk_fits) 51 = .ok (.aload_n 0, 1) := by decide +kernel
theorem d_Hnk_fits_52 : decode (mb M_Hnk_fits) 52 = .ok (.getfield 18, 3) := by decide +kernel
theorem d_Hnk_fits_55 : decode (mb M_Hnk_fits) 55 = .ok (.iload 5, 2) := by decide +kernel
theorem d_Hnk_fits_57 : decode (mb M_Hnk_fits) 57 = .ok (.aload_n 0, 1) := by decide +kernel
theorem d_Hnk_fits_58 : decode (mb M_Hnk_fits) 58 = .ok (.getfield 18, 3) := by decide +kernel
theorem d_Hnk_fits_61 : decode (mb M_Hnk_fits) 61 = .ok (.arraylength, 1) := by decide +kernel
theorem d_Hnk_fits_62 : decode (mb M_Hnk_fits) 62 = .ok (.invokevirtual 53, 3) := by decide +kernel
theorem d_Hnk_fits_65 : decode (mb M_Hnk_fits) 65 = .ok (.ifCond .eq 46, 3) := by decide +kernel
theorem d_Hnk_fits_68 : decode (mb M_Hnk_fits) 68 = .ok (.aload_n 1, 1) := by decide +kernel
theorem d_Hnk_fits_69 : decode (mb M_Hnk_fits) 69 = .ok (.iload_n 2, 1) := by decide +kernel
theorem d_Hnk_fits_70 : decode (mb M_Hnk_fits) 70 = .ok (.aload_n 0, 1) := by decide +kernel
theorem d_Hnk_fits_71 : decode (mb M_Hnk_fits) 71 = .ok (.getfield 22, 3) := by decide +kernel
theorem d_Hnk_fits_74 : decode (mb M_Hnk_fits) 74 = .ok (.iconst 0, 1) := by decide +kernel
theorem d_Hnk_fits_75 : decode (mb M_Hnk_fits) 75 = .ok (.aload_n 0, 1) := by decide +kernel
theorem d_Hnk_fits_76 : decode (mb M_Hnk_fits) 76 = .ok (.getfield 22, 3) := by decide +kernel
theorem d_Hnk_fits_79 : decode (mb M_Hnk_fits) 79 = .ok (.arraylength, 1) := by decide +kernel
theorem d_Hnk_fits_80 : decode (mb M_Hnk_fits) 80 = .ok (.invokevirtual 53, 3) := by decide +kernel
theorem d_Hnk_fits_83 : decode (mb M_Hnk_fits) 83 = .ok (.ifCond .eq 28, 3) := by decide +kernel
theorem d_Hnk_fits_86 : decode (mb M_Hnk_fits) 86 = .ok (.aload_n 1, 1) := by decide +kernel
theorem d_Hnk_fits_87 : decode (mb M_Hnk_fits) 87 = .ok (.iload_n 2, 1) := by decide +kernel
theorem d_Hnk_fits_88 : decode (mb M_Hnk_fits) 88 = .ok (.aload_n 0, 1) := by decide +kernel
theorem d_Hnk_fits_89 : decode (mb M_Hnk_fits) 89 = .ok (.getfield 22, 3) := by decide +kernel
theorem d_Hnk_fits_92 : decode (mb M_Hnk_fits) 92 = .ok (.arraylength, 1) := by decide +kernel
theorem d_Hnk_fits_93 : decode (mb M_Hnk_fits) 93 = .ok (.iadd, 1) := by decide +kernel
theorem d_Hnk_fits_94 : decode (mb M_Hnk_fits) 94 = .ok (.aload_n 0, 1) := by decide +kernel
theorem d_Hnk_fits_95 : decode (mb M_Hnk_fits) 95 = .ok (.getfield 28, 3) := by decide +kernel
theorem d_Hnk_fits_98 : decode (mb M_Hnk_fits) 98 = .ok (.iconst 0, 1) := by decide +kernel
theorem d_Hnk_fits_99 : decode (mb M_Hnk_fits) 99 = .ok (.iload 6, 2) := by decide +kernel
theorem d_Hnk_fits_101 : decode (mb M_Hnk_fits) 101 = .ok (.invokevirtual 53, 3) := by decide +kernel
theorem d_Hnk_fits_104 : decode (mb M_Hnk_fits) 104 = .ok (.ifCond .eq 7, 3) := by decide +kernel
theorem d_Hnk_fits_107 : decode (mb M_Hnk_fits) 107 = .ok (.iconst 1, 1) := by decide +kernel
theorem d_Hnk_fits_108 : decode (mb M_Hnk_fits) 108 = .ok (.goto 4, 3) := by decide +kernel
theorem d_Hnk_fits_111 : decode (mb M_Hnk_fits) 111 = .ok (.iconst 0, 1) := by decide +kernel
theorem d_Hnk_fits_112 : decode (mb M_Hnk_fits) 112 = .ok (.ireturn, 1) := by decide +kernel
theorem d_Hnk_init_0 : decode (mb M_Hnk_init) 0 = .ok (.aload_n 0, 1) := by decide +kernel
theorem d_Hnk_init_1 : decode (mb M_Hnk_init) 1 = .ok (.invokespecial 3, 3) := by decide +kernel
theorem d_Hnk_init_4 : decode (mb M_Hnk_init) 4 = .ok (.aload_n 0, 1) := by decide +kernel
theorem d_Hnk_init_5 : decode (mb M_Hnk_init) 5 = .ok (.iload_n 1, 1) := by decide +kernel
theorem d_Hnk_init_6 : decode (mb M_Hnk_init) 6 = .ok (.putfield 9, 3) := by decide +kernel
theorem d_Hnk_init_9 : decode (mb M_Hnk_init) 9 = .ok (.aload_n 0, 1) := by decide +kernel
theorem d_Hnk_init_10 : decode (mb M_Hnk_init) 10 = .ok (.iload_n 2, 1) := by decide +kernel
theorem d_Hnk_init_11 : decode (mb M_Hnk_init) 11 = .ok (.putfield 15, 3) := by decide +kernel
theorem d_Hnk_init_14 : decode (mb M_Hnk_init) 14 = .ok (.aload_n 0, 1) := by decide +kernel
theorem d_Hnk_init_15 : decode (mb M_Hnk_init) 15 = .ok (.aload_n 3, 1) := by decide +kernel
theorem d_Hnk_init_16 : decode (mb M_Hnk_init) 16 = .ok (.putfield 18, 3) := by decide +kernel
theorem d_Hnk_init_19 : decode (mb M_Hnk_init) 19 = .ok (.aload_n 0, 1) := by decide +kernel
theorem d_Hnk_init_20 : decode (mb M_Hnk_init) 20 = .ok (.aload 4, 2) := by decide +kernel
theorem d_Hnk_init_22 : decode (mb M_Hnk_init) 22 = .ok (.putfield 22, 3) := by decide +kernel
theorem d_Hnk_init_25 : decode (mb M_Hnk_init) 25 = .ok (.aload_n 0, 1) := by decide +kernel
theorem d_Hnk_init_26 : decode (mb M_Hnk_init) 26 = .ok (.aload 5, 2) := by decide +kernel
theorem d_Hnk_init_28 : decode (mb M_Hnk_init) 28 = .ok (.putfield 25, 3) := by decide +kernel
theorem d_Hnk_init_31 : decode (mb M_Hnk_init) 31 = .ok (.aload_n 0, 1) := by decide +kernel
theorem d_Hnk_init_32 : decode (mb M_Hnk_init) 32 = .ok (.aload 6, 2) := by decide +kernel
theorem d_Hnk_init_34 : decode (mb M_Hnk_init) 34 = .ok (.putfield 28, 3) := by decide +kernel
theorem d_Hnk_init_37 : decode (mb M_Hnk_init) 37 = .ok (.return_, 1) := by decide +kernel
theorem d_Hnk_part_0 : decode (mb M_Hnk_part) 0 = .ok (.iload_n 1, 1) := by decide +kernel
theorem d_Hnk_part_1 : decode (mb M_Hnk_part) 1 = .ok (.tableswitch 54 0 3 #[31, 36, 42, 48], 31) := by decide +kernel
theorem d_Hnk_part_32 : decode (mb M_Hnk_part) 32 = .ok (.aload_n 0, 1) := by decide +kernel
theorem d_Hnk_part_33 : decode (mb M_Hnk_part) 33 = .ok (.getfield 9, 3) := by decide +kernel
theorem d_Hnk_part_36 : decode (mb M_Hnk_part) 36 = .ok (.ireturn, 1) := by decide +kernel
theorem d_Hnk_part_37 : decode (mb M_Hnk_part) 37 = .ok (.aload_n 0, 1) := by decide +kernel
theorem d_Hnk_part_38 : decode (mb M_Hnk_part) 38 = .ok (.getfield 22, 3) := by decide +kernel
theorem d_Hnk_part_41 : decode (mb M_Hnk_part) 41 = .ok (.arraylength, 1) := by decide +kernel
theorem d_Hnk_part_42 : decode (mb M_Hnk_part) 42 = .ok (.ireturn, 1) := by decide +kernel
theorem d_Hnk_part_43 : decode (mb M_Hnk_part) 43 = .ok (.aload_n 0, 1) := by decide +kernel
theorem d_Hnk_part_44 : decode (mb M_Hnk_part) 44 = .ok (.getfield 25, 3) := by decide +kernel
theorem d_Hnk_part_47 : decode (mb M_Hnk_part) 47 = .ok (.arraylength, 1) := by decide +kernel
theorem d_Hnk_part_48 : decode (mb M_Hnk_part) 48 = .ok (.ireturn, 1) := by decide +kernel
theorem d_Hnk_part_49 : decode (mb M_Hnk_part) 49 = .ok (.aload_n 0, 1) := by decide +kernel
theorem d_Hnk_part_50 : decode (mb M_Hnk_part) 50 = .ok (.getfield 18, 3) := by decide +kernel
theorem d_Hnk_part_53 : decode (mb M_Hnk_part) 53 = .ok (.arraylength, 1) := by decide +kernel
theorem d_Hnk_part_54 : decode (mb M_Hnk_part) 54 = .ok (.ireturn, 1) := by decide +kernel
theorem d_Hnk_part_55 : decode (mb M_Hnk_part) 55 = .ok (.aload_n 0, 1) := by decide +kernel
theorem d_Hnk_part_56 : decode (mb M_Hnk_part) 56 = .ok (.getfield 28, 3) := by decide +kernel
theorem d_Hnk_part_59 : decode (mb M_Hnk_part) 59 = .ok (.arraylength, 1) := by decide +kernel
theorem d_Hnk_part_60 : decode (mb M_Hnk_part) 60 = .ok (.ireturn, 1) := by decide +kernel
theorem d_Hnk_putAt_0 : decode (mb M_Hnk_putAt) 0 = .ok (.iconst 0, 1) := by decide +kernel
theorem d_Hnk_putAt_1 : decode (mb M_Hnk_putAt) 1 = .ok (.istore_n 3, 1) := by decide +kernel
theorem d_Hnk_putAt_2 : decode (mb M_Hnk_putAt) 2 = .ok (.iload_n 3, 1) := by decide +kernel
theorem d_Hnk_putAt_3 : decode (mb M_Hnk_putAt) 3 = .ok (.aload_n 0, 1) := by decide +kernel
theorem d_Hnk_putAt_4 : decode (mb M_Hnk_putAt) 4 = .ok (.getfield 22, 3) := by decide +kernel
theorem d_Hnk_putAt_7 : decode (mb M_Hnk_putAt) 7 = .ok (.arraylength, 1) := by decide +kernel
theorem d_Hnk_putAt_8 : decode (mb M_Hnk_putAt) 8 = .ok (.if_icmp .ge 14, 3) := by decide +kernel
theorem d_Hnk_putAt_11 : decode (mb M_Hnk_putAt) 11 = .ok (.aload_n 1, 1) := by decide +kernel
theorem d_Hnk_putAt_12 : decode (mb M_Hnk_putAt) 12 = .ok (.iload_n 2, 1) := by decide +kernel
theorem d_Hnk_putAt_13 : decode (mb M_Hnk_putAt) 13 = .ok (.invokevirtual 57, 3) := by decide +kernel
theorem d_Hnk_putAt_16 : decode (mb M_Hnk_putAt) 16 = .ok (.iinc 3 1, 3) := by decide +kernel
theorem d_Hnk_putAt_19 : decode (mb M_Hnk_putAt) 19 = .ok (.goto (-17), 3) := by decide +kernel
theorem d_Hnk_putAt_22 : decode (mb M_Hnk_putAt) 22 = .ok (.iconst 0, 1) := by decide +kernel
theorem d_Hnk_putAt_23 : decode (mb M_Hnk_putAt) 23 = .ok (.istore_n 3, 1) := by decide +kernel
theorem d_Hnk_putAt_24 : decode (mb M_Hnk_putAt) 24 = .ok (.iload_n 3, 1) := by decide +kernel
theorem d_Hnk_putAt_25 : decode (mb M_Hnk_putAt) 25 = .ok (.aload_n 0, 1) := by decide +kernel
theorem d_Hnk_putAt_26 : decode (mb M_Hnk_putAt) 26 = .ok (.getfield 25, 3) := by decide +kernel
theorem d_Hnk_putAt_29 : decode (mb M_Hnk_putAt) 29 = .ok (.arraylength, 1) := by decide +kernel
theorem d_Hnk_putAt_30 : decode (mb M_Hnk_putAt) 30 = .ok (.if_icmp .ge 23, 3) := by decide +kernel
theorem d_Hnk_putAt_33 : decode (mb M_Hnk_putAt) 33 = .ok (.aload_n 1, 1) := by decide +kernel
theorem d_Hnk_putAt_34 : decode (mb M_Hnk_putAt) 34 = .ok (.iload_n 2, 1) := by decide +kernel
theorem d_Hnk_putAt_35 : decode (mb M_Hnk_putAt) 35 = .ok (.iload_n 3, 1) := by decide +kernel
theorem d_Hnk_putAt_36 : decode (mb M_Hnk_putAt) 36 = .ok (.iadd, 1) := by decide +kernel
theorem d_Hnk_putAt_37 : decode (mb M_Hnk_putAt) 37 = .ok (.aload_n 0, 1) := by decide +kernel
theorem d_Hnk_putAt_38 : decode (mb M_Hnk_putAt) 38 = .ok (.getfield 25, 3) := by decide +kernel
theorem d_Hnk_putAt_41 : decode (mb M_Hnk_putAt) 41 = .ok (.iload_n 3, 1) := by decide +kernel
theorem d_Hnk_putAt_42 : decode (mb M_Hnk_putAt) 42 = .ok (.laload, 1) := by decide +kernel
theorem d_Hnk_putAt_43 : decode (mb M_Hnk_putAt) 43 = .ok (.iconst (-1), 1) := by decide +kernel
theorem d_Hnk_putAt_44 : decode (mb M_Hnk_putAt) 44 = .ok (.invokevirtual 61, 3) := by decide +kernel
theorem d_Hnk_putAt_47 : decode (mb M_Hnk_putAt) 47 = .ok (.iinc 3 1, 3) := by decide +kernel
theorem d_Hnk_putAt_50 : decode (mb M_Hnk_putAt) 50 = .ok (.goto (-26), 3) := by decide +kernel
theorem d_Hnk_putAt_53 : decode (mb M_Hnk_putAt) 53 = .ok (.return_, 1) := by decide +kernel
theorem d_Hnk_turned_0 : decode (mb M_Hnk_turned) 0 = .ok (.new 10, 3) := by decide +kernel
theorem d_Hnk_turned_3 : decode (mb M_Hnk_turned) 3 = .ok (.dup, 1) := by decide +kernel
theorem d_Hnk_turned_4 : decode (mb M_Hnk_turned) 4 = .ok (.aload_n 0, 1) := by decide +kernel
theorem d_Hnk_turned_5 : decode (mb M_Hnk_turned) 5 = .ok (.getfield 15, 3) := by decide +kernel
theorem d_Hnk_turned_8 : decode (mb M_Hnk_turned) 8 = .ok (.aload_n 0, 1) := by decide +kernel
theorem d_Hnk_turned_9 : decode (mb M_Hnk_turned) 9 = .ok (.getfield 9, 3) := by decide +kernel
theorem d_Hnk_turned_12 : decode (mb M_Hnk_turned) 12 = .ok (.aload_n 0, 1) := by decide +kernel
theorem d_Hnk_turned_13 : decode (mb M_Hnk_turned) 13 = .ok (.getfield 18, 3) := by decide +kernel
theorem d_Hnk_turned_16 : decode (mb M_Hnk_turned) 16 = .ok (.aload_n 0, 1) := by decide +kernel
theorem d_Hnk_turned_17 : decode (mb M_Hnk_turned) 17 = .ok (.getfield 25, 3) := by decide +kernel
theorem d_Hnk_turned_20 : decode (mb M_Hnk_turned) 20 = .ok (.aload_n 0, 1) := by decide +kernel
theorem d_Hnk_turned_21 : decode (mb M_Hnk_turned) 21 = .ok (.getfield 22, 3) := by decide +kernel
theorem d_Hnk_turned_24 : decode (mb M_Hnk_turned) 24 = .ok (.aload_n 0, 1) := by decide +kernel
theorem d_Hnk_turned_25 : decode (mb M_Hnk_turned) 25 = .ok (.getfield 28, 3) := by decide +kernel
theorem d_Hnk_turned_28 : decode (mb M_Hnk_turned) 28 = .ok (.invokespecial 31, 3) := by decide +kernel
theorem d_Hnk_turned_31 : decode (mb M_Hnk_turned) 31 = .ok (.areturn, 1) := by decide +kernel
theorem d_Lbk_authorOf_0 : decode (mb M_Lbk_authorOf) 0 = .ok (.iload_n 1, 1) := by decide +kernel
theorem d_Lbk_authorOf_1 : decode (mb M_Lbk_authorOf) 1 = .ok (.ifCond .lt 11, 3) := by decide +kernel
theorem d_Lbk_authorOf_4 : decode (mb M_Lbk_authorOf) 4 = .ok (.iload_n 1, 1) := by decide +kernel
theorem d_Lbk_authorOf_5 : decode (mb M_Lbk_authorOf) 5 = .ok (.aload_n 0, 1) := by decide +kernel
theorem d_Lbk_authorOf_6 : decode (mb M_Lbk_authorOf) 6 = .ok (.getfield 18, 3) := by decide +kernel
theorem d_Lbk_authorOf_9 : decode (mb M_Lbk_authorOf) 9 = .ok (.if_icmp .lt 7, 3) := by decide +kernel
theorem d_Lbk_authorOf_12 : decode (mb M_Lbk_authorOf) 12 = .ok (.iconst (-1), 1) := by decide +kernel
theorem d_Lbk_authorOf_13 : decode (mb M_Lbk_authorOf) 13 = .ok (.goto 9, 3) := by decide +kernel
theorem d_Lbk_authorOf_16 : decode (mb M_Lbk_authorOf) 16 = .ok (.aload_n 0, 1) := by decide +kernel
theorem d_Lbk_authorOf_17 : decode (mb M_Lbk_authorOf) 17 = .ok (.getfield 9, 3) := by decide +kernel
theorem d_Lbk_authorOf_20 : decode (mb M_Lbk_authorOf) 20 = .ok (.iload_n 1, 1) := by decide +kernel
theorem d_Lbk_authorOf_21 : decode (mb M_Lbk_authorOf) 21 = .ok (.iaload, 1) := by decide +kernel
theorem d_Lbk_authorOf_22 : decode (mb M_Lbk_authorOf) 22 = .ok (.ireturn, 1) := by decide +kernel
theorem d_Lbk_commonSigns_0 : decode (mb M_Lbk_commonSigns) 0 = .ok (.lload_n 0, 1) := by decide +kernel
theorem d_Lbk_commonSigns_1 : decode (mb M_Lbk_commonSigns) 1 = .ok (.invokestatic 28, 3) := by decide +kernel
theorem d_Lbk_commonSigns_4 : decode (mb M_Lbk_commonSigns) 4 = .ok (.istore 4, 2) := by decide +kernel
theorem d_Lbk_commonSigns_6 : decode (mb M_Lbk_commonSigns) 6 = .ok (.lload_n 2, 1) := by decide +kernel
theorem d_Lbk_commonSigns_7 : decode (mb M_Lbk_commonSigns) 7 = .ok (.invokestatic 28, 3) := by decide +kernel
theorem d_Lbk_commonSigns_10 : decode (mb M_Lbk_commonSigns) 10 = .ok (.istore 5, 2) := by decide +kernel
theorem d_Lbk_commonSigns_12 : decode (mb M_Lbk_commonSigns) 12 = .ok (.bipush 9, 2) := by decide +kernel
theorem d_Lbk_commonSigns_14 : decode (mb M_Lbk_commonSigns) 14 = .ok (.newarray .int, 2) := by decide +kernel
theorem d_Lbk_commonSigns_16 : decode (mb M_Lbk_commonSigns) 16 = .ok (.astore 6, 2) := by decide +kernel
theorem d_Lbk_commonSigns_18 : decode (mb M_Lbk_commonSigns) 18 = .ok (.iconst 0, 1) := by decide +kernel
theorem d_Lbk_commonSigns_19 : decode (mb M_Lbk_commonSigns) 19 = .ok (.istore 7, 2) := by decide +kernel
theorem d_Lbk_commonSigns_21 : decode (mb M_Lbk_commonSigns) 21 = .ok (.iload 7, 2) := by decide +kernel
theorem d_Lbk_commonSigns_23 : decode (mb M_Lbk_commonSigns) 23 = .ok (.iload 4, 2) := by decide +kernel
theorem d_Lbk_commonSigns_25 : decode (mb M_Lbk_commonSigns) 25 = .ok (.if_icmp .ge 92, 3) := by decide +kernel
theorem d_Lbk_commonSigns_28 : decode (mb M_Lbk_commonSigns) 28 = .ok (.iconst 0, 1) := by decide +kernel
theorem d_Lbk_commonSigns_29 : decode (mb M_Lbk_commonSigns) 29 = .ok (.istore 8, 2) := by decide +kernel
theorem d_Lbk_commonSigns_31 : decode (mb M_Lbk_commonSigns) 31 = .ok (.iconst 1, 1) := by decide +kernel
theorem d_Lbk_commonSigns_32 : decode (mb M_Lbk_commonSigns) 32 = .ok (.istore 9, 2) := by decide +kernel
theorem d_Lbk_commonSigns_34 : decode (mb M_Lbk_commonSigns) 34 = .ok (.iload 9, 2) := by decide +kernel
theorem d_Lbk_commonSigns_36 : decode (mb M_Lbk_commonSigns) 36 = .ok (.iload 5, 2) := by decide +kernel
theorem d_Lbk_commonSigns_38 : decode (mb M_Lbk_commonSigns) 38 = .ok (.if_icmp .gt 73, 3) := by decide +kernel
theorem d_Lbk_commonSigns_41 : decode (mb M_Lbk_commonSigns) 41 = .ok (.aload 6, 2) := by decide +kernel
theorem d_Lbk_commonSigns_43 : decode (mb M_Lbk_commonSigns) 43 = .ok (.iload 9, 2) := by decide +kernel
theorem d_Lbk_commonSigns_45 : decode (mb M_Lbk_commonSigns) 45 = .ok (.iaload, 1) := by decide +kernel
theorem d_Lbk_commonSigns_46 : decode (mb M_Lbk_commonSigns) 46 = .ok (.istore 10, 2) := by decide +kernel
theorem d_Lbk_commonSigns_48 : decode (mb M_Lbk_commonSigns) 48 = .ok (.lload_n 0, 1) := by decide +kernel
theorem d_Lbk_commonSigns_49 : decode (mb M_Lbk_commonSigns) 49 = .ok (.iload 7, 2) := by decide +kernel
theorem d_Lbk_commonSigns_51 : decode (mb M_Lbk_commonSigns) 51 = .ok (.invokestatic 22, 3) := by decide +kernel
theorem d_Lbk_commonSigns_54 : decode (mb M_Lbk_commonSigns) 54 = .ok (.lload_n 2, 1) := by decide +kernel
theorem d_Lbk_commonSigns_55 : decode (mb M_Lbk_commonSigns) 55 = .ok (.iload 9, 2) := by decide +kernel
theorem d_Lbk_commonSigns_57 : decode (mb M_Lbk_commonSigns) 57 = .ok (.iconst 1, 1) := by decide +kernel
theorem d_Lbk_commonSigns_58 : decode (mb M_Lbk_commonSigns) 58 = .ok (.isub, 1) := by decide +kernel
theorem d_Lbk_commonSigns_59 : decode (mb M_Lbk_commonSigns) 59 = .ok (.invokestatic 22, 3) := by decide +kernel
theorem d_Lbk_commonSigns_62 : decode (mb M_Lbk_commonSigns) 62 = .ok (.if_icmp .ne 7, 3) := by decide +kernel
theorem d_Lbk_commonSigns_65 : decode (mb M_Lbk_commonSigns) 65 = .ok (.iconst 1, 1) := by decide +kernel
theorem d_Lbk_commonSigns_66 : decode (mb M_Lbk_commonSigns) 66 = .ok (.goto 4, 3) := by decide +kernel
theorem d_Lbk_commonSigns_69 : decode (mb M_Lbk_commonSigns) 69 = .ok (.iconst 0, 1) := by decide +kernel
theorem d_Lbk_commonSigns_70 : decode (mb M_Lbk_commonSigns) 70 = .ok (.istore 11, 2) := by decide +kernel
theorem d_Lbk_commonSigns_72 : decode (mb M_Lbk_commonSigns) 72 = .ok (.aload 6, 2) := by decide +kernel
theorem d_Lbk_commonSigns_74 : decode (mb M_Lbk_commonSigns) 74 = .ok (.iload 9, 2) := by decide +kernel
theorem d_Lbk_commonSigns_76 : decode (mb M_Lbk_commonSigns) 76 = .ok (.iload 11, 2) := by decide +kernel
theorem d_Lbk_commonSigns_78 : decode (mb M_Lbk_commonSigns) 78 = .ok (.ifCond .eq 10, 3) := by decide +kernel
theorem d_Lbk_commonSigns_81 : decode (mb M_Lbk_commonSigns) 81 = .ok (.iload 8, 2) := by decide +kernel
theorem d_Lbk_commonSigns_83 : decode (mb M_Lbk_commonSigns) 83 = .ok (.iconst 1, 1) := by decide +kernel
theorem d_Lbk_commonSigns_84 : decode (mb M_Lbk_commonSigns) 84 = .ok (.iadd, 1) := by decide +kernel
theorem d_Lbk_commonSigns_85 : decode (mb M_Lbk_commonSigns) 85 = .ok (.goto 15, 3) := by decide +kernel
theorem d_Lbk_commonSigns_88 : decode (mb M_Lbk_commonSigns) 88 = .ok (.iload 10, 2) := by decide +kernel
theorem d_Lbk_commonSigns_90 : decode (mb M_Lbk_commonSigns) 90 = .ok (.aload 6, 2) := by decide +kernel
theorem d_Lbk_commonSigns_92 : decode (mb M_Lbk_commonSigns) 92 = .ok (.iload 9, 2) := by decide +kernel
theorem d_Lbk_commonSigns_94 : decode (mb M_Lbk_commonSigns) 94 = .ok (.iconst 1, 1) := by decide +kernel
theorem d_Lbk_commonSigns_95 : decode (mb M_Lbk_commonSigns) 95 = .ok (.isub, 1) := by decide +kernel
theorem d_Lbk_commonSigns_96 : decode (mb M_Lbk_commonSigns) 96 = .ok (.iaload, 1) := by decide +kernel
theorem d_Lbk_commonSigns_97 : decode (mb M_Lbk_commonSigns) 97 = .ok (.invokestatic 36, 3) := by decide +kernel
theorem d_Lbk_commonSigns_100 : decode (mb M_Lbk_commonSigns) 100 = .ok (.iastore, 1) := by decide +kernel
theorem d_Lbk_commonSigns_101 : decode (mb M_Lbk_commonSigns) 101 = .ok (.iload 10, 2) := by decide +kernel
theorem d_Lbk_commonSigns_103 : decode (mb M_Lbk_commonSigns) 103 = .ok (.istore 8, 2) := by decide +kernel
theorem d_Lbk_commonSigns_105 : decode (mb M_Lbk_commonSigns) 105 = .ok (.iinc 9 1, 3) := by decide +kernel
theorem d_Lbk_commonSigns_108 : decode (mb M_Lbk_commonSigns) 108 = .ok (.goto (-74), 3) := by decide +kernel
theorem d_Lbk_commonSigns_111 : decode (mb M_Lbk_commonSigns) 111 = .ok (.iinc 7 1, 3) := by decide +kernel
theorem d_Lbk_commonSigns_114 : decode (mb M_Lbk_commonSigns) 114 = .ok (.goto (-93), 3) := by decide +kernel
theorem d_Lbk_commonSigns_117 : decode (mb M_Lbk_commonSigns) 117 = .ok (.aload 6, 2) := by decide +kernel
theorem d_Lbk_commonSigns_119 : decode (mb M_Lbk_commonSigns) 119 = .ok (.iload 5, 2) := by decide +kernel
theorem d_Lbk_commonSigns_121 : decode (mb M_Lbk_commonSigns) 121 = .ok (.iaload, 1) := by decide +kernel
theorem d_Lbk_commonSigns_122 : decode (mb M_Lbk_commonSigns) 122 = .ok (.ireturn, 1) := by decide +kernel
theorem d_Lbk_depthOf_0 : decode (mb M_Lbk_depthOf) 0 = .ok (.iconst 0, 1) := by decide +kernel
theorem d_Lbk_depthOf_1 : decode (mb M_Lbk_depthOf) 1 = .ok (.istore_n 2, 1) := by decide +kernel
theorem d_Lbk_depthOf_2 : decode (mb M_Lbk_depthOf) 2 = .ok (.iload_n 2, 1) := by decide +kernel
theorem d_Lbk_depthOf_3 : decode (mb M_Lbk_depthOf) 3 = .ok (.bipush 7, 2) := by decide +kernel
theorem d_Lbk_depthOf_5 : decode (mb M_Lbk_depthOf) 5 = .ok (.if_icmp .ge 19, 3) := by decide +kernel
theorem d_Lbk_depthOf_8 : decode (mb M_Lbk_depthOf) 8 = .ok (.lload_n 0, 1) := by decide +kernel
theorem d_Lbk_depthOf_9 : decode (mb M_Lbk_depthOf) 9 = .ok (.iload_n 2, 1) := by decide +kernel
theorem d_Lbk_depthOf_10 : decode (mb M_Lbk_depthOf) 10 = .ok (.invokestatic 22, 3) := by decide +kernel
theorem d_Lbk_depthOf_13 : decode (mb M_Lbk_depthOf) 13 = .ok (.bipush 32, 2) := by decide +kernel
theorem d_Lbk_depthOf_15 : decode (mb M_Lbk_depthOf) 15 = .ok (.if_icmp .ne 9, 3) := by decide +kernel
theorem d_Lbk_depthOf_18 : decode (mb M_Lbk_depthOf) 18 = .ok (.iinc 2 1, 3) := by decide +kernel
theorem d_Lbk_depthOf_21 : decode (mb M_Lbk_depthOf) 21 = .ok (.goto (-19), 3) := by decide +kernel
theorem d_Lbk_depthOf_24 : decode (mb M_Lbk_depthOf) 24 = .ok (.iload_n 2, 1) := by decide +kernel
theorem d_Lbk_depthOf_25 : decode (mb M_Lbk_depthOf) 25 = .ok (.ireturn, 1) := by decide +kernel
theorem d_Lbk_enter_0 : decode (mb M_Lbk_enter) 0 = .ok (.aload_n 0, 1) := by decide +kernel
theorem d_Lbk_enter_1 : decode (mb M_Lbk_enter) 1 = .ok (.getfield 18, 3) := by decide +kernel
theorem d_Lbk_enter_4 : decode (mb M_Lbk_enter) 4 = .ok (.aload_n 0, 1) := by decide +kernel
theorem d_Lbk_enter_5 : decode (mb M_Lbk_enter) 5 = .ok (.getfield 9, 3) := by decide +kernel
theorem d_Lbk_enter_8 : decode (mb M_Lbk_enter) 8 = .ok (.arraylength, 1) := by decide +kernel
theorem d_Lbk_enter_9 : decode (mb M_Lbk_enter) 9 = .ok (.if_icmp .lt 5, 3) := by decide +kernel
theorem d_Lbk_enter_12 : decode (mb M_Lbk_enter) 12 = .ok (.iconst (-1), 1) := by decide +kernel
theorem d_Lbk_enter_13 : decode (mb M_Lbk_enter) 13 = .ok (.ireturn, 1) := by decide +kernel
theorem d_Lbk_enter_14 : decode (mb M_Lbk_enter) 14 = .ok (.aload_n 0, 1) := by decide +kernel
theorem d_Lbk_enter_15 : decode (mb M_Lbk_enter) 15 = .ok (.getfield 9, 3) := by decide +kernel
theorem d_Lbk_enter_18 : decode (mb M_Lbk_enter) 18 = .ok (.aload_n 0, 1) := by decide +kernel
theorem d_Lbk_enter_19 : decode (mb M_Lbk_enter) 19 = .ok (.getfield 18, 3) := by decide +kernel
theorem d_Lbk_enter_22 : decode (mb M_Lbk_enter) 22 = .ok (.iload_n 1, 1) := by decide +kernel
theorem d_Lbk_enter_23 : decode (mb M_Lbk_enter) 23 = .ok (.iastore, 1) := by decide +kernel
theorem d_Lbk_enter_24 : decode (mb M_Lbk_enter) 24 = .ok (.aload_n 0, 1) := by decide +kernel
theorem d_Lbk_enter_25 : decode (mb M_Lbk_enter) 25 = .ok (.getfield 15, 3) := by decide +kernel
theorem d_Lbk_enter_28 : decode (mb M_Lbk_enter) 28 = .ok (.aload_n 0, 1) := by decide +kernel
theorem d_Lbk_enter_29 : decode (mb M_Lbk_enter) 29 = .ok (.getfield 18, 3) := by decide +kernel
theorem d_Lbk_enter_32 : decode (mb M_Lbk_enter) 32 = .ok (.iload_n 2, 1) := by decide +kernel
theorem d_Lbk_enter_33 : decode (mb M_Lbk_enter) 33 = .ok (.iastore, 1) := by decide +kernel
theorem d_Lbk_enter_34 : decode (mb M_Lbk_enter) 34 = .ok (.aload_n 0, 1) := by decide +kernel
theorem d_Lbk_enter_35 : decode (mb M_Lbk_enter) 35 = .ok (.dup, 1) := by decide +kernel
theorem d_Lbk_enter_36 : decode (mb M_Lbk_enter) 36 = .ok (.getfield 18, 3) := by decide +kernel
theorem d_Lbk_enter_39 : decode (mb M_Lbk_enter) 39 = .ok (.iconst 1, 1) := by decide +kernel
theorem d_Lbk_enter_40 : decode (mb M_Lbk_enter) 40 = .ok (.iadd, 1) := by decide +kernel
theorem d_Lbk_enter_41 : decode (mb M_Lbk_enter) 41 = .ok (.putfield 18, 3) := by decide +kernel
theorem d_Lbk_enter_44 : decode (mb M_Lbk_enter) 44 = .ok (.aload_n 0, 1) := by decide +kernel
theorem d_Lbk_enter_45 : decode (mb M_Lbk_enter) 45 = .ok (.getfield 18, 3) := by decide +kernel
theorem d_Lbk_enter_48 : decode (mb M_Lbk_enter) 48 = .ok (.iconst 1, 1) := by decide +kernel
theorem d_Lbk_enter_49 : decode (mb M_Lbk_enter) 49 = .ok (.isub, 1) := by decide +kernel
theorem d_Lbk_enter_50 : decode (mb M_Lbk_enter) 50 = .ok (.ireturn, 1) := by decide +kernel
theorem d_Lbk_init_0 : decode (mb M_Lbk_init) 0 = .ok (.aload_n 0, 1) := by decide +kernel
theorem d_Lbk_init_1 : decode (mb M_Lbk_init) 1 = .ok (.invokespecial 3, 3) := by decide +kernel
theorem d_Lbk_init_4 : decode (mb M_Lbk_init) 4 = .ok (.aload_n 0, 1) := by decide +kernel
theorem d_Lbk_init_5 : decode (mb M_Lbk_init) 5 = .ok (.sipush 10240, 3) := by decide +kernel
theorem d_Lbk_init_8 : decode (mb M_Lbk_init) 8 = .ok (.newarray .int, 2) := by decide +kernel
theorem d_Lbk_init_10 : decode (mb M_Lbk_init) 10 = .ok (.putfield 9, 3) := by decide +kernel
theorem d_Lbk_init_13 : decode (mb M_Lbk_init) 13 = .ok (.aload_n 0, 1) := by decide +kernel
theorem d_Lbk_init_14 : decode (mb M_Lbk_init) 14 = .ok (.sipush 10240, 3) := by decide +kernel
theorem d_Lbk_init_17 : decode (mb M_Lbk_init) 17 = .ok (.newarray .int, 2) := by decide +kernel
theorem d_Lbk_init_19 : decode (mb M_Lbk_init) 19 = .ok (.putfield 15, 3) := by decide +kernel
theorem d_Lbk_init_22 : decode (mb M_Lbk_init) 22 = .ok (.aload_n 0, 1) := by decide +kernel
theorem d_Lbk_init_23 : decode (mb M_Lbk_init) 23 = .ok (.iconst 0, 1) := by decide +kernel
theorem d_Lbk_init_24 : decode (mb M_Lbk_init) 24 = .ok (.putfield 18, 3) := by decide +kernel
theorem d_Lbk_init_27 : decode (mb M_Lbk_init) 27 = .ok (.return_, 1) := by decide +kernel
theorem d_Lbk_isLine_0 : decode (mb M_Lbk_isLine) 0 = .ok (.iconst 0, 1) := by decide +kernel
theorem d_Lbk_isLine_1 : decode (mb M_Lbk_isLine) 1 = .ok (.istore_n 2, 1) := by decide +kernel
theorem d_Lbk_isLine_2 : decode (mb M_Lbk_isLine) 2 = .ok (.iconst 0, 1) := by decide +kernel
theorem d_Lbk_isLine_3 : decode (mb M_Lbk_isLine) 3 = .ok (.istore_n 3, 1) := by decide +kernel
theorem d_Lbk_isLine_4 : decode (mb M_Lbk_isLine) 4 = .ok (.iconst 0, 1) := by decide +kernel
theorem d_Lbk_isLine_5 : decode (mb M_Lbk_isLine) 5 = .ok (.istore 4, 2) := by decide +kernel
theorem d_Lbk_isLine_7 : decode (mb M_Lbk_isLine) 7 = .ok (.iload 4, 2) := by decide +kernel
theorem d_Lbk_isLine_9 : decode (mb M_Lbk_isLine) 9 = .ok (.bipush 8, 2) := by decide +kernel
theorem d_Lbk_isLine_11 : decode (mb M_Lbk_isLine) 11 = .ok (.if_icmp .ge 79, 3) := by decide +kernel
theorem d_Lbk_isLine_14 : decode (mb M_Lbk_isLine) 14 = .ok (.lload_n 0, 1) := by decide +kernel
theorem d_Lbk_isLine_15 : decode (mb M_Lbk_isLine) 15 = .ok (.iload 4, 2) := by decide +kernel
theorem d_Lbk_isLine_17 : decode (mb M_Lbk_isLine) 17 = .ok (.invokestatic 22, 3) := by decide +kernel
theorem d_Lbk_isLine_20 : decode (mb M_Lbk_isLine) 20 = .ok (.istore 5, 2) := by decide +kernel
theorem d_Lbk_isLine_22 : decode (mb M_Lbk_isLine) 22 = .ok (.iload 5, 2) := by decide +kernel
theorem d_Lbk_isLine_24 : decode (mb M_Lbk_isLine) 24 = .ok (.bipush 97, 2) := by decide +kernel
theorem d_Lbk_isLine_26 : decode (mb M_Lbk_isLine) 26 = .ok (.if_icmp .lt 14, 3) := by decide +kernel
theorem d_Lbk_isLine_29 : decode (mb M_Lbk_isLine) 29 = .ok (.iload 5, 2) := by decide +kernel
theorem d_Lbk_isLine_31 : decode (mb M_Lbk_isLine) 31 = .ok (.bipush 122, 2) := by decide +kernel
theorem d_Lbk_isLine_33 : decode (mb M_Lbk_isLine) 33 = .ok (.if_icmp .gt 7, 3) := by decide +kernel
theorem d_Lbk_isLine_36 : decode (mb M_Lbk_isLine) 36 = .ok (.iconst 1, 1) := by decide +kernel
theorem d_Lbk_isLine_37 : decode (mb M_Lbk_isLine) 37 = .ok (.goto 4, 3) := by decide +kernel
theorem d_Lbk_isLine_40 : decode (mb M_Lbk_isLine) 40 = .ok (.iconst 0, 1) := by decide +kernel
theorem d_Lbk_isLine_41 : decode (mb M_Lbk_isLine) 41 = .ok (.istore 6, 2) := by decide +kernel
theorem d_Lbk_isLine_43 : decode (mb M_Lbk_isLine) 43 = .ok (.iload 5, 2) := by decide +kernel
theorem d_Lbk_isLine_45 : decode (mb M_Lbk_isLine) 45 = .ok (.ifCond .ne 8, 3) := by decide +kernel
theorem d_Lbk_isLine_48 : decode (mb M_Lbk_isLine) 48 = .ok (.iconst 1, 1) := by decide +kernel
theorem d_Lbk_isLine_49 : decode (mb M_Lbk_isLine) 49 = .ok (.istore_n 3, 1) := by decide +kernel
theorem d_Lbk_isLine_50 : decode (mb M_Lbk_isLine) 50 = .ok (.goto 21, 3) := by decide +kernel
theorem d_Lbk_isLine_53 : decode (mb M_Lbk_isLine) 53 = .ok (.iload_n 3, 1) := by decide +kernel
theorem d_Lbk_isLine_54 : decode (mb M_Lbk_isLine) 54 = .ok (.ifCond .ne 15, 3) := by decide +kernel
theorem d_Lbk_isLine_57 : decode (mb M_Lbk_isLine) 57 = .ok (.iload 6, 2) := by decide +kernel
theorem d_Lbk_isLine_59 : decode (mb M_Lbk_isLine) 59 = .ok (.ifCond .ne 12, 3) := by decide +kernel
theorem d_Lbk_isLine_62 : decode (mb M_Lbk_isLine) 62 = .ok (.iload 5, 2) := by decide +kernel
theorem d_Lbk_isLine_64 : decode (mb M_Lbk_isLine) 64 = .ok (.bipush 32, 2) := by decide +kernel
theorem d_Lbk_isLine_66 : decode (mb M_Lbk_isLine) 66 = .ok (.if_icmp .eq 5, 3) := by decide +kernel
theorem d_Lbk_isLine_69 : decode (mb M_Lbk_isLine) 69 = .ok (.iconst 0, 1) := by decide +kernel
theorem d_Lbk_isLine_70 : decode (mb M_Lbk_isLine) 70 = .ok (.ireturn, 1) := by decide +kernel
theorem d_Lbk_isLine_71 : decode (mb M_Lbk_isLine) 71 = .ok (.iload_n 2, 1) := by decide +kernel
theorem d_Lbk_isLine_72 : decode (mb M_Lbk_isLine) 72 = .ok (.iload 6, 2) := by decide +kernel
theorem d_Lbk_isLine_74 : decode (mb M_Lbk_isLine) 74 = .ok (.ifCond .eq 7, 3) := by decide +kernel
theorem d_Lbk_isLine_77 : decode (mb M_Lbk_isLine) 77 = .ok (.iconst 1, 1) := by decide +kernel
theorem d_Lbk_isLine_78 : decode (mb M_Lbk_isLine) 78 = .ok (.goto 4, 3) := by decide +kernel
theorem d_Lbk_isLine_81 : decode (mb M_Lbk_isLine) 81 = .ok (.iconst 0, 1) := by decide +kernel
theorem d_Lbk_isLine_82 : decode (mb M_Lbk_isLine) 82 = .ok (.iadd, 1) := by decide +kernel
theorem d_Lbk_isLine_83 : decode (mb M_Lbk_isLine) 83 = .ok (.istore_n 2, 1) := by decide +kernel
theorem d_Lbk_isLine_84 : decode (mb M_Lbk_isLine) 84 = .ok (.iinc 4 1, 3) := by decide +kernel
theorem d_Lbk_isLine_87 : decode (mb M_Lbk_isLine) 87 = .ok (.goto (-80), 3) := by decide +kernel
theorem d_Lbk_isLine_90 : decode (mb M_Lbk_isLine) 90 = .ok (.iload_n 2, 1) := by decide +kernel
theorem d_Lbk_isLine_91 : decode (mb M_Lbk_isLine) 91 = .ok (.ifCond .le 7, 3) := by decide +kernel
theorem d_Lbk_isLine_94 : decode (mb M_Lbk_isLine) 94 = .ok (.iconst 1, 1) := by decide +kernel
theorem d_Lbk_isLine_95 : decode (mb M_Lbk_isLine) 95 = .ok (.goto 4, 3) := by decide +kernel
theorem d_Lbk_isLine_98 : decode (mb M_Lbk_isLine) 98 = .ok (.iconst 0, 1) := by decide +kernel
theorem d_Lbk_isLine_99 : decode (mb M_Lbk_isLine) 99 = .ok (.ireturn, 1) := by decide +kernel
theorem d_Lbk_isOrComesFrom_0 : decode (mb M_Lbk_isOrComesFrom) 0 = .ok (.iload_n 1, 1) := by decide +kernel
theorem d_Lbk_isOrComesFrom_1 : decode (mb M_Lbk_isOrComesFrom) 1 = .ok (.istore_n 3, 1) := by decide +kernel
theorem d_Lbk_isOrComesFrom_2 : decode (mb M_Lbk_isOrComesFrom) 2 = .ok (.iconst 0, 1) := by decide +kernel
theorem d_Lbk_isOrComesFrom_3 : decode (mb M_Lbk_isOrComesFrom) 3 = .ok (.istore 4, 2) := by decide +kernel
theorem d_Lbk_isOrComesFrom_5 : decode (mb M_Lbk_isOrComesFrom) 5 = .ok (.iload 4, 2) := by decide +kernel
theorem d_Lbk_isOrComesFrom_7 : decode (mb M_Lbk_isOrComesFrom) 7 = .ok (.aload_n 0, 1) := by decide +kernel
theorem d_Lbk_isOrComesFrom_8 : decode (mb M_Lbk_isOrComesFrom) 8 = .ok (.getfield 18, 3) := by decide +kernel
theorem d_Lbk_isOrComesFrom_11 : decode (mb M_Lbk_isOrComesFrom) 11 = .ok (.if_icmp .ge 35, 3) := by decide +kernel
theorem d_Lbk_isOrComesFrom_14 : decode (mb M_Lbk_isOrComesFrom) 14 = .ok (.iload_n 3, 1) := by decide +kernel
theorem d_Lbk_isOrComesFrom_15 : decode (mb M_Lbk_isOrComesFrom) 15 = .ok (.ifCond .lt 31, 3) := by decide +kernel
theorem d_Lbk_isOrComesFrom_18 : decode (mb M_Lbk_isOrComesFrom) 18 = .ok (.iload_n 3, 1) := by decide +kernel
theorem d_Lbk_isOrComesFrom_19 : decode (mb M_Lbk_isOrComesFrom) 19 = .ok (.aload_n 0, 1) := by decide +kernel
theorem d_Lbk_isOrComesFrom_20 : decode (mb M_Lbk_isOrComesFrom) 20 = .ok (.getfield 18, 3) := by decide +kernel
theorem d_Lbk_isOrComesFrom_23 : decode (mb M_Lbk_isOrComesFrom) 23 = .ok (.if_icmp .ge 23, 3) := by decide +kernel
theorem d_Lbk_isOrComesFrom_26 : decode (mb M_Lbk_isOrComesFrom) 26 = .ok (.iload_n 3, 1) := by decide +kernel
theorem d_Lbk_isOrComesFrom_27 : decode (mb M_Lbk_isOrComesFrom) 27 = .ok (.iload_n 2, 1) := by decide +kernel
theorem d_Lbk_isOrComesFrom_28 : decode (mb M_Lbk_isOrComesFrom) 28 = .ok (.if_icmp .ne 5, 3) := by decide +kernel
theorem d_Lbk_isOrComesFrom_31 : decode (mb M_Lbk_isOrComesFrom) 31 = .ok (.iconst 1, 1) := by decide +kernel
theorem d_Lbk_isOrComesFrom_32 : decode (mb M_Lbk_isOrComesFrom) 32 = .ok (.ireturn, 1) := by decide +kernel
theorem d_Lbk_isOrComesFrom_33 : decode (mb M_Lbk_isOrComesFrom) 33 = .ok (.aload_n 0, 1) := by decide +kernel
theorem d_Lbk_isOrComesFrom_34 : decode (mb M_Lbk_isOrComesFrom) 34 = .ok (.getfield 15, 3) := by decide +kernel
theorem d_Lbk_isOrComesFrom_37 : decode (mb M_Lbk_isOrComesFrom) 37 = .ok (.iload_n 3, 1) := by decide +kernel
theorem d_Lbk_isOrComesFrom_38 : decode (mb M_Lbk_isOrComesFrom) 38 = .ok (.iaload, 1) := by decide +kernel
theorem d_Lbk_isOrComesFrom_39 : decode (mb M_Lbk_isOrComesFrom) 39 = .ok (.istore_n 3, 1) := by decide +kernel
theorem d_Lbk_isOrComesFrom_40 : decode (mb M_Lbk_isOrComesFrom) 40 = .ok (.iinc 4 1, 3) := by decide +kernel
theorem d_Lbk_isOrComesFrom_43 : decode (mb M_Lbk_isOrComesFrom) 43 = .ok (.goto (-38), 3) := by decide +kernel
theorem d_Lbk_isOrComesFrom_46 : decode (mb M_Lbk_isOrComesFrom) 46 = .ok (.iconst 0, 1) := by decide +kernel
theorem d_Lbk_isOrComesFrom_47 : decode (mb M_Lbk_isOrComesFrom) 47 = .ok (.ireturn, 1) := by decide +kernel
theorem d_Lbk_lengthOf_0 : decode (mb M_Lbk_lengthOf) 0 = .ok (.iconst 0, 1) := by decide +kernel
theorem d_Lbk_lengthOf_1 : decode (mb M_Lbk_lengthOf) 1 = .ok (.istore_n 2, 1) := by decide +kernel
theorem d_Lbk_lengthOf_2 : decode (mb M_Lbk_lengthOf) 2 = .ok (.iload_n 2, 1) := by decide +kernel
theorem d_Lbk_lengthOf_3 : decode (mb M_Lbk_lengthOf) 3 = .ok (.bipush 8, 2) := by decide +kernel
theorem d_Lbk_lengthOf_5 : decode (mb M_Lbk_lengthOf) 5 = .ok (.if_icmp .ge 17, 3) := by decide +kernel
theorem d_Lbk_lengthOf_8 : decode (mb M_Lbk_lengthOf) 8 = .ok (.lload_n 0, 1) := by decide +kernel
theorem d_Lbk_lengthOf_9 : decode (mb M_Lbk_lengthOf) 9 = .ok (.iload_n 2, 1) := by decide +kernel
theorem d_Lbk_lengthOf_10 : decode (mb M_Lbk_lengthOf) 10 = .ok (.invokestatic 22, 3) := by decide +kernel
theorem d_Lbk_lengthOf_13 : decode (mb M_Lbk_lengthOf) 13 = .ok (.ifCond .eq 9, 3) := by decide +kernel
theorem d_Lbk_lengthOf_16 : decode (mb M_Lbk_lengthOf) 16 = .ok (.iinc 2 1, 3) := by decide +kernel
theorem d_Lbk_lengthOf_19 : decode (mb M_Lbk_lengthOf) 19 = .ok (.goto (-17), 3) := by decide +kernel
theorem d_Lbk_lengthOf_22 : decode (mb M_Lbk_lengthOf) 22 = .ok (.iload_n 2, 1) := by decide +kernel
theorem d_Lbk_lengthOf_23 : decode (mb M_Lbk_lengthOf) 23 = .ok (.ireturn, 1) := by decide +kernel
theorem d_Lbk_lettersOf_0 : decode (mb M_Lbk_lettersOf) 0 = .ok (.lconst 0, 1) := by decide +kernel
theorem d_Lbk_lettersOf_1 : decode (mb M_Lbk_lettersOf) 1 = .ok (.lstore_n 2, 1) := by decide +kernel
theorem d_Lbk_lettersOf_2 : decode (mb M_Lbk_lettersOf) 2 = .ok (.iconst 0, 1) := by decide +kernel
theorem d_Lbk_lettersOf_3 : decode (mb M_Lbk_lettersOf) 3 = .ok (.istore 4, 2) := by decide +kernel
theorem d_Lbk_lettersOf_5 : decode (mb M_Lbk_lettersOf) 5 = .ok (.iconst 0, 1) := by decide +kernel
theorem d_Lbk_lettersOf_6 : decode (mb M_Lbk_lettersOf) 6 = .ok (.istore 5, 2) := by decide +kernel
theorem d_Lbk_lettersOf_8 : decode (mb M_Lbk_lettersOf) 8 = .ok (.iload 5, 2) := by decide +kernel
theorem d_Lbk_lettersOf_10 : decode (mb M_Lbk_lettersOf) 10 = .ok (.bipush 8, 2) := by decide +kernel
theorem d_Lbk_lettersOf_12 : decode (mb M_Lbk_lettersOf) 12 = .ok (.if_icmp .ge 48, 3) := by decide +kernel
theorem d_Lbk_lettersOf_15 : decode (mb M_Lbk_lettersOf) 15 = .ok (.lload_n 0, 1) := by decide +kernel
theorem d_Lbk_lettersOf_16 : decode (mb M_Lbk_lettersOf) 16 = .ok (.iload 5, 2) := by decide +kernel
theorem d_Lbk_lettersOf_18 : decode (mb M_Lbk_lettersOf) 18 = .ok (.invokestatic 22, 3) := by decide +kernel
theorem d_Lbk_lettersOf_21 : decode (mb M_Lbk_lettersOf) 21 = .ok (.i2l, 1) := by decide +kernel
theorem d_Lbk_lettersOf_22 : decode (mb M_Lbk_lettersOf) 22 = .ok (.lstore 6, 2) := by decide +kernel
theorem d_Lbk_lettersOf_24 : decode (mb M_Lbk_lettersOf) 24 = .ok (.lload 6, 2) := by decide +kernel
theorem d_Lbk_lettersOf_26 : decode (mb M_Lbk_lettersOf) 26 = .ok (.lconst 0, 1) := by decide +kernel
theorem d_Lbk_lettersOf_27 : decode (mb M_Lbk_lettersOf) 27 = .ok (.lcmp, 1) := by decide +kernel
theorem d_Lbk_lettersOf_28 : decode (mb M_Lbk_lettersOf) 28 = .ok (.ifCond .eq 26, 3) := by decide +kernel
theorem d_Lbk_lettersOf_31 : decode (mb M_Lbk_lettersOf) 31 = .ok (.lload 6, 2) := by decide +kernel
theorem d_Lbk_lettersOf_33 : decode (mb M_Lbk_lettersOf) 33 = .ok (.ldc2_w 26, 3) := by decide +kernel
theorem d_Lbk_lettersOf_36 : decode (mb M_Lbk_lettersOf) 36 = .ok (.lcmp, 1) := by decide +kernel
theorem d_Lbk_lettersOf_37 : decode (mb M_Lbk_lettersOf) 37 = .ok (.ifCond .eq 17, 3) := by decide +kernel
theorem d_Lbk_lettersOf_40 : decode (mb M_Lbk_lettersOf) 40 = .ok (.lload_n 2, 1) := by decide +kernel
theorem d_Lbk_lettersOf_41 : decode (mb M_Lbk_lettersOf) 41 = .ok (.lload 6, 2) := by decide +kernel
theorem d_Lbk_lettersOf_43 : decode (mb M_Lbk_lettersOf) 43 = .ok (.bipush 8, 2) := by decide +kernel
theorem d_Lbk_lettersOf_45 : decode (mb M_Lbk_lettersOf) 45 = .ok (.iload 4, 2) := by decide +kernel
theorem d_Lbk_lettersOf_47 : decode (mb M_Lbk_lettersOf) 47 = .ok (.imul, 1) := by decide +kernel
theorem d_Lbk_lettersOf_48 : decode (mb M_Lbk_lettersOf) 48 = .ok (.lshl, 1) := by decide +kernel
theorem d_Lbk_lettersOf_49 : decode (mb M_Lbk_lettersOf) 49 = .ok (.lor, 1) := by decide +kernel
theorem d_Lbk_lettersOf_50 : decode (mb M_Lbk_lettersOf) 50 = .ok (.lstore_n 2, 1) := by decide +kernel
theorem d_Lbk_lettersOf_51 : decode (mb M_Lbk_lettersOf) 51 = .ok (.iinc 4 1, 3) := by decide +kernel
theorem d_Lbk_lettersOf_54 : decode (mb M_Lbk_lettersOf) 54 = .ok (.iinc 5 1, 3) := by decide +kernel
theorem d_Lbk_lettersOf_57 : decode (mb M_Lbk_lettersOf) 57 = .ok (.goto (-49), 3) := by decide +kernel
theorem d_Lbk_lettersOf_60 : decode (mb M_Lbk_lettersOf) 60 = .ok (.lload_n 2, 1) := by decide +kernel
theorem d_Lbk_lettersOf_61 : decode (mb M_Lbk_lettersOf) 61 = .ok (.lreturn, 1) := by decide +kernel
theorem d_Lbk_likenessOf_0 : decode (mb M_Lbk_likenessOf) 0 = .ok (.lload_n 0, 1) := by decide +kernel
theorem d_Lbk_likenessOf_1 : decode (mb M_Lbk_likenessOf) 1 = .ok (.invokestatic 28, 3) := by decide +kernel
theorem d_Lbk_likenessOf_4 : decode (mb M_Lbk_likenessOf) 4 = .ok (.lload_n 2, 1) := by decide +kernel
theorem d_Lbk_likenessOf_5 : decode (mb M_Lbk_likenessOf) 5 = .ok (.invokestatic 28, 3) := by decide +kernel
theorem d_Lbk_likenessOf_8 : decode (mb M_Lbk_likenessOf) 8 = .ok (.iadd, 1) := by decide +kernel
theorem d_Lbk_likenessOf_9 : decode (mb M_Lbk_likenessOf) 9 = .ok (.istore 4, 2) := by decide +kernel
theorem d_Lbk_likenessOf_11 : decode (mb M_Lbk_likenessOf) 11 = .ok (.iload 4, 2) := by decide +kernel
theorem d_Lbk_likenessOf_13 : decode (mb M_Lbk_likenessOf) 13 = .ok (.ifCond .gt 7, 3) := by decide +kernel
theorem d_Lbk_likenessOf_16 : decode (mb M_Lbk_likenessOf) 16 = .ok (.iconst 0, 1) := by decide +kernel
theorem d_Lbk_likenessOf_17 : decode (mb M_Lbk_likenessOf) 17 = .ok (.goto 15, 3) := by decide +kernel
theorem d_Lbk_likenessOf_20 : decode (mb M_Lbk_likenessOf) 20 = .ok (.sipush 200, 3) := by decide +kernel
theorem d_Lbk_likenessOf_23 : decode (mb M_Lbk_likenessOf) 23 = .ok (.lload_n 0, 1) := by decide +kernel
theorem d_Lbk_likenessOf_24 : decode (mb M_Lbk_likenessOf) 24 = .ok (.lload_n 2, 1) := by decide +kernel
theorem d_Lbk_likenessOf_25 : decode (mb M_Lbk_likenessOf) 25 = .ok (.invokestatic 32, 3) := by decide +kernel
theorem d_Lbk_likenessOf_28 : decode (mb M_Lbk_likenessOf) 28 = .ok (.imul, 1) := by decide +kernel
theorem d_Lbk_likenessOf_29 : decode (mb M_Lbk_likenessOf) 29 = .ok (.iload 4, 2) := by decide +kernel
theorem d_Lbk_likenessOf_31 : decode (mb M_Lbk_likenessOf) 31 = .ok (.idiv, 1) := by decide +kernel
theorem d_Lbk_likenessOf_32 : decode (mb M_Lbk_likenessOf) 32 = .ok (.ireturn, 1) := by decide +kernel
theorem d_Lbk_signAt_0 : decode (mb M_Lbk_signAt) 0 = .ok (.lload_n 0, 1) := by decide +kernel
theorem d_Lbk_signAt_1 : decode (mb M_Lbk_signAt) 1 = .ok (.bipush 8, 2) := by decide +kernel
theorem d_Lbk_signAt_3 : decode (mb M_Lbk_signAt) 3 = .ok (.iload_n 2, 1) := by decide +kernel
theorem d_Lbk_signAt_4 : decode (mb M_Lbk_signAt) 4 = .ok (.imul, 1) := by decide +kernel
theorem d_Lbk_signAt_5 : decode (mb M_Lbk_signAt) 5 = .ok (.lushr, 1) := by decide +kernel
theorem d_Lbk_signAt_6 : decode (mb M_Lbk_signAt) 6 = .ok (.l2i, 1) := by decide +kernel
theorem d_Lbk_signAt_7 : decode (mb M_Lbk_signAt) 7 = .ok (.sipush 255, 3) := by decide +kernel
theorem d_Lbk_signAt_10 : decode (mb M_Lbk_signAt) 10 = .ok (.iand, 1) := by decide +kernel
theorem d_Lbk_signAt_11 : decode (mb M_Lbk_signAt) 11 = .ok (.ireturn, 1) := by decide +kernel
theorem d_Pat_add_0 : decode (mb M_Pat_add) 0 = .ok (.aload_n 0, 1) := by decide +kernel
theorem d_Pat_add_1 : decode (mb M_Pat_add) 1 = .ok (.getfield 17, 3) := by decide +kernel
theorem d_Pat_add_4 : decode (mb M_Pat_add) 4 = .ok (.bipush 21, 2) := by decide +kernel
theorem d_Pat_add_6 : decode (mb M_Pat_add) 6 = .ok (.if_icmp .ge 23, 3) := by decide +kernel
theorem d_Pat_add_9 : decode (mb M_Pat_add) 9 = .ok (.aload_n 0, 1) := by decide +kernel
theorem d_Pat_add_10 : decode (mb M_Pat_add) 10 = .ok (.getfield 11, 3) := by decide +kernel
theorem d_Pat_add_13 : decode (mb M_Pat_add) 13 = .ok (.aload_n 0, 1) := by decide +kernel
theorem d_Pat_add_14 : decode (mb M_Pat_add) 14 = .ok (.getfield 17, 3) := by decide +kernel
theorem d_Pat_add_17 : decode (mb M_Pat_add) 17 = .ok (.aload_n 1, 1) := by decide +kernel
theorem d_Pat_add_18 : decode (mb M_Pat_add) 18 = .ok (.aastore, 1) := by decide +kernel
theorem d_Pat_add_19 : decode (mb M_Pat_add) 19 = .ok (.aload_n 0, 1) := by decide +kernel
theorem d_Pat_add_20 : decode (mb M_Pat_add) 20 = .ok (.dup, 1) := by decide +kernel
theorem d_Pat_add_21 : decode (mb M_Pat_add) 21 = .ok (.getfield 17, 3) := by decide +kernel
theorem d_Pat_add_24 : decode (mb M_Pat_add) 24 = .ok (.iconst 1, 1) := by decide +kernel
theorem d_Pat_add_25 : decode (mb M_Pat_add) 25 = .ok (.iadd, 1) := by decide +kernel
theorem d_Pat_add_26 : decode (mb M_Pat_add) 26 = .ok (.putfield 17, 3) := by decide +kernel
theorem d_Pat_add_29 : decode (mb M_Pat_add) 29 = .ok (.return_, 1) := by decide +kernel
theorem d_Pat_contextAhead_0 : decode (mb M_Pat_contextAhead) 0 = .ok (.iconst 0, 1) := by decide +kernel
theorem d_Pat_contextAhead_1 : decode (mb M_Pat_contextAhead) 1 = .ok (.istore 4, 2) := by decide +kernel
theorem d_Pat_contextAhead_3 : decode (mb M_Pat_contextAhead) 3 = .ok (.iload 4, 2) := by decide +kernel
theorem d_Pat_contextAhead_5 : decode (mb M_Pat_contextAhead) 5 = .ok (.iload_n 3, 1) := by decide +kernel
theorem d_Pat_contextAhead_6 : decode (mb M_Pat_contextAhead) 6 = .ok (.if_icmp .ge 42, 3) := by decide +kernel
theorem d_Pat_contextAhead_9 : decode (mb M_Pat_contextAhead) 9 = .ok (.iload_n 1, 1) := by decide +kernel
theorem d_Pat_contextAhead_10 : decode (mb M_Pat_contextAhead) 10 = .ok (.iload 4, 2) := by decide +kernel
theorem d_Pat_contextAhead_12 : decode (mb M_Pat_contextAhead) 12 = .ok (.isub, 1) := by decide +kernel
theorem d_Pat_contextAhead_13 : decode (mb M_Pat_contextAhead) 13 = .ok (.ifCond .le 35, 3) := by decide +kernel
theorem d_Pat_contextAhead_16 : decode (mb M_Pat_contextAhead) 16 = .ok (.iload_n 2, 1) := by decide +kernel
theorem d_Pat_contextAhead_17 : decode (mb M_Pat_contextAhead) 17 = .ok (.iload 4, 2) := by decide +kernel
theorem d_Pat_contextAhead_19 : decode (mb M_Pat_contextAhead) 19 = .ok (.isub, 1) := by decide +kernel
theorem d_Pat_contextAhead_20 : decode (mb M_Pat_contextAhead) 20 = .ok (.ifCond .le 28, 3) := by decide +kernel
theorem d_Pat_contextAhead_23 : decode (mb M_Pat_contextAhead) 23 = .ok (.aload_n 0, 1) := by decide +kernel
theorem d_Pat_contextAhead_24 : decode (mb M_Pat_contextAhead) 24 = .ok (.iload_n 1, 1) := by decide +kernel
theorem d_Pat_contextAhead_25 : decode (mb M_Pat_contextAhead) 25 = .ok (.iload 4, 2) := by decide +kernel
theorem d_Pat_contextAhead_27 : decode (mb M_Pat_contextAhead) 27 = .ok (.isub, 1) := by decide +kernel
theorem d_Pat_contextAhead_28 : decode (mb M_Pat_contextAhead) 28 = .ok (.iconst 1, 1) := by decide +kernel
theorem d_Pat_contextAhead_29 : decode (mb M_Pat_contextAhead) 29 = .ok (.isub, 1) := by decide +kernel
theorem d_Pat_contextAhead_30 : decode (mb M_Pat_contextAhead) 30 = .ok (.invokevirtual 27, 3) := by decide +kernel
theorem d_Pat_contextAhead_33 : decode (mb M_Pat_contextAhead) 33 = .ok (.iload_n 2, 1) := by decide +kernel
theorem d_Pat_contextAhead_34 : decode (mb M_Pat_contextAhead) 34 = .ok (.iload 4, 2) := by decide +kernel
theorem d_Pat_contextAhead_36 : decode (mb M_Pat_contextAhead) 36 = .ok (.isub, 1) := by decide +kernel
theorem d_Pat_contextAhead_37 : decode (mb M_Pat_contextAhead) 37 = .ok (.iconst 1, 1) := by decide +kernel
theorem d_Pat_contextAhead_38 : decode (mb M_Pat_contextAhead) 38 = .ok (.isub, 1) := by decide +kernel
theorem d_Pat_contextAhead_39 : decode (mb M_Pat_contextAhead) 39 = .ok (.if_icmp .ne 9, 3) := by decide +kernel
theorem d_Pat_contextAhead_42 : decode (mb M_Pat_contextAhead) 42 = .ok (.iinc 4 1, 3) := by decide +kernel
theorem d_Pat_contextAhead_45 : decode (mb M_Pat_contextAhead) 45 = .ok (.goto (-42), 3) := by decide +kernel
theorem d_Pat_contextAhead_48 : decode (mb M_Pat_contextAhead) 48 = .ok (.iload 4, 2) := by decide +kernel
theorem d_Pat_contextAhead_50 : decode (mb M_Pat_contextAhead) 50 = .ok (.ireturn, 1) := by decide +kernel
theorem d_Pat_contextBehind_0 : decode (mb M_Pat_contextBehind) 0 = .ok (.iconst 0, 1) := by decide +kernel
theorem d_Pat_contextBehind_1 : decode (mb M_Pat_contextBehind) 1 = .ok (.istore 4, 2) := by decide +kernel
theorem d_Pat_contextBehind_3 : decode (mb M_Pat_contextBehind) 3 = .ok (.iload 4, 2) := by decide +kernel
theorem d_Pat_contextBehind_5 : decode (mb M_Pat_contextBehind) 5 = .ok (.iload_n 3, 1) := by decide +kernel
theorem d_Pat_contextBehind_6 : decode (mb M_Pat_contextBehind) 6 = .ok (.if_icmp .ge 35, 3) := by decide +kernel
theorem d_Pat_contextBehind_9 : decode (mb M_Pat_contextBehind) 9 = .ok (.iload_n 1, 1) := by decide +kernel
theorem d_Pat_contextBehind_10 : decode (mb M_Pat_contextBehind) 10 = .ok (.iload 4, 2) := by decide +kernel
theorem d_Pat_contextBehind_12 : decode (mb M_Pat_contextBehind) 12 = .ok (.iadd, 1) := by decide +kernel
theorem d_Pat_contextBehind_13 : decode (mb M_Pat_contextBehind) 13 = .ok (.aload_n 0, 1) := by decide +kernel
theorem d_Pat_contextBehind_14 : decode (mb M_Pat_contextBehind) 14 = .ok (.invokevirtual 51, 3) := by decide +kernel
theorem d_Pat_contextBehind_17 : decode (mb M_Pat_contextBehind) 17 = .ok (.if_icmp .ge 24, 3) := by decide +kernel
theorem d_Pat_contextBehind_20 : decode (mb M_Pat_contextBehind) 20 = .ok (.aload_n 0, 1) := by decide +kernel
theorem d_Pat_contextBehind_21 : decode (mb M_Pat_contextBehind) 21 = .ok (.iload_n 1, 1) := by decide +kernel
theorem d_Pat_contextBehind_22 : decode (mb M_Pat_contextBehind) 22 = .ok (.iload 4, 2) := by decide +kernel
theorem d_Pat_contextBehind_24 : decode (mb M_Pat_contextBehind) 24 = .ok (.iadd, 1) := by decide +kernel
theorem d_Pat_contextBehind_25 : decode (mb M_Pat_contextBehind) 25 = .ok (.invokevirtual 27, 3) := by decide +kernel
theorem d_Pat_contextBehind_28 : decode (mb M_Pat_contextBehind) 28 = .ok (.iload_n 2, 1) := by decide +kernel
theorem d_Pat_contextBehind_29 : decode (mb M_Pat_contextBehind) 29 = .ok (.iload 4, 2) := by decide +kernel
theorem d_Pat_contextBehind_31 : decode (mb M_Pat_contextBehind) 31 = .ok (.iadd, 1) := by decide +kernel
theorem d_Pat_contextBehind_32 : decode (mb M_Pat_contextBehind) 32 = .ok (.if_icmp .ne 9, 3) := by decide +kernel
theorem d_Pat_contextBehind_35 : decode (mb M_Pat_contextBehind) 35 = .ok (.iinc 4 1, 3) := by decide +kernel
theorem d_Pat_contextBehind_38 : decode (mb M_Pat_contextBehind) 38 = .ok (.goto (-35), 3) := by decide +kernel
theorem d_Pat_contextBehind_41 : decode (mb M_Pat_contextBehind) 41 = .ok (.iload 4, 2) := by decide +kernel
theorem d_Pat_contextBehind_43 : decode (mb M_Pat_contextBehind) 43 = .ok (.ireturn, 1) := by decide +kernel
theorem d_Pat_fill_0 : decode (mb M_Pat_fill) 0 = .ok (.iconst 0, 1) := by decide +kernel
theorem d_Pat_fill_1 : decode (mb M_Pat_fill) 1 = .ok (.istore 5, 2) := by decide +kernel
theorem d_Pat_fill_3 : decode (mb M_Pat_fill) 3 = .ok (.iconst 0, 1) := by decide +kernel
theorem d_Pat_fill_4 : decode (mb M_Pat_fill) 4 = .ok (.istore 6, 2) := by decide +kernel
theorem d_Pat_fill_6 : decode (mb M_Pat_fill) 6 = .ok (.iconst 0, 1) := by decide +kernel
theorem d_Pat_fill_7 : decode (mb M_Pat_fill) 7 = .ok (.istore 7, 2) := by decide +kernel
theorem d_Pat_fill_9 : decode (mb M_Pat_fill) 9 = .ok (.iload 7, 2) := by decide +kernel
theorem d_Pat_fill_11 : decode (mb M_Pat_fill) 11 = .ok (.aload_n 1, 1) := by decide +kernel
theorem d_Pat_fill_12 : decode (mb M_Pat_fill) 12 = .ok (.invokevirtual 21, 3) := by decide +kernel
theorem d_Pat_fill_15 : decode (mb M_Pat_fill) 15 = .ok (.if_icmp .gt 145, 3) := by decide +kernel
theorem d_Pat_fill_18 : decode (mb M_Pat_fill) 18 = .ok (.iload 7, 2) := by decide +kernel
theorem d_Pat_fill_20 : decode (mb M_Pat_fill) 20 = .ok (.aload_n 1, 1) := by decide +kernel
theorem d_Pat_fill_21 : decode (mb M_Pat_fill) 21 = .ok (.invokevirtual 21, 3) := by decide +kernel
theorem d_Pat_fill_24 : decode (mb M_Pat_fill) 24 = .ok (.if_icmp .ge 12, 3) := by decide +kernel
theorem d_Pat_fill_27 : decode (mb M_Pat_fill) 27 = .ok (.aload_n 3, 1) := by decide +kernel
theorem d_Pat_fill_28 : decode (mb M_Pat_fill) 28 = .ok (.iload 7, 2) := by decide +kernel
theorem d_Pat_fill_30 : decode (mb M_Pat_fill) 30 = .ok (.invokevirtual 27, 3) := by decide +kernel
theorem d_Pat_fill_33 : decode (mb M_Pat_fill) 33 = .ok (.goto 7, 3) := by decide +kernel
theorem d_Pat_fill_36 : decode (mb M_Pat_fill) 36 = .ok (.aload_n 2, 1) := by decide +kernel
theorem d_Pat_fill_37 : decode (mb M_Pat_fill) 37 = .ok (.invokevirtual 21, 3) := by decide +kernel
theorem d_Pat_fill_40 : decode (mb M_Pat_fill) 40 = .ok (.istore 8, 2) := by decide +kernel
theorem d_Pat_fill_42 : decode (mb M_Pat_fill) 42 = .ok (.iload 8, 2) := by decide +kernel
theorem d_Pat_fill_44 : decode (mb M_Pat_fill) 44 = .ok (.iconst (-1), 1) := by decide +kernel
theorem d_Pat_fill_45 : decode (mb M_Pat_fill) 45 = .ok (.if_icmp .ne 6, 3) := by decide +kernel
theorem d_Pat_fill_48 : decode (mb M_Pat_fill) 48 = .ok (.goto 106, 3) := by decide +kernel
theorem d_Pat_fill_51 : decode (mb M_Pat_fill) 51 = .ok (.iload 7, 2) := by decide +kernel
theorem d_Pat_fill_53 : decode (mb M_Pat_fill) 53 = .ok (.iload 5, 2) := by decide +kernel
theorem d_Pat_fill_55 : decode (mb M_Pat_fill) 55 = .ok (.if_icmp .gt 10, 3) := by decide +kernel
theorem d_Pat_fill_58 : decode (mb M_Pat_fill) 58 = .ok (.iload 8, 2) := by decide +kernel
theorem d_Pat_fill_60 : decode (mb M_Pat_fill) 60 = .ok (.iload 6, 2) := by decide +kernel
theorem d_Pat_fill_62 : decode (mb M_Pat_fill) 62 = .ok (.if_icmp .le 80, 3) := by decide +kernel
theorem d_Pat_fill_65 : decode (mb M_Pat_fill) 65 = .ok (.aload_n 3, 1) := by decide +kernel
theorem d_Pat_fill_66 : decode (mb M_Pat_fill) 66 = .ok (.iload 5, 2) := by decide +kernel
theorem d_Pat_fill_68 : decode (mb M_Pat_fill) 68 = .ok (.iload 6, 2) := by decide +kernel
theorem d_Pat_fill_70 : decode (mb M_Pat_fill) 70 = .ok (.iload 4, 2) := by decide +kernel
theorem d_Pat_fill_72 : decode (mb M_Pat_fill) 72 = .ok (.invokestatic 33, 3) := by decide +kernel
theorem d_Pat_fill_75 : decode (mb M_Pat_fill) 75 = .ok (.istore 9, 2) := by decide +kernel
theorem d_Pat_fill_77 : decode (mb M_Pat_fill) 77 = .ok (.aload_n 3, 1) := by decide +kernel
theorem d_Pat_fill_78 : decode (mb M_Pat_fill) 78 = .ok (.iload 7, 2) := by decide +kernel
theorem d_Pat_fill_80 : decode (mb M_Pat_fill) 80 = .ok (.iload 8, 2) := by decide +kernel
theorem d_Pat_fill_82 : decode (mb M_Pat_fill) 82 = .ok (.iload 4, 2) := by decide +kernel
theorem d_Pat_fill_84 : decode (mb M_Pat_fill) 84 = .ok (.invokestatic 37, 3) := by decide +kernel
theorem d_Pat_fill_87 : decode (mb M_Pat_fill) 87 = .ok (.istore 10, 2) := by decide +kernel
theorem d_Pat_fill_89 : decode (mb M_Pat_fill) 89 = .ok (.aload_n 0, 1) := by decide +kernel
theorem d_Pat_fill_90 : decode (mb M_Pat_fill) 90 = .ok (.new 9, 3) := by decide +kernel
theorem d_Pat_fill_93 : decode (mb M_Pat_fill) 93 = .ok (.dup, 1) := by decide +kernel
theorem d_Pat_fill_94 : decode (mb M_Pat_fill) 94 = .ok (.iload 5, 2) := by decide +kernel
theorem d_Pat_fill_96 : decode (mb M_Pat_fill) 96 = .ok (.iload 6, 2) := by decide +kernel
theorem d_Pat_fill_98 : decode (mb M_Pat_fill) 98 = .ok (.aload_n 1, 1) := by decide +kernel
theorem d_Pat_fill_99 : decode (mb M_Pat_fill) 99 = .ok (.iload 5, 2) := by decide +kernel
theorem d_Pat_fill_101 : decode (mb M_Pat_fill) 101 = .ok (.iload 9, 2) := by decide +kernel
theorem d_Pat_fill_103 : decode (mb M_Pat_fill) 103 = .ok (.isub, 1) := by decide +kernel
theorem d_Pat_fill_104 : decode (mb M_Pat_fill) 104 = .ok (.iload 5, 2) := by decide +kernel
theorem d_Pat_fill_106 : decode (mb M_Pat_fill) 106 = .ok (.invokevirtual 40, 3) := by decide +kernel
theorem d_Pat_fill_109 : decode (mb M_Pat_fill) 109 = .ok (.aload_n 1, 1) := by decide +kernel
theorem d_Pat_fill_110 : decode (mb M_Pat_fill) 110 = .ok (.iload 5, 2) := by decide +kernel
theorem d_Pat_fill_112 : decode (mb M_Pat_fill) 112 = .ok (.iload 7, 2) := by decide +kernel
theorem d_Pat_fill_114 : decode (mb M_Pat_fill) 114 = .ok (.invokevirtual 40, 3) := by decide +kernel
theorem d_Pat_fill_117 : decode (mb M_Pat_fill) 117 = .ok (.aload_n 2, 1) := by decide +kernel
theorem d_Pat_fill_118 : decode (mb M_Pat_fill) 118 = .ok (.iload 6, 2) := by decide +kernel
theorem d_Pat_fill_120 : decode (mb M_Pat_fill) 120 = .ok (.iload 8, 2) := by decide +kernel
theorem d_Pat_fill_122 : decode (mb M_Pat_fill) 122 = .ok (.invokevirtual 40, 3) := by decide +kernel
theorem d_Pat_fill_125 : decode (mb M_Pat_fill) 125 = .ok (.aload_n 1, 1) := by decide +kernel
theorem d_Pat_fill_126 : decode (mb M_Pat_fill) 126 = .ok (.iload 7, 2) := by decide +kernel
theorem d_Pat_fill_128 : decode (mb M_Pat_fill) 128 = .ok (.iload 7, 2) := by decide +kernel
theorem d_Pat_fill_130 : decode (mb M_Pat_fill) 130 = .ok (.iload 10, 2) := by decide +kernel
theorem d_Pat_fill_132 : decode (mb M_Pat_fill) 132 = .ok (.iadd, 1) := by decide +kernel
theorem d_Pat_fill_133 : decode (mb M_Pat_fill) 133 = .ok (.invokevirtual 40, 3) := by decide +kernel
theorem d_Pat_fill_136 : decode (mb M_Pat_fill) 136 = .ok (.invokespecial 44, 3) := by decide +kernel
theorem d_Pat_fill_139 : decode (mb M_Pat_fill) 139 = .ok (.invokevirtual 47, 3) := by decide +kernel
theorem d_Pat_fill_142 : decode (mb M_Pat_fill) 142 = .ok (.iload 7, 2) := by decide +kernel
theorem d_Pat_fill_144 : decode (mb M_Pat_fill) 144 = .ok (.iconst 1, 1) := by decide +kernel
theorem d_Pat_fill_145 : decode (mb M_Pat_fill) 145 = .ok (.iadd, 1) := by decide +kernel
theorem d_Pat_fill_146 : decode (mb M_Pat_fill) 146 = .ok (.istore 5, 2) := by decide +kernel
theorem d_Pat_fill_148 : decode (mb M_Pat_fill) 148 = .ok (.iload 8, 2) := by decide +kernel
theorem d_Pat_fill_150 : decode (mb M_Pat_fill) 150 = .ok (.iconst 1, 1) := by decide +kernel
theorem d_Pat_fill_151 : decode (mb M_Pat_fill) 151 = .ok (.iadd, 1) := by decide +kernel
theorem d_Pat_fill_152 : decode (mb M_Pat_fill) 152 = .ok (.istore 6, 2) := by decide +kernel
theorem d_Pat_fill_154 : decode (mb M_Pat_fill) 154 = .ok (.iinc 7 1, 3) := by decide +kernel
theorem d_Pat_fill_157 : decode (mb M_Pat_fill) 157 = .ok (.goto (-148), 3) := by decide +kernel
theorem d_Pat_fill_160 : decode (mb M_Pat_fill) 160 = .ok (.return_, 1) := by decide +kernel
theorem d_Pat_fillTurned_0 : decode (mb M_Pat_fillTurned) 0 = .ok (.iconst 0, 1) := by decide +kernel
theorem d_Pat_fillTurned_1 : decode (mb M_Pat_fillTurned) 1 = .ok (.istore_n 2, 1) := by decide +kernel
theorem d_Pat_fillTurned_2 : decode (mb M_Pat_fillTurned) 2 = .ok (.iload_n 2, 1) := by decide +kernel
theorem d_Pat_fillTurned_3 : decode (mb M_Pat_fillTurned) 3 = .ok (.bipush 21, 2) := by decide +kernel
theorem d_Pat_fillTurned_5 : decode (mb M_Pat_fillTurned) 5 = .ok (.if_icmp .ge 27, 3) := by decide +kernel
theorem d_Pat_fillTurned_8 : decode (mb M_Pat_fillTurned) 8 = .ok (.aload_n 1, 1) := by decide +kernel
theorem d_Pat_fillTurned_9 : decode (mb M_Pat_fillTurned) 9 = .ok (.iload_n 2, 1) := by decide +kernel
theorem d_Pat_fillTurned_10 : decode (mb M_Pat_fillTurned) 10 = .ok (.invokevirtual 52, 3) := by decide +kernel
theorem d_Pat_fillTurned_13 : decode (mb M_Pat_fillTurned) 13 = .ok (.astore_n 3, 1) := by decide +kernel
theorem d_Pat_fillTurned_14 : decode (mb M_Pat_fillTurned) 14 = .ok (.aload_n 3, 1) := by decide +kernel
theorem d_Pat_fillTurned_15 : decode (mb M_Pat_fillTurned) 15 = .ok (.ifnull 11, 3) := by decide +kernel
theorem d_Pat_fillTurned_18 : decode (mb M_Pat_fillTurned) 18 = .ok (.aload_n 0, 1) := by decide +kernel
theorem d_Pat_fillTurned_19 : decode (mb M_Pat_fillTurned) 19 = .ok (.aload_n 3, 1) := by decide +kernel
theorem d_Pat_fillTurned_20 : decode (mb M_Pat_fillTurned) 20 = .ok (.invokevirtual 56, 3) := by decide +kernel
theorem d_Pat_fillTurned_23 : decode (mb M_Pat_fillTurned) 23 = .ok (.invokevirtual 47, 3) := by decide +kernel
theorem d_Pat_fillTurned_26 : decode (mb M_Pat_fillTurned) 26 = .ok (.iinc 2 1, 3) := by decide +kernel
theorem d_Pat_fillTurned_29 : decode (mb M_Pat_fillTurned) 29 = .ok (.goto (-27), 3) := by decide +kernel
theorem d_Pat_fillTurned_32 : decode (mb M_Pat_fillTurned) 32 = .ok (.return_, 1) := by decide +kernel
theorem d_Pat_hunkAt_0 : decode (mb M_Pat_hunkAt) 0 = .ok (.iload_n 1, 1) := by decide +kernel
theorem d_Pat_hunkAt_1 : decode (mb M_Pat_hunkAt) 1 = .ok (.ifCond .lt 11, 3) := by decide +kernel
theorem d_Pat_hunkAt_4 : decode (mb M_Pat_hunkAt) 4 = .ok (.iload_n 1, 1) := by decide +kernel
theorem d_Pat_hunkAt_5 : decode (mb M_Pat_hunkAt) 5 = .ok (.aload_n 0, 1) := by decide +kernel
theorem d_Pat_hunkAt_6 : decode (mb M_Pat_hunkAt) 6 = .ok (.getfield 17, 3) := by decide +kernel
theorem d_Pat_hunkAt_9 : decode (mb M_Pat_hunkAt) 9 = .ok (.if_icmp .lt 7, 3) := by decide +kernel
theorem d_Pat_hunkAt_12 : decode (mb M_Pat_hunkAt) 12 = .ok (.aconst_null, 1) := by decide +kernel
theorem d_Pat_hunkAt_13 : decode (mb M_Pat_hunkAt) 13 = .ok (.goto 9, 3) := by decide +kernel
theorem d_Pat_hunkAt_16 : decode (mb M_Pat_hunkAt) 16 = .ok (.aload_n 0, 1) := by decide +kernel
theorem d_Pat_hunkAt_17 : decode (mb M_Pat_hunkAt) 17 = .ok (.getfield 11, 3) := by decide +kernel
theorem d_Pat_hunkAt_20 : decode (mb M_Pat_hunkAt) 20 = .ok (.iload_n 1, 1) := by decide +kernel
theorem d_Pat_hunkAt_21 : decode (mb M_Pat_hunkAt) 21 = .ok (.aaload, 1) := by decide +kernel
theorem d_Pat_hunkAt_22 : decode (mb M_Pat_hunkAt) 22 = .ok (.areturn, 1) := by decide +kernel
theorem d_Pat_init_0 : decode (mb M_Pat_init) 0 = .ok (.aload_n 0, 1) := by decide +kernel
theorem d_Pat_init_1 : decode (mb M_Pat_init) 1 = .ok (.invokespecial 3, 3) := by decide +kernel
theorem d_Pat_init_4 : decode (mb M_Pat_init) 4 = .ok (.aload_n 0, 1) := by decide +kernel
theorem d_Pat_init_5 : decode (mb M_Pat_init) 5 = .ok (.bipush 21, 2) := by decide +kernel
theorem d_Pat_init_7 : decode (mb M_Pat_init) 7 = .ok (.anewarray 9, 3) := by decide +kernel
theorem d_Pat_init_10 : decode (mb M_Pat_init) 10 = .ok (.putfield 11, 3) := by decide +kernel
theorem d_Pat_init_13 : decode (mb M_Pat_init) 13 = .ok (.aload_n 0, 1) := by decide +kernel
theorem d_Pat_init_14 : decode (mb M_Pat_init) 14 = .ok (.iconst 0, 1) := by decide +kernel
theorem d_Pat_init_15 : decode (mb M_Pat_init) 15 = .ok (.putfield 17, 3) := by decide +kernel
theorem d_Pat_init_18 : decode (mb M_Pat_init) 18 = .ok (.return_, 1) := by decide +kernel
theorem d_Pat_layOn_0 : decode (mb M_Pat_layOn) 0 = .ok (.iconst 0, 1) := by decide +kernel
theorem d_Pat_layOn_1 : decode (mb M_Pat_layOn) 1 = .ok (.istore_n 3, 1) := by decide +kernel
theorem d_Pat_layOn_2 : decode (mb M_Pat_layOn) 2 = .ok (.iconst 0, 1) := by decide +kernel
theorem d_Pat_layOn_3 : decode (mb M_Pat_layOn) 3 = .ok (.istore 4, 2) := by decide +kernel
theorem d_Pat_layOn_5 : decode (mb M_Pat_layOn) 5 = .ok (.iconst 0, 1) := by decide +kernel
theorem d_Pat_layOn_6 : decode (mb M_Pat_layOn) 6 = .ok (.istore 5, 2) := by decide +kernel
theorem d_Pat_layOn_8 : decode (mb M_Pat_layOn) 8 = .ok (.iconst 0, 1) := by decide +kernel
theorem d_Pat_layOn_9 : decode (mb M_Pat_layOn) 9 = .ok (.istore 6, 2) := by decide +kernel
theorem d_Pat_layOn_11 : decode (mb M_Pat_layOn) 11 = .ok (.iload 6, 2) := by decide +kernel
theorem d_Pat_layOn_13 : decode (mb M_Pat_layOn) 13 = .ok (.aload_n 0, 1) := by decide +kernel
theorem d_Pat_layOn_14 : decode (mb M_Pat_layOn) 14 = .ok (.getfield 17, 3) := by decide +kernel
theorem d_Pat_layOn_17 : decode (mb M_Pat_layOn) 17 = .ok (.if_icmp .ge 103, 3) := by decide +kernel
theorem d_Pat_layOn_20 : decode (mb M_Pat_layOn) 20 = .ok (.aload_n 0, 1) := by decide +kernel
theorem d_Pat_layOn_21 : decode (mb M_Pat_layOn) 21 = .ok (.iload 6, 2) := by decide +kernel
theorem d_Pat_layOn_23 : decode (mb M_Pat_layOn) 23 = .ok (.invokevirtual 52, 3) := by decide +kernel
theorem d_Pat_layOn_26 : decode (mb M_Pat_layOn) 26 = .ok (.astore 7, 2) := by decide +kernel
theorem d_Pat_layOn_28 : decode (mb M_Pat_layOn) 28 = .ok (.aload 7, 2) := by decide +kernel
theorem d_Pat_layOn_30 : decode (mb M_Pat_layOn) 30 = .ok (.ifnonnull 6, 3) := by decide +kernel
theorem d_Pat_layOn_33 : decode (mb M_Pat_layOn) 33 = .ok (.goto 81, 3) := by decide +kernel
theorem d_Pat_layOn_36 : decode (mb M_Pat_layOn) 36 = .ok (.aload 7, 2) := by decide +kernel
theorem d_Pat_layOn_38 : decode (mb M_Pat_layOn) 38 = .ok (.getfield 60, 3) := by decide +kernel
theorem d_Pat_layOn_41 : decode (mb M_Pat_layOn) 41 = .ok (.iload 4, 2) := by decide +kernel
theorem d_Pat_layOn_43 : decode (mb M_Pat_layOn) 43 = .ok (.iadd, 1) := by decide +kernel
theorem d_Pat_layOn_44 : decode (mb M_Pat_layOn) 44 = .ok (.istore 8, 2) := by decide +kernel
theorem d_Pat_layOn_46 : decode (mb M_Pat_layOn) 46 = .ok (.aload 7, 2) := by decide +kernel
theorem d_Pat_layOn_48 : decode (mb M_Pat_layOn) 48 = .ok (.aload_n 1, 1) := by decide +kernel
theorem d_Pat_layOn_49 : decode (mb M_Pat_layOn) 49 = .ok (.iload 8, 2) := by decide +kernel
theorem d_Pat_layOn_51 : decode (mb M_Pat_layOn) 51 = .ok (.iload 5, 2) := by decide +kernel
theorem d_Pat_layOn_53 : decode (mb M_Pat_layOn) 53 = .ok (.iload_n 2, 1) := by decide +kernel
theorem d_Pat_layOn_54 : decode (mb M_Pat_layOn) 54 = .ok (.invokevirtual 63, 3) := by decide +kernel
theorem d_Pat_layOn_57 : decode (mb M_Pat_layOn) 57 = .ok (.istore 9, 2) := by decide +kernel
theorem d_Pat_layOn_59 : decode (mb M_Pat_layOn) 59 = .ok (.iload 9, 2) := by decide +kernel
theorem d_Pat_layOn_61 : decode (mb M_Pat_layOn) 61 = .ok (.iconst (-1), 1) := by decide +kernel
theorem d_Pat_layOn_62 : decode (mb M_Pat_layOn) 62 = .ok (.if_icmp .ne 9, 3) := by decide +kernel
theorem d_Pat_layOn_65 : decode (mb M_Pat_layOn) 65 = .ok (.iinc 3 1, 3) := by decide +kernel
theorem d_Pat_layOn_68 : decode (mb M_Pat_layOn) 68 = .ok (.goto 46, 3) := by decide +kernel
theorem d_Pat_layOn_71 : decode (mb M_Pat_layOn) 71 = .ok (.aload 7, 2) := by decide +kernel
theorem d_Pat_layOn_73 : decode (mb M_Pat_layOn) 73 = .ok (.aload_n 1, 1) := by decide +kernel
theorem d_Pat_layOn_74 : decode (mb M_Pat_layOn) 74 = .ok (.iload 9, 2) := by decide +kernel
theorem d_Pat_layOn_76 : decode (mb M_Pat_layOn) 76 = .ok (.invokevirtual 67, 3) := by decide +kernel
theorem d_Pat_layOn_79 : decode (mb M_Pat_layOn) 79 = .ok (.iload 4, 2) := by decide +kernel
theorem d_Pat_layOn_81 : decode (mb M_Pat_layOn) 81 = .ok (.aload 7, 2) := by decide +kernel
theorem d_Pat_layOn_83 : decode (mb M_Pat_layOn) 83 = .ok (.getfield 71, 3) := by decide +kernel
theorem d_Pat_layOn_86 : decode (mb M_Pat_layOn) 86 = .ok (.arraylength, 1) := by decide +kernel
theorem d_Pat_layOn_87 : decode (mb M_Pat_layOn) 87 = .ok (.aload 7, 2) := by decide +kernel
theorem d_Pat_layOn_89 : decode (mb M_Pat_layOn) 89 = .ok (.getfield 75, 3) := by decide +kernel
theorem d_Pat_layOn_92 : decode (mb M_Pat_layOn) 92 = .ok (.arraylength, 1) := by decide +kernel
theorem d_Pat_layOn_93 : decode (mb M_Pat_layOn) 93 = .ok (.isub, 1) := by decide +kernel
theorem d_Pat_layOn_94 : decode (mb M_Pat_layOn) 94 = .ok (.iload 9, 2) := by decide +kernel
theorem d_Pat_layOn_96 : decode (mb M_Pat_layOn) 96 = .ok (.iadd, 1) := by decide +kernel
theorem d_Pat_layOn_97 : decode (mb M_Pat_layOn) 97 = .ok (.iload 8, 2) := by decide +kernel
theorem d_Pat_layOn_99 : decode (mb M_Pat_layOn) 99 = .ok (.isub, 1) := by decide +kernel
theorem d_Pat_layOn_100 : decode (mb M_Pat_layOn) 100 = .ok (.iadd, 1) := by decide +kernel
theorem d_Pat_layOn_101 : decode (mb M_Pat_layOn) 101 = .ok (.istore 4, 2) := by decide +kernel
theorem d_Pat_layOn_103 : decode (mb M_Pat_layOn) 103 = .ok (.iload 9, 2) := by decide +kernel
theorem d_Pat_layOn_105 : decode (mb M_Pat_layOn) 105 = .ok (.aload 7, 2) := by decide +kernel
theorem d_Pat_layOn_107 : decode (mb M_Pat_layOn) 107 = .ok (.getfield 71, 3) := by decide +kernel
theorem d_Pat_layOn_110 : decode (mb M_Pat_layOn) 110 = .ok (.arraylength, 1) := by decide +kernel
theorem d_Pat_layOn_111 : decode (mb M_Pat_layOn) 111 = .ok (.iadd, 1) := by decide +kernel
theorem d_Pat_layOn_112 : decode (mb M_Pat_layOn) 112 = .ok (.istore 5, 2) := by decide +kernel
theorem d_Pat_layOn_114 : decode (mb M_Pat_layOn) 114 = .ok (.iinc 6 1, 3) := by decide +kernel
theorem d_Pat_layOn_117 : decode (mb M_Pat_layOn) 117 = .ok (.goto (-106), 3) := by decide +kernel
theorem d_Pat_layOn_120 : decode (mb M_Pat_layOn) 120 = .ok (.iload_n 3, 1) := by decide +kernel
theorem d_Pat_layOn_121 : decode (mb M_Pat_layOn) 121 = .ok (.ireturn, 1) := by decide +kernel
theorem d_Rev_drop_0 : decode (mb M_Rev_drop) 0 = .ok (.iload_n 1, 1) := by decide +kernel
theorem d_Rev_drop_1 : decode (mb M_Rev_drop) 1 = .ok (.ifCond .lt 18, 3) := by decide +kernel
theorem d_Rev_drop_4 : decode (mb M_Rev_drop) 4 = .ok (.iload_n 1, 1) := by decide +kernel
theorem d_Rev_drop_5 : decode (mb M_Rev_drop) 5 = .ok (.bipush 6, 2) := by decide +kernel
theorem d_Rev_drop_7 : decode (mb M_Rev_drop) 7 = .ok (.if_icmp .ge 12, 3) := by decide +kernel
theorem d_Rev_drop_10 : decode (mb M_Rev_drop) 10 = .ok (.aload_n 0, 1) := by decide +kernel
theorem d_Rev_drop_11 : decode (mb M_Rev_drop) 11 = .ok (.getfield 9, 3) := by decide +kernel
theorem d_Rev_drop_14 : decode (mb M_Rev_drop) 14 = .ok (.iload_n 1, 1) := by decide +kernel
theorem d_Rev_drop_15 : decode (mb M_Rev_drop) 15 = .ok (.iaload, 1) := by decide +kernel
theorem d_Rev_drop_16 : decode (mb M_Rev_drop) 16 = .ok (.ifCond .ne 5, 3) := by decide +kernel
theorem d_Rev_drop_19 : decode (mb M_Rev_drop) 19 = .ok (.iconst 0, 1) := by decide +kernel
theorem d_Rev_drop_20 : decode (mb M_Rev_drop) 20 = .ok (.ireturn, 1) := by decide +kernel
theorem d_Rev_drop_21 : decode (mb M_Rev_drop) 21 = .ok (.aload_n 0, 1) := by decide +kernel
theorem d_Rev_drop_22 : decode (mb M_Rev_drop) 22 = .ok (.getfield 9, 3) := by decide +kernel
theorem d_Rev_drop_25 : decode (mb M_Rev_drop) 25 = .ok (.iload_n 1, 1) := by decide +kernel
theorem d_Rev_drop_26 : decode (mb M_Rev_drop) 26 = .ok (.iconst 0, 1) := by decide +kernel
theorem d_Rev_drop_27 : decode (mb M_Rev_drop) 27 = .ok (.iastore, 1) := by decide +kernel
theorem d_Rev_drop_28 : decode (mb M_Rev_drop) 28 = .ok (.iconst 1, 1) := by decide +kernel
theorem d_Rev_drop_29 : decode (mb M_Rev_drop) 29 = .ok (.ireturn, 1) := by decide +kernel
theorem d_Rev_dropAll_0 : decode (mb M_Rev_dropAll) 0 = .ok (.iconst 0, 1) := by decide +kernel
theorem d_Rev_dropAll_1 : decode (mb M_Rev_dropAll) 1 = .ok (.istore_n 1, 1) := by decide +kernel
theorem d_Rev_dropAll_2 : decode (mb M_Rev_dropAll) 2 = .ok (.iconst 0, 1) := by decide +kernel
theorem d_Rev_dropAll_3 : decode (mb M_Rev_dropAll) 3 = .ok (.istore_n 2, 1) := by decide +kernel
theorem d_Rev_dropAll_4 : decode (mb M_Rev_dropAll) 4 = .ok (.iload_n 2, 1) := by decide +kernel
theorem d_Rev_dropAll_5 : decode (mb M_Rev_dropAll) 5 = .ok (.bipush 6, 2) := by decide +kernel
theorem d_Rev_dropAll_7 : decode (mb M_Rev_dropAll) 7 = .ok (.if_icmp .ge 17, 3) := by decide +kernel
theorem d_Rev_dropAll_10 : decode (mb M_Rev_dropAll) 10 = .ok (.iload_n 1, 1) := by decide +kernel
theorem d_Rev_dropAll_11 : decode (mb M_Rev_dropAll) 11 = .ok (.aload_n 0, 1) := by decide +kernel
theorem d_Rev_dropAll_12 : decode (mb M_Rev_dropAll) 12 = .ok (.iload_n 2, 1) := by decide +kernel
theorem d_Rev_dropAll_13 : decode (mb M_Rev_dropAll) 13 = .ok (.invokevirtual 26, 3) := by decide +kernel
theorem d_Rev_dropAll_16 : decode (mb M_Rev_dropAll) 16 = .ok (.iadd, 1) := by decide +kernel
theorem d_Rev_dropAll_17 : decode (mb M_Rev_dropAll) 17 = .ok (.istore_n 1, 1) := by decide +kernel
theorem d_Rev_dropAll_18 : decode (mb M_Rev_dropAll) 18 = .ok (.iinc 2 1, 3) := by decide +kernel
theorem d_Rev_dropAll_21 : decode (mb M_Rev_dropAll) 21 = .ok (.goto (-17), 3) := by decide +kernel
theorem d_Rev_dropAll_24 : decode (mb M_Rev_dropAll) 24 = .ok (.iload_n 1, 1) := by decide +kernel
theorem d_Rev_dropAll_25 : decode (mb M_Rev_dropAll) 25 = .ok (.ireturn, 1) := by decide +kernel
theorem d_Rev_hear_0 : decode (mb M_Rev_hear) 0 = .ok (.iload_n 1, 1) := by decide +kernel
theorem d_Rev_hear_1 : decode (mb M_Rev_hear) 1 = .ok (.ifCond .lt 24, 3) := by decide +kernel
theorem d_Rev_hear_4 : decode (mb M_Rev_hear) 4 = .ok (.iload_n 1, 1) := by decide +kernel
theorem d_Rev_hear_5 : decode (mb M_Rev_hear) 5 = .ok (.bipush 6, 2) := by decide +kernel
theorem d_Rev_hear_7 : decode (mb M_Rev_hear) 7 = .ok (.if_icmp .ge 18, 3) := by decide +kernel
theorem d_Rev_hear_10 : decode (mb M_Rev_hear) 10 = .ok (.aload_n 0, 1) := by decide +kernel
theorem d_Rev_hear_11 : decode (mb M_Rev_hear) 11 = .ok (.getfield 9, 3) := by decide +kernel
theorem d_Rev_hear_14 : decode (mb M_Rev_hear) 14 = .ok (.iload_n 1, 1) := by decide +kernel
theorem d_Rev_hear_15 : decode (mb M_Rev_hear) 15 = .ok (.iload_n 2, 1) := by decide +kernel
theorem d_Rev_hear_16 : decode (mb M_Rev_hear) 16 = .ok (.ifCond .eq 7, 3) := by decide +kernel
theorem d_Rev_hear_19 : decode (mb M_Rev_hear) 19 = .ok (.iconst 1, 1) := by decide +kernel
theorem d_Rev_hear_20 : decode (mb M_Rev_hear) 20 = .ok (.goto 4, 3) := by decide +kernel
theorem d_Rev_hear_23 : decode (mb M_Rev_hear) 23 = .ok (.iconst 2, 1) := by decide +kernel
theorem d_Rev_hear_24 : decode (mb M_Rev_hear) 24 = .ok (.iastore, 1) := by decide +kernel
theorem d_Rev_hear_25 : decode (mb M_Rev_hear) 25 = .ok (.return_, 1) := by decide +kernel
theorem d_Rev_init_0 : decode (mb M_Rev_init) 0 = .ok (.aload_n 0, 1) := by decide +kernel
theorem d_Rev_init_1 : decode (mb M_Rev_init) 1 = .ok (.invokespecial 3, 3) := by decide +kernel
theorem d_Rev_init_4 : decode (mb M_Rev_init) 4 = .ok (.aload_n 0, 1) := by decide +kernel
theorem d_Rev_init_5 : decode (mb M_Rev_init) 5 = .ok (.bipush 6, 2) := by decide +kernel
theorem d_Rev_init_7 : decode (mb M_Rev_init) 7 = .ok (.newarray .int, 2) := by decide +kernel
theorem d_Rev_init_9 : decode (mb M_Rev_init) 9 = .ok (.putfield 9, 3) := by decide +kernel
theorem d_Rev_init_12 : decode (mb M_Rev_init) 12 = .ok (.aload_n 0, 1) := by decide +kernel
theorem d_Rev_init_13 : decode (mb M_Rev_init) 13 = .ok (.iconst (-1), 1) := by decide +kernel
theorem d_Rev_init_14 : decode (mb M_Rev_init) 14 = .ok (.putfield 15, 3) := by decide +kernel
theorem d_Rev_init_17 : decode (mb M_Rev_init) 17 = .ok (.aload_n 0, 1) := by decide +kernel
theorem d_Rev_init_18 : decode (mb M_Rev_init) 18 = .ok (.iconst (-1), 1) := by decide +kernel
theorem d_Rev_init_19 : decode (mb M_Rev_init) 19 = .ok (.putfield 19, 3) := by decide +kernel
theorem d_Rev_init_22 : decode (mb M_Rev_init) 22 = .ok (.aload_n 0, 1) := by decide +kernel
theorem d_Rev_init_23 : decode (mb M_Rev_init) 23 = .ok (.iconst 0, 1) := by decide +kernel
theorem d_Rev_init_24 : decode (mb M_Rev_init) 24 = .ok (.putfield 22, 3) := by decide +kernel
theorem d_Rev_init_27 : decode (mb M_Rev_init) 27 = .ok (.return_, 1) := by decide +kernel
theorem d_Rev_startOn_0 : decode (mb M_Rev_startOn) 0 = .ok (.aload_n 0, 1) := by decide +kernel
theorem d_Rev_startOn_1 : decode (mb M_Rev_startOn) 1 = .ok (.iload_n 1, 1) := by decide +kernel
theorem d_Rev_startOn_2 : decode (mb M_Rev_startOn) 2 = .ok (.putfield 15, 3) := by decide +kernel
theorem d_Rev_startOn_5 : decode (mb M_Rev_startOn) 5 = .ok (.aload_n 0, 1) := by decide +kernel
theorem d_Rev_startOn_6 : decode (mb M_Rev_startOn) 6 = .ok (.iload_n 2, 1) := by decide +kernel
theorem d_Rev_startOn_7 : decode (mb M_Rev_startOn) 7 = .ok (.putfield 19, 3) := by decide +kernel
theorem d_Rev_startOn_10 : decode (mb M_Rev_startOn) 10 = .ok (.return_, 1) := by decide +kernel
theorem d_Rev_state_0 : decode (mb M_Rev_state) 0 = .ok (.aload_n 0, 1) := by decide +kernel
theorem d_Rev_state_1 : decode (mb M_Rev_state) 1 = .ok (.getfield 22, 3) := by decide +kernel
theorem d_Rev_state_4 : decode (mb M_Rev_state) 4 = .ok (.ifCond .eq 5, 3) := by decide +kernel
theorem d_Rev_state_7 : decode (mb M_Rev_state) 7 = .ok (.iconst 2, 1) := by decide +kernel
theorem d_Rev_state_8 : decode (mb M_Rev_state) 8 = .ok (.ireturn, 1) := by decide +kernel
theorem d_Rev_state_9 : decode (mb M_Rev_state) 9 = .ok (.iconst 0, 1) := by decide +kernel
theorem d_Rev_state_10 : decode (mb M_Rev_state) 10 = .ok (.istore_n 1, 1) := by decide +kernel
theorem d_Rev_state_11 : decode (mb M_Rev_state) 11 = .ok (.iconst 0, 1) := by decide +kernel
theorem d_Rev_state_12 : decode (mb M_Rev_state) 12 = .ok (.istore_n 2, 1) := by decide +kernel
theorem d_Rev_state_13 : decode (mb M_Rev_state) 13 = .ok (.iload_n 2, 1) := by decide +kernel
theorem d_Rev_state_14 : decode (mb M_Rev_state) 14 = .ok (.bipush 6, 2) := by decide +kernel
theorem d_Rev_state_16 : decode (mb M_Rev_state) 16 = .ok (.if_icmp .ge 39, 3) := by decide +kernel
theorem d_Rev_state_19 : decode (mb M_Rev_state) 19 = .ok (.aload_n 0, 1) := by decide +kernel
theorem d_Rev_state_20 : decode (mb M_Rev_state) 20 = .ok (.getfield 9, 3) := by decide +kernel
theorem d_Rev_state_23 : decode (mb M_Rev_state) 23 = .ok (.iload_n 2, 1) := by decide +kernel
theorem d_Rev_state_24 : decode (mb M_Rev_state) 24 = .ok (.iaload, 1) := by decide +kernel
theorem d_Rev_state_25 : decode (mb M_Rev_state) 25 = .ok (.iconst 2, 1) := by decide +kernel
theorem d_Rev_state_26 : decode (mb M_Rev_state) 26 = .ok (.if_icmp .ne 5, 3) := by decide +kernel
theorem d_Rev_state_29 : decode (mb M_Rev_state) 29 = .ok (.iconst 0, 1) := by decide +kernel
theorem d_Rev_state_30 : decode (mb M_Rev_state) 30 = .ok (.ireturn, 1) := by decide +kernel
theorem d_Rev_state_31 : decode (mb M_Rev_state) 31 = .ok (.iload_n 1, 1) := by decide +kernel
theorem d_Rev_state_32 : decode (mb M_Rev_state) 32 = .ok (.aload_n 0, 1) := by decide +kernel
theorem d_Rev_state_33 : decode (mb M_Rev_state) 33 = .ok (.getfield 9, 3) := by decide +kernel
theorem d_Rev_state_36 : decode (mb M_Rev_state) 36 = .ok (.iload_n 2, 1) := by decide +kernel
theorem d_Rev_state_37 : decode (mb M_Rev_state) 37 = .ok (.iaload, 1) := by decide +kernel
theorem d_Rev_state_38 : decode (mb M_Rev_state) 38 = .ok (.iconst 1, 1) := by decide +kernel
theorem d_Rev_state_39 : decode (mb M_Rev_state) 39 = .ok (.if_icmp .ne 7, 3) := by decide +kernel
theorem d_Rev_state_42 : decode (mb M_Rev_state) 42 = .ok (.iconst 1, 1) := by decide +kernel
theorem d_Rev_state_43 : decode (mb M_Rev_state) 43 = .ok (.goto 4, 3) := by decide +kernel
theorem d_Rev_state_46 : decode (mb M_Rev_state) 46 = .ok (.iconst 0, 1) := by decide +kernel
theorem d_Rev_state_47 : decode (mb M_Rev_state) 47 = .ok (.iadd, 1) := by decide +kernel
theorem d_Rev_state_48 : decode (mb M_Rev_state) 48 = .ok (.istore_n 1, 1) := by decide +kernel
theorem d_Rev_state_49 : decode (mb M_Rev_state) 49 = .ok (.iinc 2 1, 3) := by decide +kernel
theorem d_Rev_state_52 : decode (mb M_Rev_state) 52 = .ok (.goto (-39), 3) := by decide +kernel
theorem d_Rev_state_55 : decode (mb M_Rev_state) 55 = .ok (.iload_n 1, 1) := by decide +kernel
theorem d_Rev_state_56 : decode (mb M_Rev_state) 56 = .ok (.iconst 2, 1) := by decide +kernel
theorem d_Rev_state_57 : decode (mb M_Rev_state) 57 = .ok (.if_icmp .lt 7, 3) := by decide +kernel
theorem d_Rev_state_60 : decode (mb M_Rev_state) 60 = .ok (.iconst 1, 1) := by decide +kernel
theorem d_Rev_state_61 : decode (mb M_Rev_state) 61 = .ok (.goto 4, 3) := by decide +kernel
theorem d_Rev_state_64 : decode (mb M_Rev_state) 64 = .ok (.iconst 0, 1) := by decide +kernel
theorem d_Rev_state_65 : decode (mb M_Rev_state) 65 = .ok (.ireturn, 1) := by decide +kernel
theorem d_Txt_copy_0 : decode (mb M_Txt_copy) 0 = .ok (.aload_n 0, 1) := by decide +kernel
theorem d_Txt_copy_1 : decode (mb M_Txt_copy) 1 = .ok (.aload_n 1, 1) := by decide +kernel
theorem d_Txt_copy_2 : decode (mb M_Txt_copy) 2 = .ok (.getfield 19, 3) := by decide +kernel
theorem d_Txt_copy_5 : decode (mb M_Txt_copy) 5 = .ok (.bipush 40, 2) := by decide +kernel
theorem d_Txt_copy_7 : decode (mb M_Txt_copy) 7 = .ok (.invokestatic 43, 3) := by decide +kernel
theorem d_Txt_copy_10 : decode (mb M_Txt_copy) 10 = .ok (.putfield 19, 3) := by decide +kernel
theorem d_Txt_copy_13 : decode (mb M_Txt_copy) 13 = .ok (.iconst 0, 1) := by decide +kernel
theorem d_Txt_copy_14 : decode (mb M_Txt_copy) 14 = .ok (.istore_n 2, 1) := by decide +kernel
theorem d_Txt_copy_15 : decode (mb M_Txt_copy) 15 = .ok (.iload_n 2, 1) := by decide +kernel
theorem d_Txt_copy_16 : decode (mb M_Txt_copy) 16 = .ok (.aload_n 0, 1) := by decide +kernel
theorem d_Txt_copy_17 : decode (mb M_Txt_copy) 17 = .ok (.getfield 19, 3) := by decide +kernel
theorem d_Txt_copy_20 : decode (mb M_Txt_copy) 20 = .ok (.if_icmp .ge 33, 3) := by decide +kernel
theorem d_Txt_copy_23 : decode (mb M_Txt_copy) 23 = .ok (.aload_n 0, 1) := by decide +kernel
theorem d_Txt_copy_24 : decode (mb M_Txt_copy) 24 = .ok (.getfield 9, 3) := by decide +kernel
theorem d_Txt_copy_27 : decode (mb M_Txt_copy) 27 = .ok (.iload_n 2, 1) := by decide +kernel
theorem d_Txt_copy_28 : decode (mb M_Txt_copy) 28 = .ok (.aload_n 1, 1) := by decide +kernel
theorem d_Txt_copy_29 : decode (mb M_Txt_copy) 29 = .ok (.getfield 9, 3) := by decide +kernel
theorem d_Txt_copy_32 : decode (mb M_Txt_copy) 32 = .ok (.iload_n 2, 1) := by decide +kernel
theorem d_Txt_copy_33 : decode (mb M_Txt_copy) 33 = .ok (.laload, 1) := by decide +kernel
theorem d_Txt_copy_34 : decode (mb M_Txt_copy) 34 = .ok (.lastore, 1) := by decide +kernel
theorem d_Txt_copy_35 : decode (mb M_Txt_copy) 35 = .ok (.aload_n 0, 1) := by decide +kernel
theorem d_Txt_copy_36 : decode (mb M_Txt_copy) 36 = .ok (.getfield 15, 3) := by decide +kernel
theorem d_Txt_copy_39 : decode (mb M_Txt_copy) 39 = .ok (.iload_n 2, 1) := by decide +kernel
theorem d_Txt_copy_40 : decode (mb M_Txt_copy) 40 = .ok (.aload_n 1, 1) := by decide +kernel
theorem d_Txt_copy_41 : decode (mb M_Txt_copy) 41 = .ok (.getfield 15, 3) := by decide +kernel
theorem d_Txt_copy_44 : decode (mb M_Txt_copy) 44 = .ok (.iload_n 2, 1) := by decide +kernel
theorem d_Txt_copy_45 : decode (mb M_Txt_copy) 45 = .ok (.iaload, 1) := by decide +kernel
theorem d_Txt_copy_46 : decode (mb M_Txt_copy) 46 = .ok (.iastore, 1) := by decide +kernel
theorem d_Txt_copy_47 : decode (mb M_Txt_copy) 47 = .ok (.iinc 2 1, 3) := by decide +kernel
theorem d_Txt_copy_50 : decode (mb M_Txt_copy) 50 = .ok (.goto (-35), 3) := by decide +kernel
theorem d_Txt_copy_53 : decode (mb M_Txt_copy) 53 = .ok (.return_, 1) := by decide +kernel
theorem d_Txt_empty_0 : decode (mb M_Txt_empty) 0 = .ok (.aload_n 0, 1) := by decide +kernel
theorem d_Txt_empty_1 : decode (mb M_Txt_empty) 1 = .ok (.iconst 0, 1) := by decide +kernel
theorem d_Txt_empty_2 : decode (mb M_Txt_empty) 2 = .ok (.putfield 19, 3) := by decide +kernel
theorem d_Txt_empty_5 : decode (mb M_Txt_empty) 5 = .ok (.return_, 1) := by decide +kernel
theorem d_Txt_giveName_0 : decode (mb M_Txt_giveName) 0 = .ok (.aload_n 0, 1) := by decide +kernel
theorem d_Txt_giveName_1 : decode (mb M_Txt_giveName) 1 = .ok (.iload_n 1, 1) := by decide +kernel
theorem d_Txt_giveName_2 : decode (mb M_Txt_giveName) 2 = .ok (.invokevirtual 23, 3) := by decide +kernel
theorem d_Txt_giveName_5 : decode (mb M_Txt_giveName) 5 = .ok (.ifCond .eq 10, 3) := by decide +kernel
theorem d_Txt_giveName_8 : decode (mb M_Txt_giveName) 8 = .ok (.aload_n 0, 1) := by decide +kernel
theorem d_Txt_giveName_9 : decode (mb M_Txt_giveName) 9 = .ok (.getfield 15, 3) := by decide +kernel
theorem d_Txt_giveName_12 : decode (mb M_Txt_giveName) 12 = .ok (.iload_n 1, 1) := by decide +kernel
theorem d_Txt_giveName_13 : decode (mb M_Txt_giveName) 13 = .ok (.iload_n 2, 1) := by decide +kernel
theorem d_Txt_giveName_14 : decode (mb M_Txt_giveName) 14 = .ok (.iastore, 1) := by decide +kernel
theorem d_Txt_giveName_15 : decode (mb M_Txt_giveName) 15 = .ok (.return_, 1) := by decide +kernel
theorem d_Txt_hasPlace_0 : decode (mb M_Txt_hasPlace) 0 = .ok (.iload_n 1, 1) := by decide +kernel
theorem d_Txt_hasPlace_1 : decode (mb M_Txt_hasPlace) 1 = .ok (.ifCond .lt 15, 3) := by decide +kernel
theorem d_Txt_hasPlace_4 : decode (mb M_Txt_hasPlace) 4 = .ok (.iload_n 1, 1) := by decide +kernel
theorem d_Txt_hasPlace_5 : decode (mb M_Txt_hasPlace) 5 = .ok (.aload_n 0, 1) := by decide +kernel
theorem d_Txt_hasPlace_6 : decode (mb M_Txt_hasPlace) 6 = .ok (.getfield 19, 3) := by decide +kernel
theorem d_Txt_hasPlace_9 : decode (mb M_Txt_hasPlace) 9 = .ok (.if_icmp .ge 7, 3) := by decide +kernel
theorem d_Txt_hasPlace_12 : decode (mb M_Txt_hasPlace) 12 = .ok (.iconst 1, 1) := by decide +kernel
theorem d_Txt_hasPlace_13 : decode (mb M_Txt_hasPlace) 13 = .ok (.goto 4, 3) := by decide +kernel
theorem d_Txt_hasPlace_16 : decode (mb M_Txt_hasPlace) 16 = .ok (.iconst 0, 1) := by decide +kernel
theorem d_Txt_hasPlace_17 : decode (mb M_Txt_hasPlace) 17 = .ok (.ireturn, 1) := by decide +kernel
theorem d_Txt_holds_0 : decode (mb M_Txt_holds) 0 = .ok (.iconst 0, 1) := by decide +kernel
theorem d_Txt_holds_1 : decode (mb M_Txt_holds) 1 = .ok (.istore_n 2, 1) := by decide +kernel
theorem d_Txt_holds_2 : decode (mb M_Txt_holds) 2 = .ok (.iload_n 2, 1) := by decide +kernel
theorem d_Txt_holds_3 : decode (mb M_Txt_holds) 3 = .ok (.aload_n 0, 1) := by decide +kernel
theorem d_Txt_holds_4 : decode (mb M_Txt_holds) 4 = .ok (.getfield 19, 3) := by decide +kernel
theorem d_Txt_holds_7 : decode (mb M_Txt_holds) 7 = .ok (.if_icmp .ge 21, 3) := by decide +kernel
theorem d_Txt_holds_10 : decode (mb M_Txt_holds) 10 = .ok (.aload_n 0, 1) := by decide +kernel
theorem d_Txt_holds_11 : decode (mb M_Txt_holds) 11 = .ok (.getfield 15, 3) := by decide +kernel
theorem d_Txt_holds_14 : decode (mb M_Txt_holds) 14 = .ok (.iload_n 2, 1) := by decide +kernel
theorem d_Txt_holds_15 : decode (mb M_Txt_holds) 15 = .ok (.iaload, 1) := by decide +kernel
theorem d_Txt_holds_16 : decode (mb M_Txt_holds) 16 = .ok (.iload_n 1, 1) := by decide +kernel
theorem d_Txt_holds_17 : decode (mb M_Txt_holds) 17 = .ok (.if_icmp .ne 5, 3) := by decide +kernel
theorem d_Txt_holds_20 : decode (mb M_Txt_holds) 20 = .ok (.iconst 1, 1) := by decide +kernel
theorem d_Txt_holds_21 : decode (mb M_Txt_holds) 21 = .ok (.ireturn, 1) := by decide +kernel
theorem d_Txt_holds_22 : decode (mb M_Txt_holds) 22 = .ok (.iinc 2 1, 3) := by decide +kernel
theorem d_Txt_holds_25 : decode (mb M_Txt_holds) 25 = .ok (.goto (-23), 3) := by decide +kernel
theorem d_Txt_holds_28 : decode (mb M_Txt_holds) 28 = .ok (.iconst 0, 1) := by decide +kernel
theorem d_Txt_holds_29 : decode (mb M_Txt_holds) 29 = .ok (.ireturn, 1) := by decide +kernel
theorem d_Txt_init_0 : decode (mb M_Txt_init) 0 = .ok (.aload_n 0, 1) := by decide +kernel
theorem d_Txt_init_1 : decode (mb M_Txt_init) 1 = .ok (.invokespecial 3, 3) := by decide +kernel
theorem d_Txt_init_4 : decode (mb M_Txt_init) 4 = .ok (.aload_n 0, 1) := by decide +kernel
theorem d_Txt_init_5 : decode (mb M_Txt_init) 5 = .ok (.bipush 40, 2) := by decide +kernel
theorem d_Txt_init_7 : decode (mb M_Txt_init) 7 = .ok (.newarray .long, 2) := by decide +kernel
theorem d_Txt_init_9 : decode (mb M_Txt_init) 9 = .ok (.putfield 9, 3) := by decide +kernel
theorem d_Txt_init_12 : decode (mb M_Txt_init) 12 = .ok (.aload_n 0, 1) := by decide +kernel
theorem d_Txt_init_13 : decode (mb M_Txt_init) 13 = .ok (.bipush 40, 2) := by decide +kernel
theorem d_Txt_init_15 : decode (mb M_Txt_init) 15 = .ok (.newarray .int, 2) := by decide +kernel
theorem d_Txt_init_17 : decode (mb M_Txt_init) 17 = .ok (.putfield 15, 3) := by decide +kernel
theorem d_Txt_init_20 : decode (mb M_Txt_init) 20 = .ok (.aload_n 0, 1) := by decide +kernel
theorem d_Txt_init_21 : decode (mb M_Txt_init) 21 = .ok (.iconst 0, 1) := by decide +kernel
theorem d_Txt_init_22 : decode (mb M_Txt_init) 22 = .ok (.putfield 19, 3) := by decide +kernel
theorem d_Txt_init_25 : decode (mb M_Txt_init) 25 = .ok (.return_, 1) := by decide +kernel
theorem d_Txt_isLike_0 : decode (mb M_Txt_isLike) 0 = .ok (.aload_n 0, 1) := by decide +kernel
theorem d_Txt_isLike_1 : decode (mb M_Txt_isLike) 1 = .ok (.iconst 0, 1) := by decide +kernel
theorem d_Txt_isLike_2 : decode (mb M_Txt_isLike) 2 = .ok (.aload_n 0, 1) := by decide +kernel
theorem d_Txt_isLike_3 : decode (mb M_Txt_isLike) 3 = .ok (.getfield 19, 3) := by decide +kernel
theorem d_Txt_isLike_6 : decode (mb M_Txt_isLike) 6 = .ok (.aload_n 1, 1) := by decide +kernel
theorem d_Txt_isLike_7 : decode (mb M_Txt_isLike) 7 = .ok (.iconst 0, 1) := by decide +kernel
theorem d_Txt_isLike_8 : decode (mb M_Txt_isLike) 8 = .ok (.aload_n 1, 1) := by decide +kernel
theorem d_Txt_isLike_9 : decode (mb M_Txt_isLike) 9 = .ok (.getfield 19, 3) := by decide +kernel
theorem d_Txt_isLike_12 : decode (mb M_Txt_isLike) 12 = .ok (.invokevirtual 49, 3) := by decide +kernel
theorem d_Txt_isLike_15 : decode (mb M_Txt_isLike) 15 = .ok (.ireturn, 1) := by decide +kernel
theorem d_Txt_isRowLike_0 : decode (mb M_Txt_isRowLike) 0 = .ok (.iload_n 2, 1) := by decide +kernel
theorem d_Txt_isRowLike_1 : decode (mb M_Txt_isRowLike) 1 = .ok (.iload_n 1, 1) := by decide +kernel
theorem d_Txt_isRowLike_2 : decode (mb M_Txt_isRowLike) 2 = .ok (.isub, 1) := by decide +kernel
theorem d_Txt_isRowLike_3 : decode (mb M_Txt_isRowLike) 3 = .ok (.iload 5, 2) := by decide +kernel
theorem d_Txt_isRowLike_5 : decode (mb M_Txt_isRowLike) 5 = .ok (.iload 4, 2) := by decide +kernel
theorem d_Txt_isRowLike_7 : decode (mb M_Txt_isRowLike) 7 = .ok (.isub, 1) := by decide +kernel
theorem d_Txt_isRowLike_8 : decode (mb M_Txt_isRowLike) 8 = .ok (.if_icmp .eq 5, 3) := by decide +kernel
theorem d_Txt_isRowLike_11 : decode (mb M_Txt_isRowLike) 11 = .ok (.iconst 0, 1) := by decide +kernel
theorem d_Txt_isRowLike_12 : decode (mb M_Txt_isRowLike) 12 = .ok (.ireturn, 1) := by decide +kernel
theorem d_Txt_isRowLike_13 : decode (mb M_Txt_isRowLike) 13 = .ok (.iconst 0, 1) := by decide +kernel
theorem d_Txt_isRowLike_14 : decode (mb M_Txt_isRowLike) 14 = .ok (.istore 6, 2) := by decide +kernel
theorem d_Txt_isRowLike_16 : decode (mb M_Txt_isRowLike) 16 = .ok (.iload 6, 2) := by decide +kernel
theorem d_Txt_isRowLike_18 : decode (mb M_Txt_isRowLike) 18 = .ok (.iload_n 2, 1) := by decide +kernel
theorem d_Txt_isRowLike_19 : decode (mb M_Txt_isRowLike) 19 = .ok (.iload_n 1, 1) := by decide +kernel
theorem d_Txt_isRowLike_20 : decode (mb M_Txt_isRowLike) 20 = .ok (.isub, 1) := by decide +kernel
theorem d_Txt_isRowLike_21 : decode (mb M_Txt_isRowLike) 21 = .ok (.if_icmp .ge 32, 3) := by decide +kernel
theorem d_Txt_isRowLike_24 : decode (mb M_Txt_isRowLike) 24 = .ok (.aload_n 0, 1) := by decide +kernel
theorem d_Txt_isRowLike_25 : decode (mb M_Txt_isRowLike) 25 = .ok (.iload_n 1, 1) := by decide +kernel
theorem d_Txt_isRowLike_26 : decode (mb M_Txt_isRowLike) 26 = .ok (.iload 6, 2) := by decide +kernel
theorem d_Txt_isRowLike_28 : decode (mb M_Txt_isRowLike) 28 = .ok (.iadd, 1) := by decide +kernel
theorem d_Txt_isRowLike_29 : decode (mb M_Txt_isRowLike) 29 = .ok (.invokevirtual 27, 3) := by decide +kernel
theorem d_Txt_isRowLike_32 : decode (mb M_Txt_isRowLike) 32 = .ok (.aload_n 3, 1) := by decide +kernel
theorem d_Txt_isRowLike_33 : decode (mb M_Txt_isRowLike) 33 = .ok (.iload 4, 2) := by decide +kernel
theorem d_Txt_isRowLike_35 : decode (mb M_Txt_isRowLike) 35 = .ok (.iload 6, 2) := by decide +kernel
theorem d_Txt_isRowLike_37 : decode (mb M_Txt_isRowLike) 37 = .ok (.iadd, 1) := by decide +kernel
theorem d_Txt_isRowLike_38 : decode (mb M_Txt_isRowLike) 38 = .ok (.invokevirtual 27, 3) := by decide +kernel
theorem d_Txt_isRowLike_41 : decode (mb M_Txt_isRowLike) 41 = .ok (.lcmp, 1) := by decide +kernel
theorem d_Txt_isRowLike_42 : decode (mb M_Txt_isRowLike) 42 = .ok (.ifCond .eq 5, 3) := by decide +kernel
theorem d_Txt_isRowLike_45 : decode (mb M_Txt_isRowLike) 45 = .ok (.iconst 0, 1) := by decide +kernel
theorem d_Txt_isRowLike_46 : decode (mb M_Txt_isRowLike) 46 = .ok (.ireturn, 1) := by decide +kernel
theorem d_Txt_isRowLike_47 : decode (mb M_Txt_isRowLike) 47 = .ok (.iinc 6 1, 3) := by decide +kernel
theorem d_Txt_isRowLike_50 : decode (mb M_Txt_isRowLike) 50 = .ok (.goto (-34), 3) := by decide +kernel
theorem d_Txt_isRowLike_53 : decode (mb M_Txt_isRowLike) 53 = .ok (.iconst 1, 1) := by decide +kernel
theorem d_Txt_isRowLike_54 : decode (mb M_Txt_isRowLike) 54 = .ok (.ireturn, 1) := by decide +kernel
theorem d_Txt_lineAt_0 : decode (mb M_Txt_lineAt) 0 = .ok (.iload_n 1, 1) := by decide +kernel
theorem d_Txt_lineAt_1 : decode (mb M_Txt_lineAt) 1 = .ok (.ifCond .lt 11, 3) := by decide +kernel
theorem d_Txt_lineAt_4 : decode (mb M_Txt_lineAt) 4 = .ok (.iload_n 1, 1) := by decide +kernel
theorem d_Txt_lineAt_5 : decode (mb M_Txt_lineAt) 5 = .ok (.aload_n 0, 1) := by decide +kernel
theorem d_Txt_lineAt_6 : decode (mb M_Txt_lineAt) 6 = .ok (.getfield 19, 3) := by decide +kernel
theorem d_Txt_lineAt_9 : decode (mb M_Txt_lineAt) 9 = .ok (.if_icmp .lt 7, 3) := by decide +kernel
theorem d_Txt_lineAt_12 : decode (mb M_Txt_lineAt) 12 = .ok (.lconst 0, 1) := by decide +kernel
theorem d_Txt_lineAt_13 : decode (mb M_Txt_lineAt) 13 = .ok (.goto 9, 3) := by decide +kernel
theorem d_Txt_lineAt_16 : decode (mb M_Txt_lineAt) 16 = .ok (.aload_n 0, 1) := by decide +kernel
theorem d_Txt_lineAt_17 : decode (mb M_Txt_lineAt) 17 = .ok (.getfield 9, 3) := by decide +kernel
theorem d_Txt_lineAt_20 : decode (mb M_Txt_lineAt) 20 = .ok (.iload_n 1, 1) := by decide +kernel
theorem d_Txt_lineAt_21 : decode (mb M_Txt_lineAt) 21 = .ok (.laload, 1) := by decide +kernel
theorem d_Txt_lineAt_22 : decode (mb M_Txt_lineAt) 22 = .ok (.lreturn, 1) := by decide +kernel
theorem d_Txt_nameAt_0 : decode (mb M_Txt_nameAt) 0 = .ok (.iload_n 1, 1) := by decide +kernel
theorem d_Txt_nameAt_1 : decode (mb M_Txt_nameAt) 1 = .ok (.ifCond .lt 11, 3) := by decide +kernel
theorem d_Txt_nameAt_4 : decode (mb M_Txt_nameAt) 4 = .ok (.iload_n 1, 1) := by decide +kernel
theorem d_Txt_nameAt_5 : decode (mb M_Txt_nameAt) 5 = .ok (.aload_n 0, 1) := by decide +kernel
theorem d_Txt_nameAt_6 : decode (mb M_Txt_nameAt) 6 = .ok (.getfield 19, 3) := by decide +kernel
theorem d_Txt_nameAt_9 : decode (mb M_Txt_nameAt) 9 = .ok (.if_icmp .lt 7, 3) := by decide +kernel
theorem d_Txt_nameAt_12 : decode (mb M_Txt_nameAt) 12 = .ok (.iconst (-1), 1) := by decide +kernel
theorem d_Txt_nameAt_13 : decode (mb M_Txt_nameAt) 13 = .ok (.goto 9, 3) := by decide +kernel
theorem d_Txt_nameAt_16 : decode (mb M_Txt_nameAt) 16 = .ok (.aload_n 0, 1) := by decide +kernel
theorem d_Txt_nameAt_17 : decode (mb M_Txt_nameAt) 17 = .ok (.getfield 15, 3) := by decide +kernel
theorem d_Txt_nameAt_20 : decode (mb M_Txt_nameAt) 20 = .ok (.iload_n 1, 1) := by decide +kernel
theorem d_Txt_nameAt_21 : decode (mb M_Txt_nameAt) 21 = .ok (.iaload, 1) := by decide +kernel
theorem d_Txt_nameAt_22 : decode (mb M_Txt_nameAt) 22 = .ok (.ireturn, 1) := by decide +kernel
theorem d_Txt_put_0 : decode (mb M_Txt_put) 0 = .ok (.iload_n 1, 1) := by decide +kernel
theorem d_Txt_put_1 : decode (mb M_Txt_put) 1 = .ok (.ifCond .lt 20, 3) := by decide +kernel
theorem d_Txt_put_4 : decode (mb M_Txt_put) 4 = .ok (.iload_n 1, 1) := by decide +kernel
theorem d_Txt_put_5 : decode (mb M_Txt_put) 5 = .ok (.aload_n 0, 1) := by decide +kernel
theorem d_Txt_put_6 : decode (mb M_Txt_put) 6 = .ok (.getfield 19, 3) := by decide +kernel
theorem d_Txt_put_9 : decode (mb M_Txt_put) 9 = .ok (.if_icmp .gt 12, 3) := by decide +kernel
theorem d_Txt_put_12 : decode (mb M_Txt_put) 12 = .ok (.aload_n 0, 1) := by decide +kernel
theorem d_Txt_put_13 : decode (mb M_Txt_put) 13 = .ok (.getfield 19, 3) := by decide +kernel
theorem d_Txt_put_16 : decode (mb M_Txt_put) 16 = .ok (.bipush 40, 2) := by decide +kernel
theorem d_Txt_put_18 : decode (mb M_Txt_put) 18 = .ok (.if_icmp .lt 4, 3) := by decide +kernel
theorem d_Txt_put_21 : decode (mb M_Txt_put) 21 = .ok (.return_, 1) := by decide +kernel
theorem d_Txt_put_22 : decode (mb M_Txt_put) 22 = .ok (.aload_n 0, 1) := by decide +kernel
theorem d_Txt_put_23 : decode (mb M_Txt_put) 23 = .ok (.getfield 19, 3) := by decide +kernel
theorem d_Txt_put_26 : decode (mb M_Txt_put) 26 = .ok (.istore 5, 2) := by decide +kernel
theorem d_Txt_put_28 : decode (mb M_Txt_put) 28 = .ok (.iload 5, 2) := by decide +kernel
theorem d_Txt_put_30 : decode (mb M_Txt_put) 30 = .ok (.iload_n 1, 1) := by decide +kernel
theorem d_Txt_put_31 : decode (mb M_Txt_put) 31 = .ok (.if_icmp .le 41, 3) := by decide +kernel
theorem d_Txt_put_34 : decode (mb M_Txt_put) 34 = .ok (.aload_n 0, 1) := by decide +kernel
theorem d_Txt_put_35 : decode (mb M_Txt_put) 35 = .ok (.getfield 9, 3) := by decide +kernel
theorem d_Txt_put_38 : decode (mb M_Txt_put) 38 = .ok (.iload 5, 2) := by decide +kernel
theorem d_Txt_put_40 : decode (mb M_Txt_put) 40 = .ok (.aload_n 0, 1) := by decide +kernel
theorem d_Txt_put_41 : decode (mb M_Txt_put) 41 = .ok (.getfield 9, 3) := by decide +kernel
theorem d_Txt_put_44 : decode (mb M_Txt_put) 44 = .ok (.iload 5, 2) := by decide +kernel
theorem d_Txt_put_46 : decode (mb M_Txt_put) 46 = .ok (.iconst 1, 1) := by decide +kernel
theorem d_Txt_put_47 : decode (mb M_Txt_put) 47 = .ok (.isub, 1) := by decide +kernel
theorem d_Txt_put_48 : decode (mb M_Txt_put) 48 = .ok (.laload, 1) := by decide +kernel
theorem d_Txt_put_49 : decode (mb M_Txt_put) 49 = .ok (.lastore, 1) := by decide +kernel
theorem d_Txt_put_50 : decode (mb M_Txt_put) 50 = .ok (.aload_n 0, 1) := by decide +kernel
theorem d_Txt_put_51 : decode (mb M_Txt_put) 51 = .ok (.getfield 15, 3) := by decide +kernel
theorem d_Txt_put_54 : decode (mb M_Txt_put) 54 = .ok (.iload 5, 2) := by decide +kernel
theorem d_Txt_put_56 : decode (mb M_Txt_put) 56 = .ok (.aload_n 0, 1) := by decide +kernel
theorem d_Txt_put_57 : decode (mb M_Txt_put) 57 = .ok (.getfield 15, 3) := by decide +kernel
theorem d_Txt_put_60 : decode (mb M_Txt_put) 60 = .ok (.iload 5, 2) := by decide +kernel
theorem d_Txt_put_62 : decode (mb M_Txt_put) 62 = .ok (.iconst 1, 1) := by decide +kernel
theorem d_Txt_put_63 : decode (mb M_Txt_put) 63 = .ok (.isub, 1) := by decide +kernel
theorem d_Txt_put_64 : decode (mb M_Txt_put) 64 = .ok (.iaload, 1) := by decide +kernel
theorem d_Txt_put_65 : decode (mb M_Txt_put) 65 = .ok (.iastore, 1) := by decide +kernel
theorem d_Txt_put_66 : decode (mb M_Txt_put) 66 = .ok (.iinc 5 (-1), 3) := by decide +kernel
theorem d_Txt_put_69 : decode (mb M_Txt_put) 69 = .ok (.goto (-41), 3) := by decide +kernel
theorem d_Txt_put_72 : decode (mb M_Txt_put) 72 = .ok (.aload_n 0, 1) := by decide +kernel
theorem d_Txt_put_73 : decode (mb M_Txt_put) 73 = .ok (.getfield 9, 3) := by decide +kernel
theorem d_Txt_put_76 : decode (mb M_Txt_put) 76 = .ok (.iload_n 1, 1) := by decide +kernel
theorem d_Txt_put_77 : decode (mb M_Txt_put) 77 = .ok (.lload_n 2, 1) := by decide +kernel
theorem d_Txt_put_78 : decode (mb M_Txt_put) 78 = .ok (.lastore, 1) := by decide +kernel
theorem d_Txt_put_79 : decode (mb M_Txt_put) 79 = .ok (.aload_n 0, 1) := by decide +kernel
theorem d_Txt_put_80 : decode (mb M_Txt_put) 80 = .ok (.getfield 15, 3) := by decide +kernel
theorem d_Txt_put_83 : decode (mb M_Txt_put) 83 = .ok (.iload_n 1, 1) := by decide +kernel
theorem d_Txt_put_84 : decode (mb M_Txt_put) 84 = .ok (.iload 4, 2) := by decide +kernel
theorem d_Txt_put_86 : decode (mb M_Txt_put) 86 = .ok (.iastore, 1) := by decide +kernel
theorem d_Txt_put_87 : decode (mb M_Txt_put) 87 = .ok (.aload_n 0, 1) := by decide +kernel
theorem d_Txt_put_88 : decode (mb M_Txt_put) 88 = .ok (.dup, 1) := by decide +kernel
theorem d_Txt_put_89 : decode (mb M_Txt_put) 89 = .ok (.getfield 19, 3) := by decide +kernel
theorem d_Txt_put_92 : decode (mb M_Txt_put) 92 = .ok (.iconst 1, 1) := by decide +kernel
theorem d_Txt_put_93 : decode (mb M_Txt_put) 93 = .ok (.iadd, 1) := by decide +kernel
theorem d_Txt_put_94 : decode (mb M_Txt_put) 94 = .ok (.putfield 19, 3) := by decide +kernel
theorem d_Txt_put_97 : decode (mb M_Txt_put) 97 = .ok (.return_, 1) := by decide +kernel
theorem d_Txt_putRow_0 : decode (mb M_Txt_putRow) 0 = .ok (.iload_n 1, 1) := by decide +kernel
theorem d_Txt_putRow_1 : decode (mb M_Txt_putRow) 1 = .ok (.istore 5, 2) := by decide +kernel
theorem d_Txt_putRow_3 : decode (mb M_Txt_putRow) 3 = .ok (.iload_n 3, 1) := by decide +kernel
theorem d_Txt_putRow_4 : decode (mb M_Txt_putRow) 4 = .ok (.istore 6, 2) := by decide +kernel
theorem d_Txt_putRow_6 : decode (mb M_Txt_putRow) 6 = .ok (.iload 6, 2) := by decide +kernel
theorem d_Txt_putRow_8 : decode (mb M_Txt_putRow) 8 = .ok (.iload 4, 2) := by decide +kernel
theorem d_Txt_putRow_10 : decode (mb M_Txt_putRow) 10 = .ok (.if_icmp .ge 30, 3) := by decide +kernel
theorem d_Txt_putRow_13 : decode (mb M_Txt_putRow) 13 = .ok (.aload_n 0, 1) := by decide +kernel
theorem d_Txt_putRow_14 : decode (mb M_Txt_putRow) 14 = .ok (.iload 5, 2) := by decide +kernel
theorem d_Txt_putRow_16 : decode (mb M_Txt_putRow) 16 = .ok (.aload_n 2, 1) := by decide +kernel
theorem d_Txt_putRow_17 : decode (mb M_Txt_putRow) 17 = .ok (.iload 6, 2) := by decide +kernel
theorem d_Txt_putRow_19 : decode (mb M_Txt_putRow) 19 = .ok (.invokevirtual 27, 3) := by decide +kernel
theorem d_Txt_putRow_22 : decode (mb M_Txt_putRow) 22 = .ok (.aload_n 2, 1) := by decide +kernel
theorem d_Txt_putRow_23 : decode (mb M_Txt_putRow) 23 = .ok (.iload 6, 2) := by decide +kernel
theorem d_Txt_putRow_25 : decode (mb M_Txt_putRow) 25 = .ok (.invokevirtual 31, 3) := by decide +kernel
theorem d_Txt_putRow_28 : decode (mb M_Txt_putRow) 28 = .ok (.invokevirtual 35, 3) := by decide +kernel
theorem d_Txt_putRow_31 : decode (mb M_Txt_putRow) 31 = .ok (.iinc 5 1, 3) := by decide +kernel
theorem d_Txt_putRow_34 : decode (mb M_Txt_putRow) 34 = .ok (.iinc 6 1, 3) := by decide +kernel
theorem d_Txt_putRow_37 : decode (mb M_Txt_putRow) 37 = .ok (.goto (-31), 3) := by decide +kernel
theorem d_Txt_putRow_40 : decode (mb M_Txt_putRow) 40 = .ok (.iload 5, 2) := by decide +kernel
theorem d_Txt_putRow_42 : decode (mb M_Txt_putRow) 42 = .ok (.ireturn, 1) := by decide +kernel
theorem d_Txt_rewrite_0 : decode (mb M_Txt_rewrite) 0 = .ok (.aload_n 0, 1) := by decide +kernel
theorem d_Txt_rewrite_1 : decode (mb M_Txt_rewrite) 1 = .ok (.iload_n 1, 1) := by decide +kernel
theorem d_Txt_rewrite_2 : decode (mb M_Txt_rewrite) 2 = .ok (.invokevirtual 23, 3) := by decide +kernel
theorem d_Txt_rewrite_5 : decode (mb M_Txt_rewrite) 5 = .ok (.ifCond .eq 28, 3) := by decide +kernel
theorem d_Txt_rewrite_8 : decode (mb M_Txt_rewrite) 8 = .ok (.aload_n 0, 1) := by decide +kernel
theorem d_Txt_rewrite_9 : decode (mb M_Txt_rewrite) 9 = .ok (.getfield 9, 3) := by decide +kernel
theorem d_Txt_rewrite_12 : decode (mb M_Txt_rewrite) 12 = .ok (.iload_n 1, 1) := by decide +kernel
theorem d_Txt_rewrite_13 : decode (mb M_Txt_rewrite) 13 = .ok (.laload, 1) := by decide +kernel
theorem d_Txt_rewrite_14 : decode (mb M_Txt_rewrite) 14 = .ok (.lload_n 2, 1) := by decide +kernel
theorem d_Txt_rewrite_15 : decode (mb M_Txt_rewrite) 15 = .ok (.lcmp, 1) := by decide +kernel
theorem d_Txt_rewrite_16 : decode (mb M_Txt_rewrite) 16 = .ok (.ifCond .eq 17, 3) := by decide +kernel
theorem d_Txt_rewrite_19 : decode (mb M_Txt_rewrite) 19 = .ok (.aload_n 0, 1) := by decide +kernel
theorem d_Txt_rewrite_20 : decode (mb M_Txt_rewrite) 20 = .ok (.getfield 9, 3) := by decide +kernel
theorem d_Txt_rewrite_23 : decode (mb M_Txt_rewrite) 23 = .ok (.iload_n 1, 1) := by decide +kernel
theorem d_Txt_rewrite_24 : decode (mb M_Txt_rewrite) 24 = .ok (.lload_n 2, 1) := by decide +kernel
theorem d_Txt_rewrite_25 : decode (mb M_Txt_rewrite) 25 = .ok (.lastore, 1) := by decide +kernel
theorem d_Txt_rewrite_26 : decode (mb M_Txt_rewrite) 26 = .ok (.aload_n 0, 1) := by decide +kernel
theorem d_Txt_rewrite_27 : decode (mb M_Txt_rewrite) 27 = .ok (.getfield 15, 3) := by decide +kernel
theorem d_Txt_rewrite_30 : decode (mb M_Txt_rewrite) 30 = .ok (.iload_n 1, 1) := by decide +kernel
theorem d_Txt_rewrite_31 : decode (mb M_Txt_rewrite) 31 = .ok (.iconst (-1), 1) := by decide +kernel
theorem d_Txt_rewrite_32 : decode (mb M_Txt_rewrite) 32 = .ok (.iastore, 1) := by decide +kernel
theorem d_Txt_rewrite_33 : decode (mb M_Txt_rewrite) 33 = .ok (.return_, 1) := by decide +kernel
theorem d_Txt_shift_0 : decode (mb M_Txt_shift) 0 = .ok (.aload_n 0, 1) := by decide +kernel
theorem d_Txt_shift_1 : decode (mb M_Txt_shift) 1 = .ok (.iload_n 1, 1) := by decide +kernel
theorem d_Txt_shift_2 : decode (mb M_Txt_shift) 2 = .ok (.invokevirtual 23, 3) := by decide +kernel
theorem d_Txt_shift_5 : decode (mb M_Txt_shift) 5 = .ok (.ifCond .eq 39, 3) := by decide +kernel
theorem d_Txt_shift_8 : decode (mb M_Txt_shift) 8 = .ok (.aload_n 0, 1) := by decide +kernel
theorem d_Txt_shift_9 : decode (mb M_Txt_shift) 9 = .ok (.iload_n 2, 1) := by decide +kernel
theorem d_Txt_shift_10 : decode (mb M_Txt_shift) 10 = .ok (.invokevirtual 23, 3) := by decide +kernel
theorem d_Txt_shift_13 : decode (mb M_Txt_shift) 13 = .ok (.ifCond .eq 31, 3) := by decide +kernel
theorem d_Txt_shift_16 : decode (mb M_Txt_shift) 16 = .ok (.aload_n 0, 1) := by decide +kernel
theorem d_Txt_shift_17 : decode (mb M_Txt_shift) 17 = .ok (.getfield 9, 3) := by decide +kernel
theorem d_Txt_shift_20 : decode (mb M_Txt_shift) 20 = .ok (.iload_n 1, 1) := by decide +kernel
theorem d_Txt_shift_21 : decode (mb M_Txt_shift) 21 = .ok (.laload, 1) := by decide +kernel
theorem d_Txt_shift_22 : decode (mb M_Txt_shift) 22 = .ok (.lstore_n 3, 1) := by decide +kernel
theorem d_Txt_shift_23 : decode (mb M_Txt_shift) 23 = .ok (.aload_n 0, 1) := by decide +kernel
theorem d_Txt_shift_24 : decode (mb M_Txt_shift) 24 = .ok (.getfield 15, 3) := by decide +kernel
theorem d_Txt_shift_27 : decode (mb M_Txt_shift) 27 = .ok (.iload_n 1, 1) := by decide +kernel
theorem d_Txt_shift_28 : decode (mb M_Txt_shift) 28 = .ok (.iaload, 1) := by decide +kernel
theorem d_Txt_shift_29 : decode (mb M_Txt_shift) 29 = .ok (.istore 5, 2) := by decide +kernel
theorem d_Txt_shift_31 : decode (mb M_Txt_shift) 31 = .ok (.aload_n 0, 1) := by decide +kernel
theorem d_Txt_shift_32 : decode (mb M_Txt_shift) 32 = .ok (.iload_n 1, 1) := by decide +kernel
theorem d_Txt_shift_33 : decode (mb M_Txt_shift) 33 = .ok (.invokevirtual 39, 3) := by decide +kernel
theorem d_Txt_shift_36 : decode (mb M_Txt_shift) 36 = .ok (.aload_n 0, 1) := by decide +kernel
theorem d_Txt_shift_37 : decode (mb M_Txt_shift) 37 = .ok (.iload_n 2, 1) := by decide +kernel
theorem d_Txt_shift_38 : decode (mb M_Txt_shift) 38 = .ok (.lload_n 3, 1) := by decide +kernel
theorem d_Txt_shift_39 : decode (mb M_Txt_shift) 39 = .ok (.iload 5, 2) := by decide +kernel
theorem d_Txt_shift_41 : decode (mb M_Txt_shift) 41 = .ok (.invokevirtual 35, 3) := by decide +kernel
theorem d_Txt_shift_44 : decode (mb M_Txt_shift) 44 = .ok (.return_, 1) := by decide +kernel
theorem d_Txt_signsOf_0 : decode (mb M_Txt_signsOf) 0 = .ok (.iconst 0, 1) := by decide +kernel
theorem d_Txt_signsOf_1 : decode (mb M_Txt_signsOf) 1 = .ok (.iload_n 2, 1) := by decide +kernel
theorem d_Txt_signsOf_2 : decode (mb M_Txt_signsOf) 2 = .ok (.iload_n 1, 1) := by decide +kernel
theorem d_Txt_signsOf_3 : decode (mb M_Txt_signsOf) 3 = .ok (.isub, 1) := by decide +kernel
theorem d_Txt_signsOf_4 : decode (mb M_Txt_signsOf) 4 = .ok (.invokestatic 53, 3) := by decide +kernel
theorem d_Txt_signsOf_7 : decode (mb M_Txt_signsOf) 7 = .ok (.newarray .long, 2) := by decide +kernel
theorem d_Txt_signsOf_9 : decode (mb M_Txt_signsOf) 9 = .ok (.astore_n 3, 1) := by decide +kernel
theorem d_Txt_signsOf_10 : decode (mb M_Txt_signsOf) 10 = .ok (.iconst 0, 1) := by decide +kernel
theorem d_Txt_signsOf_11 : decode (mb M_Txt_signsOf) 11 = .ok (.istore 4, 2) := by decide +kernel
theorem d_Txt_signsOf_13 : decode (mb M_Txt_signsOf) 13 = .ok (.iload 4, 2) := by decide +kernel
theorem d_Txt_signsOf_15 : decode (mb M_Txt_signsOf) 15 = .ok (.aload_n 3, 1) := by decide +kernel
theorem d_Txt_signsOf_16 : decode (mb M_Txt_signsOf) 16 = .ok (.arraylength, 1) := by decide +kernel
theorem d_Txt_signsOf_17 : decode (mb M_Txt_signsOf) 17 = .ok (.if_icmp .ge 21, 3) := by decide +kernel
theorem d_Txt_signsOf_20 : decode (mb M_Txt_signsOf) 20 = .ok (.aload_n 3, 1) := by decide +kernel
theorem d_Txt_signsOf_21 : decode (mb M_Txt_signsOf) 21 = .ok (.iload 4, 2) := by decide +kernel
theorem d_Txt_signsOf_23 : decode (mb M_Txt_signsOf) 23 = .ok (.aload_n 0, 1) := by decide +kernel
theorem d_Txt_signsOf_24 : decode (mb M_Txt_signsOf) 24 = .ok (.iload_n 1, 1) := by decide +kernel
theorem d_Txt_signsOf_25 : decode (mb M_Txt_signsOf) 25 = .ok (.iload 4, 2) := by decide +kernel
theorem d_Txt_signsOf_27 : decode (mb M_Txt_signsOf) 27 = .ok (.iadd, 1) := by decide +kernel
theorem d_Txt_signsOf_28 : decode (mb M_Txt_signsOf) 28 = .ok (.invokevirtual 27, 3) := by decide +kernel
theorem d_Txt_signsOf_31 : decode (mb M_Txt_signsOf) 31 = .ok (.lastore, 1) := by decide +kernel
theorem d_Txt_signsOf_32 : decode (mb M_Txt_signsOf) 32 = .ok (.iinc 4 1, 3) := by decide +kernel
theorem d_Txt_signsOf_35 : decode (mb M_Txt_signsOf) 35 = .ok (.goto (-22), 3) := by decide +kernel
theorem d_Txt_signsOf_38 : decode (mb M_Txt_signsOf) 38 = .ok (.aload_n 3, 1) := by decide +kernel
theorem d_Txt_signsOf_39 : decode (mb M_Txt_signsOf) 39 = .ok (.areturn, 1) := by decide +kernel
theorem d_Txt_size_0 : decode (mb M_Txt_size) 0 = .ok (.aload_n 0, 1) := by decide +kernel
theorem d_Txt_size_1 : decode (mb M_Txt_size) 1 = .ok (.getfield 19, 3) := by decide +kernel
theorem d_Txt_size_4 : decode (mb M_Txt_size) 4 = .ok (.ireturn, 1) := by decide +kernel
theorem d_Txt_stands_0 : decode (mb M_Txt_stands) 0 = .ok (.iload_n 1, 1) := by decide +kernel
theorem d_Txt_stands_1 : decode (mb M_Txt_stands) 1 = .ok (.ifCond .lt 27, 3) := by decide +kernel
theorem d_Txt_stands_4 : decode (mb M_Txt_stands) 4 = .ok (.iload_n 3, 1) := by decide +kernel
theorem d_Txt_stands_5 : decode (mb M_Txt_stands) 5 = .ok (.ifCond .lt 23, 3) := by decide +kernel
theorem d_Txt_stands_8 : decode (mb M_Txt_stands) 8 = .ok (.iload 4, 2) := by decide +kernel
theorem d_Txt_stands_10 : decode (mb M_Txt_stands) 10 = .ok (.aload_n 2, 1) := by decide +kernel
theorem d_Txt_stands_11 : decode (mb M_Txt_stands) 11 = .ok (.arraylength, 1) := by decide +kernel
theorem d_Txt_stands_12 : decode (mb M_Txt_stands) 12 = .ok (.if_icmp .gt 16, 3) := by decide +kernel
theorem d_Txt_stands_15 : decode (mb M_Txt_stands) 15 = .ok (.iload_n 1, 1) := by decide +kernel
theorem d_Txt_stands_16 : decode (mb M_Txt_stands) 16 = .ok (.iload 4, 2) := by decide +kernel
theorem d_Txt_stands_18 : decode (mb M_Txt_stands) 18 = .ok (.iadd, 1) := by decide +kernel
theorem d_Txt_stands_19 : decode (mb M_Txt_stands) 19 = .ok (.iload_n 3, 1) := by decide +kernel
theorem d_Txt_stands_20 : decode (mb M_Txt_stands) 20 = .ok (.isub, 1) := by decide +kernel
theorem d_Txt_stands_21 : decode (mb M_Txt_stands) 21 = .ok (.aload_n 0, 1) := by decide +kernel
theorem d_Txt_stands_22 : decode (mb M_Txt_stands) 22 = .ok (.getfield 19, 3) := by decide +kernel
theorem d_Txt_stands_25 : decode (mb M_Txt_stands) 25 = .ok (.if_icmp .le 5, 3) := by decide +kernel
theorem d_Txt_stands_28 : decode (mb M_Txt_stands) 28 = .ok (.iconst 0, 1) := by decide +kernel
theorem d_Txt_stands_29 : decode (mb M_Txt_stands) 29 = .ok (.ireturn, 1) := by decide +kernel
theorem d_Txt_stands_30 : decode (mb M_Txt_stands) 30 = .ok (.iload_n 3, 1) := by decide +kernel
theorem d_Txt_stands_31 : decode (mb M_Txt_stands) 31 = .ok (.istore 5, 2) := by decide +kernel
theorem d_Txt_stands_33 : decode (mb M_Txt_stands) 33 = .ok (.iload 5, 2) := by decide +kernel
theorem d_Txt_stands_35 : decode (mb M_Txt_stands) 35 = .ok (.iload 4, 2) := by decide +kernel
theorem d_Txt_stands_37 : decode (mb M_Txt_stands) 37 = .ok (.if_icmp .ge 30, 3) := by decide +kernel
theorem d_Txt_stands_40 : decode (mb M_Txt_stands) 40 = .ok (.aload_n 0, 1) := by decide +kernel
theorem d_Txt_stands_41 : decode (mb M_Txt_stands) 41 = .ok (.getfield 9, 3) := by decide +kernel
theorem d_Txt_stands_44 : decode (mb M_Txt_stands) 44 = .ok (.iload_n 1, 1) := by decide +kernel
theorem d_Txt_stands_45 : decode (mb M_Txt_stands) 45 = .ok (.iload 5, 2) := by decide +kernel
theorem d_Txt_stands_47 : decode (mb M_Txt_stands) 47 = .ok (.iadd, 1) := by decide +kernel
theorem d_Txt_stands_48 : decode (mb M_Txt_stands) 48 = .ok (.iload_n 3, 1) := by decide +kernel
theorem d_Txt_stands_49 : decode (mb M_Txt_stands) 49 = .ok (.isub, 1) := by decide +kernel
theorem d_Txt_stands_50 : decode (mb M_Txt_stands) 50 = .ok (.laload, 1) := by decide +kernel
theorem d_Txt_stands_51 : decode (mb M_Txt_stands) 51 = .ok (.aload_n 2, 1) := by decide +kernel
theorem d_Txt_stands_52 : decode (mb M_Txt_stands) 52 = .ok (.iload 5, 2) := by decide +kernel
theorem d_Txt_stands_54 : decode (mb M_Txt_stands) 54 = .ok (.laload, 1) := by decide +kernel
theorem d_Txt_stands_55 : decode (mb M_Txt_stands) 55 = .ok (.lcmp, 1) := by decide +kernel
theorem d_Txt_stands_56 : decode (mb M_Txt_stands) 56 = .ok (.ifCond .eq 5, 3) := by decide +kernel
theorem d_Txt_stands_59 : decode (mb M_Txt_stands) 59 = .ok (.iconst 0, 1) := by decide +kernel
theorem d_Txt_stands_60 : decode (mb M_Txt_stands) 60 = .ok (.ireturn, 1) := by decide +kernel
theorem d_Txt_stands_61 : decode (mb M_Txt_stands) 61 = .ok (.iinc 5 1, 3) := by decide +kernel
theorem d_Txt_stands_64 : decode (mb M_Txt_stands) 64 = .ok (.goto (-31), 3) := by decide +kernel
theorem d_Txt_stands_67 : decode (mb M_Txt_stands) 67 = .ok (.iconst 1, 1) := by decide +kernel
theorem d_Txt_stands_68 : decode (mb M_Txt_stands) 68 = .ok (.ireturn, 1) := by decide +kernel
theorem d_Txt_takeOut_0 : decode (mb M_Txt_takeOut) 0 = .ok (.aload_n 0, 1) := by decide +kernel
theorem d_Txt_takeOut_1 : decode (mb M_Txt_takeOut) 1 = .ok (.iload_n 1, 1) := by decide +kernel
theorem d_Txt_takeOut_2 : decode (mb M_Txt_takeOut) 2 = .ok (.invokevirtual 23, 3) := by decide +kernel
theorem d_Txt_takeOut_5 : decode (mb M_Txt_takeOut) 5 = .ok (.ifCond .ne 4, 3) := by decide +kernel
theorem d_Txt_takeOut_8 : decode (mb M_Txt_takeOut) 8 = .ok (.return_, 1) := by decide +kernel
theorem d_Txt_takeOut_9 : decode (mb M_Txt_takeOut) 9 = .ok (.iload_n 1, 1) := by decide +kernel
theorem d_Txt_takeOut_10 : decode (mb M_Txt_takeOut) 10 = .ok (.istore_n 2, 1) := by decide +kernel
theorem d_Txt_takeOut_11 : decode (mb M_Txt_takeOut) 11 = .ok (.iload_n 2, 1) := by decide +kernel
theorem d_Txt_takeOut_12 : decode (mb M_Txt_takeOut) 12 = .ok (.iconst 1, 1) := by decide +kernel
theorem d_Txt_takeOut_13 : decode (mb M_Txt_takeOut) 13 = .ok (.iadd, 1) := by decide +kernel
theorem d_Txt_takeOut_14 : decode (mb M_Txt_takeOut) 14 = .ok (.aload_n 0, 1) := by decide +kernel
theorem d_Txt_takeOut_15 : decode (mb M_Txt_takeOut) 15 = .ok (.getfield 19, 3) := by decide +kernel
theorem d_Txt_takeOut_18 : decode (mb M_Txt_takeOut) 18 = .ok (.if_icmp .ge 37, 3) := by decide +kernel
theorem d_Txt_takeOut_21 : decode (mb M_Txt_takeOut) 21 = .ok (.aload_n 0, 1) := by decide +kernel
theorem d_Txt_takeOut_22 : decode (mb M_Txt_takeOut) 22 = .ok (.getfield 9, 3) := by decide +kernel
theorem d_Txt_takeOut_25 : decode (mb M_Txt_takeOut) 25 = .ok (.iload_n 2, 1) := by decide +kernel
theorem d_Txt_takeOut_26 : decode (mb M_Txt_takeOut) 26 = .ok (.aload_n 0, 1) := by decide +kernel
theorem d_Txt_takeOut_27 : decode (mb M_Txt_takeOut) 27 = .ok (.getfield 9, 3) := by decide +kernel
theorem d_Txt_takeOut_30 : decode (mb M_Txt_takeOut) 30 = .ok (.iload_n 2, 1) := by decide +kernel
theorem d_Txt_takeOut_31 : decode (mb M_Txt_takeOut) 31 = .ok (.iconst 1, 1) := by decide +kernel
theorem d_Txt_takeOut_32 : decode (mb M_Txt_takeOut) 32 = .ok (.iadd, 1) := by decide +kernel
theorem d_Txt_takeOut_33 : decode (mb M_Txt_takeOut) 33 = .ok (.laload, 1) := by decide +kernel
theorem d_Txt_takeOut_34 : decode (mb M_Txt_takeOut) 34 = .ok (.lastore, 1) := by decide +kernel
theorem d_Txt_takeOut_35 : decode (mb M_Txt_takeOut) 35 = .ok (.aload_n 0, 1) := by decide +kernel
theorem d_Txt_takeOut_36 : decode (mb M_Txt_takeOut) 36 = .ok (.getfield 15, 3) := by decide +kernel
theorem d_Txt_takeOut_39 : decode (mb M_Txt_takeOut) 39 = .ok (.iload_n 2, 1) := by decide +kernel
theorem d_Txt_takeOut_40 : decode (mb M_Txt_takeOut) 40 = .ok (.aload_n 0, 1) := by decide +kernel
theorem d_Txt_takeOut_41 : decode (mb M_Txt_takeOut) 41 = .ok (.getfield 15, 3) := by decide +kernel
theorem d_Txt_takeOut_44 : decode (mb M_Txt_takeOut) 44 = .ok (.iload_n 2, 1) := by decide +kernel
theorem d_Txt_takeOut_45 : decode (mb M_Txt_takeOut) 45 = .ok (.iconst 1, 1) := by decide +kernel
theorem d_Txt_takeOut_46 : decode (mb M_Txt_takeOut) 46 = .ok (.iadd, 1) := by decide +kernel
theorem d_Txt_takeOut_47 : decode (mb M_Txt_takeOut) 47 = .ok (.iaload, 1) := by decide +kernel
theorem d_Txt_takeOut_48 : decode (mb M_Txt_takeOut) 48 = .ok (.iastore, 1) := by decide +kernel
theorem d_Txt_takeOut_49 : decode (mb M_Txt_takeOut) 49 = .ok (.iinc 2 1, 3) := by decide +kernel
theorem d_Txt_takeOut_52 : decode (mb M_Txt_takeOut) 52 = .ok (.goto (-41), 3) := by decide +kernel
theorem d_Txt_takeOut_55 : decode (mb M_Txt_takeOut) 55 = .ok (.aload_n 0, 1) := by decide +kernel
theorem d_Txt_takeOut_56 : decode (mb M_Txt_takeOut) 56 = .ok (.dup, 1) := by decide +kernel
theorem d_Txt_takeOut_57 : decode (mb M_Txt_takeOut) 57 = .ok (.getfield 19, 3) := by decide +kernel
theorem d_Txt_takeOut_60 : decode (mb M_Txt_takeOut) 60 = .ok (.iconst 1, 1) := by decide +kernel
theorem d_Txt_takeOut_61 : decode (mb M_Txt_takeOut) 61 = .ok (.isub, 1) := by decide +kernel
theorem d_Txt_takeOut_62 : decode (mb M_Txt_takeOut) 62 = .ok (.putfield 19, 3) := by decide +kernel
theorem d_Txt_takeOut_65 : decode (mb M_Txt_takeOut) 65 = .ok (.return_, 1) := by decide +kernel
theorem d_Trm_closeTo_0 : decode (mb M_Trm_closeTo) 0 = .ok (.aload_n 0, 1) := by decide +kernel
theorem d_Trm_closeTo_1 : decode (mb M_Trm_closeTo) 1 = .ok (.getfield 42, 3) := by decide +kernel
theorem d_Trm_closeTo_4 : decode (mb M_Trm_closeTo) 4 = .ok (.ifCond .le 82, 3) := by decide +kernel
theorem d_Trm_closeTo_7 : decode (mb M_Trm_closeTo) 7 = .ok (.aload_n 0, 1) := by decide +kernel
theorem d_Trm_closeTo_8 : decode (mb M_Trm_closeTo) 8 = .ok (.getfield 33, 3) := by decide +kernel
theorem d_Trm_closeTo_11 : decode (mb M_Trm_closeTo) 11 = .ok (.aload_n 0, 1) := by decide +kernel
theorem d_Trm_closeTo_12 : decode (mb M_Trm_closeTo) 12 = .ok (.getfield 42, 3) := by decide +kernel
theorem d_Trm_closeTo_15 : decode (mb M_Trm_closeTo) 15 = .ok (.iconst 1, 1) := by decide +kernel
theorem d_Trm_closeTo_16 : decode (mb M_Trm_closeTo) 16 = .ok (.isub, 1) := by decide +kernel
theorem d_Trm_closeTo_17 : decode (mb M_Trm_closeTo) 17 = .ok (.iaload, 1) := by decide +kernel
theorem d_Trm_closeTo_18 : decode (mb M_Trm_closeTo) 18 = .ok (.iload_n 1, 1) := by decide +kernel
theorem d_Trm_closeTo_19 : decode (mb M_Trm_closeTo) 19 = .ok (.if_icmp .lt 67, 3) := by decide +kernel
theorem d_Trm_closeTo_22 : decode (mb M_Trm_closeTo) 22 = .ok (.aload_n 0, 1) := by decide +kernel
theorem d_Trm_closeTo_23 : decode (mb M_Trm_closeTo) 23 = .ok (.getfield 46, 3) := by decide +kernel
theorem d_Trm_closeTo_26 : decode (mb M_Trm_closeTo) 26 = .ok (.iconst 1, 1) := by decide +kernel
theorem d_Trm_closeTo_27 : decode (mb M_Trm_closeTo) 27 = .ok (.iadd, 1) := by decide +kernel
theorem d_Trm_closeTo_28 : decode (mb M_Trm_closeTo) 28 = .ok (.bipush 22, 2) := by decide +kernel
theorem d_Trm_closeTo_30 : decode (mb M_Trm_closeTo) 30 = .ok (.if_icmp .ge 56, 3) := by decide +kernel
theorem d_Trm_closeTo_33 : decode (mb M_Trm_closeTo) 33 = .ok (.aload_n 0, 1) := by decide +kernel
theorem d_Trm_closeTo_34 : decode (mb M_Trm_closeTo) 34 = .ok (.dup, 1) := by decide +kernel
theorem d_Trm_closeTo_35 : decode (mb M_Trm_closeTo) 35 = .ok (.getfield 42, 3) := by decide +kernel
theorem d_Trm_closeTo_38 : decode (mb M_Trm_closeTo) 38 = .ok (.iconst 1, 1) := by decide +kernel
theorem d_Trm_closeTo_39 : decode (mb M_Trm_closeTo) 39 = .ok (.isub, 1) := by decide +kernel
theorem d_Trm_closeTo_40 : decode (mb M_Trm_closeTo) 40 = .ok (.putfield 42, 3) := by decide +kernel
theorem d_Trm_closeTo_43 : decode (mb M_Trm_closeTo) 43 = .ok (.aload_n 0, 1) := by decide +kernel
theorem d_Trm_closeTo_44 : decode (mb M_Trm_closeTo) 44 = .ok (.dup, 1) := by decide +kernel
theorem d_Trm_closeTo_45 : decode (mb M_Trm_closeTo) 45 = .ok (.getfield 46, 3) := by decide +kernel
theorem d_Trm_closeTo_48 : decode (mb M_Trm_closeTo) 48 = .ok (.iconst 1, 1) := by decide +kernel
theorem d_Trm_closeTo_49 : decode (mb M_Trm_closeTo) 49 = .ok (.iadd, 1) := by decide +kernel
theorem d_Trm_closeTo_50 : decode (mb M_Trm_closeTo) 50 = .ok (.putfield 46, 3) := by decide +kernel
theorem d_Trm_closeTo_53 : decode (mb M_Trm_closeTo) 53 = .ok (.aload_n 2, 1) := by decide +kernel
theorem d_Trm_closeTo_54 : decode (mb M_Trm_closeTo) 54 = .ok (.aload_n 0, 1) := by decide +kernel
theorem d_Trm_closeTo_55 : decode (mb M_Trm_closeTo) 55 = .ok (.getfield 46, 3) := by decide +kernel
theorem d_Trm_closeTo_58 : decode (mb M_Trm_closeTo) 58 = .ok (.aload_n 0, 1) := by decide +kernel
theorem d_Trm_closeTo_59 : decode (mb M_Trm_closeTo) 59 = .ok (.getfield 36, 3) := by decide +kernel
theorem d_Trm_closeTo_62 : decode (mb M_Trm_closeTo) 62 = .ok (.aload_n 0, 1) := by decide +kernel
theorem d_Trm_closeTo_63 : decode (mb M_Trm_closeTo) 63 = .ok (.getfield 42, 3) := by decide +kernel
theorem d_Trm_closeTo_66 : decode (mb M_Trm_closeTo) 66 = .ok (.laload, 1) := by decide +kernel
theorem d_Trm_closeTo_67 : decode (mb M_Trm_closeTo) 67 = .ok (.lastore, 1) := by decide +kernel
theorem d_Trm_closeTo_68 : decode (mb M_Trm_closeTo) 68 = .ok (.aload_n 3, 1) := by decide +kernel
theorem d_Trm_closeTo_69 : decode (mb M_Trm_closeTo) 69 = .ok (.aload_n 0, 1) := by decide +kernel
theorem d_Trm_closeTo_70 : decode (mb M_Trm_closeTo) 70 = .ok (.getfield 46, 3) := by decide +kernel
theorem d_Trm_closeTo_73 : decode (mb M_Trm_closeTo) 73 = .ok (.aload_n 0, 1) := by decide +kernel
theorem d_Trm_closeTo_74 : decode (mb M_Trm_closeTo) 74 = .ok (.getfield 39, 3) := by decide +kernel
theorem d_Trm_closeTo_77 : decode (mb M_Trm_closeTo) 77 = .ok (.aload_n 0, 1) := by decide +kernel
theorem d_Trm_closeTo_78 : decode (mb M_Trm_closeTo) 78 = .ok (.getfield 42, 3) := by decide +kernel
theorem d_Trm_closeTo_81 : decode (mb M_Trm_closeTo) 81 = .ok (.iaload, 1) := by decide +kernel
theorem d_Trm_closeTo_82 : decode (mb M_Trm_closeTo) 82 = .ok (.iastore, 1) := by decide +kernel
theorem d_Trm_closeTo_83 : decode (mb M_Trm_closeTo) 83 = .ok (.goto (-83), 3) := by decide +kernel
theorem d_Trm_closeTo_86 : decode (mb M_Trm_closeTo) 86 = .ok (.return_, 1) := by decide +kernel
theorem d_Trm_costOf_0 : decode (mb M_Trm_costOf) 0 = .ok (.aload_n 0, 1) := by decide +kernel
theorem d_Trm_costOf_1 : decode (mb M_Trm_costOf) 1 = .ok (.aload_n 1, 1) := by decide +kernel
theorem d_Trm_costOf_2 : decode (mb M_Trm_costOf) 2 = .ok (.aload_n 0, 1) := by decide +kernel
theorem d_Trm_costOf_3 : decode (mb M_Trm_costOf) 3 = .ok (.getfield 11, 3) := by decide +kernel
theorem d_Trm_costOf_6 : decode (mb M_Trm_costOf) 6 = .ok (.aload_n 0, 1) := by decide +kernel
theorem d_Trm_costOf_7 : decode (mb M_Trm_costOf) 7 = .ok (.getfield 18, 3) := by decide +kernel
theorem d_Trm_costOf_10 : decode (mb M_Trm_costOf) 10 = .ok (.invokevirtual 49, 3) := by decide +kernel
theorem d_Trm_costOf_13 : decode (mb M_Trm_costOf) 13 = .ok (.istore_n 3, 1) := by decide +kernel
theorem d_Trm_costOf_14 : decode (mb M_Trm_costOf) 14 = .ok (.aload_n 0, 1) := by decide +kernel
theorem d_Trm_costOf_15 : decode (mb M_Trm_costOf) 15 = .ok (.aload_n 2, 1) := by decide +kernel
theorem d_Trm_costOf_16 : decode (mb M_Trm_costOf) 16 = .ok (.aload_n 0, 1) := by decide +kernel
theorem d_Trm_costOf_17 : decode (mb M_Trm_costOf) 17 = .ok (.getfield 15, 3) := by decide +kernel
theorem d_Trm_costOf_20 : decode (mb M_Trm_costOf) 20 = .ok (.aload_n 0, 1) := by decide +kernel
theorem d_Trm_costOf_21 : decode (mb M_Trm_costOf) 21 = .ok (.getfield 22, 3) := by decide +kernel
theorem d_Trm_costOf_24 : decode (mb M_Trm_costOf) 24 = .ok (.invokevirtual 49, 3) := by decide +kernel
theorem d_Trm_costOf_27 : decode (mb M_Trm_costOf) 27 = .ok (.istore 4, 2) := by decide +kernel
theorem d_Trm_costOf_29 : decode (mb M_Trm_costOf) 29 = .ok (.iconst 1, 1) := by decide +kernel
theorem d_Trm_costOf_30 : decode (mb M_Trm_costOf) 30 = .ok (.istore 5, 2) := by decide +kernel
theorem d_Trm_costOf_32 : decode (mb M_Trm_costOf) 32 = .ok (.iload 5, 2) := by decide +kernel
theorem d_Trm_costOf_34 : decode (mb M_Trm_costOf) 34 = .ok (.iload_n 3, 1) := by decide +kernel
theorem d_Trm_costOf_35 : decode (mb M_Trm_costOf) 35 = .ok (.if_icmp .gt 60, 3) := by decide +kernel
theorem d_Trm_costOf_38 : decode (mb M_Trm_costOf) 38 = .ok (.iconst 1, 1) := by decide +kernel
theorem d_Trm_costOf_39 : decode (mb M_Trm_costOf) 39 = .ok (.istore 6, 2) := by decide +kernel
theorem d_Trm_costOf_41 : decode (mb M_Trm_costOf) 41 = .ok (.iload 6, 2) := by decide +kernel
theorem d_Trm_costOf_43 : decode (mb M_Trm_costOf) 43 = .ok (.iload 4, 2) := by decide +kernel
theorem d_Trm_costOf_45 : decode (mb M_Trm_costOf) 45 = .ok (.if_icmp .gt 44, 3) := by decide +kernel
theorem d_Trm_costOf_48 : decode (mb M_Trm_costOf) 48 = .ok (.aload_n 0, 1) := by decide +kernel
theorem d_Trm_costOf_49 : decode (mb M_Trm_costOf) 49 = .ok (.getfield 18, 3) := by decide +kernel
theorem d_Trm_costOf_52 : decode (mb M_Trm_costOf) 52 = .ok (.iload 5, 2) := by decide +kernel
theorem d_Trm_costOf_54 : decode (mb M_Trm_costOf) 54 = .ok (.iload_n 3, 1) := by decide +kernel
theorem d_Trm_costOf_55 : decode (mb M_Trm_costOf) 55 = .ok (.invokestatic 53, 3) := by decide +kernel
theorem d_Trm_costOf_58 : decode (mb M_Trm_costOf) 58 = .ok (.ifCond .eq 25, 3) := by decide +kernel
theorem d_Trm_costOf_61 : decode (mb M_Trm_costOf) 61 = .ok (.aload_n 0, 1) := by decide +kernel
theorem d_Trm_costOf_62 : decode (mb M_Trm_costOf) 62 = .ok (.getfield 22, 3) := by decide +kernel
theorem d_Trm_costOf_65 : decode (mb M_Trm_costOf) 65 = .ok (.iload 6, 2) := by decide +kernel
theorem d_Trm_costOf_67 : decode (mb M_Trm_costOf) 67 = .ok (.iload 4, 2) := by decide +kernel
theorem d_Trm_costOf_69 : decode (mb M_Trm_costOf) 69 = .ok (.invokestatic 53, 3) := by decide +kernel
theorem d_Trm_costOf_72 : decode (mb M_Trm_costOf) 72 = .ok (.ifCond .eq 11, 3) := by decide +kernel
theorem d_Trm_costOf_75 : decode (mb M_Trm_costOf) 75 = .ok (.aload_n 0, 1) := by decide +kernel
theorem d_Trm_costOf_76 : decode (mb M_Trm_costOf) 76 = .ok (.iload 5, 2) := by decide +kernel
theorem d_Trm_costOf_78 : decode (mb M_Trm_costOf) 78 = .ok (.iload 6, 2) := by decide +kernel
theorem d_Trm_costOf_80 : decode (mb M_Trm_costOf) 80 = .ok (.invokevirtual 57, 3) := by decide +kernel
theorem d_Trm_costOf_83 : decode (mb M_Trm_costOf) 83 = .ok (.iinc 6 1, 3) := by decide +kernel
theorem d_Trm_costOf_86 : decode (mb M_Trm_costOf) 86 = .ok (.goto (-45), 3) := by decide +kernel
theorem d_Trm_costOf_89 : decode (mb M_Trm_costOf) 89 = .ok (.iinc 5 1, 3) := by decide +kernel
theorem d_Trm_costOf_92 : decode (mb M_Trm_costOf) 92 = .ok (.goto (-60), 3) := by decide +kernel
theorem d_Trm_costOf_95 : decode (mb M_Trm_costOf) 95 = .ok (.aload_n 0, 1) := by decide +kernel
theorem d_Trm_costOf_96 : decode (mb M_Trm_costOf) 96 = .ok (.getfield 27, 3) := by decide +kernel
theorem d_Trm_costOf_99 : decode (mb M_Trm_costOf) 99 = .ok (.iload_n 3, 1) := by decide +kernel
theorem d_Trm_costOf_100 : decode (mb M_Trm_costOf) 100 = .ok (.aaload, 1) := by decide +kernel
theorem d_Trm_costOf_101 : decode (mb M_Trm_costOf) 101 = .ok (.iload 4, 2) := by decide +kernel
theorem d_Trm_costOf_103 : decode (mb M_Trm_costOf) 103 = .ok (.iaload, 1) := by decide +kernel
theorem d_Trm_costOf_104 : decode (mb M_Trm_costOf) 104 = .ok (.ireturn, 1) := by decide +kernel
theorem d_Trm_grow_0 : decode (mb M_Trm_grow) 0 = .ok (.aload_n 0, 1) := by decide +kernel
theorem d_Trm_grow_1 : decode (mb M_Trm_grow) 1 = .ok (.iconst 0, 1) := by decide +kernel
theorem d_Trm_grow_2 : decode (mb M_Trm_grow) 2 = .ok (.putfield 42, 3) := by decide +kernel
theorem d_Trm_grow_5 : decode (mb M_Trm_grow) 5 = .ok (.aload_n 0, 1) := by decide +kernel
theorem d_Trm_grow_6 : decode (mb M_Trm_grow) 6 = .ok (.iconst 0, 1) := by decide +kernel
theorem d_Trm_grow_7 : decode (mb M_Trm_grow) 7 = .ok (.putfield 46, 3) := by decide +kernel
theorem d_Trm_grow_10 : decode (mb M_Trm_grow) 10 = .ok (.aload_n 0, 1) := by decide +kernel
theorem d_Trm_grow_11 : decode (mb M_Trm_grow) 11 = .ok (.iconst (-1), 1) := by decide +kernel
theorem d_Trm_grow_12 : decode (mb M_Trm_grow) 12 = .ok (.lconst 0, 1) := by decide +kernel
theorem d_Trm_grow_13 : decode (mb M_Trm_grow) 13 = .ok (.invokevirtual 61, 3) := by decide +kernel
theorem d_Trm_grow_16 : decode (mb M_Trm_grow) 16 = .ok (.aload_n 1, 1) := by decide +kernel
theorem d_Trm_grow_17 : decode (mb M_Trm_grow) 17 = .ok (.invokevirtual 65, 3) := by decide +kernel
theorem d_Trm_grow_20 : decode (mb M_Trm_grow) 20 = .ok (.bipush 20, 2) := by decide +kernel
theorem d_Trm_grow_22 : decode (mb M_Trm_grow) 22 = .ok (.invokestatic 71, 3) := by decide +kernel
theorem d_Trm_grow_25 : decode (mb M_Trm_grow) 25 = .ok (.istore 4, 2) := by decide +kernel
theorem d_Trm_grow_27 : decode (mb M_Trm_grow) 27 = .ok (.iconst 0, 1) := by decide +kernel
theorem d_Trm_grow_28 : decode (mb M_Trm_grow) 28 = .ok (.istore 5, 2) := by decide +kernel
theorem d_Trm_grow_30 : decode (mb M_Trm_grow) 30 = .ok (.iload 5, 2) := by decide +kernel
theorem d_Trm_grow_32 : decode (mb M_Trm_grow) 32 = .ok (.iload 4, 2) := by decide +kernel
theorem d_Trm_grow_34 : decode (mb M_Trm_grow) 34 = .ok (.if_icmp .ge 46, 3) := by decide +kernel
theorem d_Trm_grow_37 : decode (mb M_Trm_grow) 37 = .ok (.aload_n 1, 1) := by decide +kernel
theorem d_Trm_grow_38 : decode (mb M_Trm_grow) 38 = .ok (.iload 5, 2) := by decide +kernel
theorem d_Trm_grow_40 : decode (mb M_Trm_grow) 40 = .ok (.invokevirtual 77, 3) := by decide +kernel
theorem d_Trm_grow_43 : decode (mb M_Trm_grow) 43 = .ok (.lstore 6, 2) := by decide +kernel
theorem d_Trm_grow_45 : decode (mb M_Trm_grow) 45 = .ok (.lload 6, 2) := by decide +kernel
theorem d_Trm_grow_47 : decode (mb M_Trm_grow) 47 = .ok (.invokestatic 81, 3) := by decide +kernel
theorem d_Trm_grow_50 : decode (mb M_Trm_grow) 50 = .ok (.istore 8, 2) := by decide +kernel
theorem d_Trm_grow_52 : decode (mb M_Trm_grow) 52 = .ok (.aload_n 0, 1) := by decide +kernel
theorem d_Trm_grow_53 : decode (mb M_Trm_grow) 53 = .ok (.iload 8, 2) := by decide +kernel
theorem d_Trm_grow_55 : decode (mb M_Trm_grow) 55 = .ok (.aload_n 2, 1) := by decide +kernel
theorem d_Trm_grow_56 : decode (mb M_Trm_grow) 56 = .ok (.aload_n 3, 1) := by decide +kernel
theorem d_Trm_grow_57 : decode (mb M_Trm_grow) 57 = .ok (.invokevirtual 87, 3) := by decide +kernel
theorem d_Trm_grow_60 : decode (mb M_Trm_grow) 60 = .ok (.aload_n 0, 1) := by decide +kernel
theorem d_Trm_grow_61 : decode (mb M_Trm_grow) 61 = .ok (.iload 8, 2) := by decide +kernel
theorem d_Trm_grow_63 : decode (mb M_Trm_grow) 63 = .ok (.lload 6, 2) := by decide +kernel
theorem d_Trm_grow_65 : decode (mb M_Trm_grow) 65 = .ok (.bipush 8, 2) := by decide +kernel
theorem d_Trm_grow_67 : decode (mb M_Trm_grow) 67 = .ok (.iload 8, 2) := by decide +kernel
theorem d_Trm_grow_69 : decode (mb M_Trm_grow) 69 = .ok (.imul, 1) := by decide +kernel
theorem d_Trm_grow_70 : decode (mb M_Trm_grow) 70 = .ok (.lushr, 1) := by decide +kernel
theorem d_Trm_grow_71 : decode (mb M_Trm_grow) 71 = .ok (.invokevirtual 61, 3) := by decide +kernel
theorem d_Trm_grow_74 : decode (mb M_Trm_grow) 74 = .ok (.iinc 5 1, 3) := by decide +kernel
theorem d_Trm_grow_77 : decode (mb M_Trm_grow) 77 = .ok (.goto (-47), 3) := by decide +kernel
theorem d_Trm_grow_80 : decode (mb M_Trm_grow) 80 = .ok (.aload_n 0, 1) := by decide +kernel
theorem d_Trm_grow_81 : decode (mb M_Trm_grow) 81 = .ok (.iconst (-1), 1) := by decide +kernel
theorem d_Trm_grow_82 : decode (mb M_Trm_grow) 82 = .ok (.aload_n 2, 1) := by decide +kernel
theorem d_Trm_grow_83 : decode (mb M_Trm_grow) 83 = .ok (.aload_n 3, 1) := by decide +kernel
theorem d_Trm_grow_84 : decode (mb M_Trm_grow) 84 = .ok (.invokevirtual 87, 3) := by decide +kernel
theorem d_Trm_grow_87 : decode (mb M_Trm_grow) 87 = .ok (.aload_n 0, 1) := by decide +kernel
theorem d_Trm_grow_88 : decode (mb M_Trm_grow) 88 = .ok (.getfield 46, 3) := by decide +kernel
theorem d_Trm_grow_91 : decode (mb M_Trm_grow) 91 = .ok (.ireturn, 1) := by decide +kernel
theorem d_Trm_init_0 : decode (mb M_Trm_init) 0 = .ok (.aload_n 0, 1) := by decide +kernel
theorem d_Trm_init_1 : decode (mb M_Trm_init) 1 = .ok (.invokespecial 3, 3) := by decide +kernel
theorem d_Trm_init_4 : decode (mb M_Trm_init) 4 = .ok (.aload_n 0, 1) := by decide +kernel
theorem d_Trm_init_5 : decode (mb M_Trm_init) 5 = .ok (.bipush 22, 2) := by decide +kernel
theorem d_Trm_init_7 : decode (mb M_Trm_init) 7 = .ok (.newarray .long, 2) := by decide +kernel
theorem d_Trm_init_9 : decode (mb M_Trm_init) 9 = .ok (.putfield 11, 3) := by decide +kernel
theorem d_Trm_init_12 : decode (mb M_Trm_init) 12 = .ok (.aload_n 0, 1) := by decide +kernel
theorem d_Trm_init_13 : decode (mb M_Trm_init) 13 = .ok (.bipush 22, 2) := by decide +kernel
theorem d_Trm_init_15 : decode (mb M_Trm_init) 15 = .ok (.newarray .long, 2) := by decide +kernel
theorem d_Trm_init_17 : decode (mb M_Trm_init) 17 = .ok (.putfield 15, 3) := by decide +kernel
theorem d_Trm_init_20 : decode (mb M_Trm_init) 20 = .ok (.aload_n 0, 1) := by decide +kernel
theorem d_Trm_init_21 : decode (mb M_Trm_init) 21 = .ok (.bipush 22, 2) := by decide +kernel
theorem d_Trm_init_23 : decode (mb M_Trm_init) 23 = .ok (.newarray .int, 2) := by decide +kernel
theorem d_Trm_init_25 : decode (mb M_Trm_init) 25 = .ok (.putfield 18, 3) := by decide +kernel
theorem d_Trm_init_28 : decode (mb M_Trm_init) 28 = .ok (.aload_n 0, 1) := by decide +kernel
theorem d_Trm_init_29 : decode (mb M_Trm_init) 29 = .ok (.bipush 22, 2) := by decide +kernel
theorem d_Trm_init_31 : decode (mb M_Trm_init) 31 = .ok (.newarray .int, 2) := by decide +kernel
theorem d_Trm_init_33 : decode (mb M_Trm_init) 33 = .ok (.putfield 22, 3) := by decide +kernel
theorem d_Trm_init_36 : decode (mb M_Trm_init) 36 = .ok (.aload_n 0, 1) := by decide +kernel
theorem d_Trm_init_37 : decode (mb M_Trm_init) 37 = .ok (.bipush 22, 2) := by decide +kernel
theorem d_Trm_init_39 : decode (mb M_Trm_init) 39 = .ok (.bipush 22, 2) := by decide +kernel
theorem d_Trm_init_41 : decode (mb M_Trm_init) 41 = .ok (.multianewarray 25 2, 4) := by decide +kernel
theorem d_Trm_init_45 : decode (mb M_Trm_init) 45 = .ok (.putfield 27, 3) := by decide +kernel
theorem d_Trm_init_48 : decode (mb M_Trm_init) 48 = .ok (.aload_n 0, 1) := by decide +kernel
theorem d_Trm_init_49 : decode (mb M_Trm_init) 49 = .ok (.bipush 22, 2) := by decide +kernel
theorem d_Trm_init_51 : decode (mb M_Trm_init) 51 = .ok (.bipush 22, 2) := by decide +kernel
theorem d_Trm_init_53 : decode (mb M_Trm_init) 53 = .ok (.multianewarray 25 2, 4) := by decide +kernel
theorem d_Trm_init_57 : decode (mb M_Trm_init) 57 = .ok (.putfield 30, 3) := by decide +kernel
theorem d_Trm_init_60 : decode (mb M_Trm_init) 60 = .ok (.aload_n 0, 1) := by decide +kernel
theorem d_Trm_init_61 : decode (mb M_Trm_init) 61 = .ok (.bipush 22, 2) := by decide +kernel
theorem d_Trm_init_63 : decode (mb M_Trm_init) 63 = .ok (.newarray .int, 2) := by decide +kernel
theorem d_Trm_init_65 : decode (mb M_Trm_init) 65 = .ok (.putfield 33, 3) := by decide +kernel
theorem d_Trm_init_68 : decode (mb M_Trm_init) 68 = .ok (.aload_n 0, 1) := by decide +kernel
theorem d_Trm_init_69 : decode (mb M_Trm_init) 69 = .ok (.bipush 22, 2) := by decide +kernel
theorem d_Trm_init_71 : decode (mb M_Trm_init) 71 = .ok (.newarray .long, 2) := by decide +kernel
theorem d_Trm_init_73 : decode (mb M_Trm_init) 73 = .ok (.putfield 36, 3) := by decide +kernel
theorem d_Trm_init_76 : decode (mb M_Trm_init) 76 = .ok (.aload_n 0, 1) := by decide +kernel
theorem d_Trm_init_77 : decode (mb M_Trm_init) 77 = .ok (.bipush 22, 2) := by decide +kernel
theorem d_Trm_init_79 : decode (mb M_Trm_init) 79 = .ok (.newarray .int, 2) := by decide +kernel
theorem d_Trm_init_81 : decode (mb M_Trm_init) 81 = .ok (.putfield 39, 3) := by decide +kernel
theorem d_Trm_init_84 : decode (mb M_Trm_init) 84 = .ok (.aload_n 0, 1) := by decide +kernel
theorem d_Trm_init_85 : decode (mb M_Trm_init) 85 = .ok (.iconst 0, 1) := by decide +kernel
theorem d_Trm_init_86 : decode (mb M_Trm_init) 86 = .ok (.putfield 42, 3) := by decide +kernel
theorem d_Trm_init_89 : decode (mb M_Trm_init) 89 = .ok (.aload_n 0, 1) := by decide +kernel
theorem d_Trm_init_90 : decode (mb M_Trm_init) 90 = .ok (.iconst 0, 1) := by decide +kernel
theorem d_Trm_init_91 : decode (mb M_Trm_init) 91 = .ok (.putfield 46, 3) := by decide +kernel
theorem d_Trm_init_94 : decode (mb M_Trm_init) 94 = .ok (.return_, 1) := by decide +kernel
theorem d_Trm_isLastOf_0 : decode (mb M_Trm_isLastOf) 0 = .ok (.iload_n 1, 1) := by decide +kernel
theorem d_Trm_isLastOf_1 : decode (mb M_Trm_isLastOf) 1 = .ok (.iconst 1, 1) := by decide +kernel
theorem d_Trm_isLastOf_2 : decode (mb M_Trm_isLastOf) 2 = .ok (.iadd, 1) := by decide +kernel
theorem d_Trm_isLastOf_3 : decode (mb M_Trm_isLastOf) 3 = .ok (.istore_n 3, 1) := by decide +kernel
theorem d_Trm_isLastOf_4 : decode (mb M_Trm_isLastOf) 4 = .ok (.iload_n 3, 1) := by decide +kernel
theorem d_Trm_isLastOf_5 : decode (mb M_Trm_isLastOf) 5 = .ok (.iload_n 2, 1) := by decide +kernel
theorem d_Trm_isLastOf_6 : decode (mb M_Trm_isLastOf) 6 = .ok (.if_icmp .gt 20, 3) := by decide +kernel
theorem d_Trm_isLastOf_9 : decode (mb M_Trm_isLastOf) 9 = .ok (.aload_n 0, 1) := by decide +kernel
theorem d_Trm_isLastOf_10 : decode (mb M_Trm_isLastOf) 10 = .ok (.iload_n 3, 1) := by decide +kernel
theorem d_Trm_isLastOf_11 : decode (mb M_Trm_isLastOf) 11 = .ok (.iaload, 1) := by decide +kernel
theorem d_Trm_isLastOf_12 : decode (mb M_Trm_isLastOf) 12 = .ok (.aload_n 0, 1) := by decide +kernel
theorem d_Trm_isLastOf_13 : decode (mb M_Trm_isLastOf) 13 = .ok (.iload_n 1, 1) := by decide +kernel
theorem d_Trm_isLastOf_14 : decode (mb M_Trm_isLastOf) 14 = .ok (.iaload, 1) := by decide +kernel
theorem d_Trm_isLastOf_15 : decode (mb M_Trm_isLastOf) 15 = .ok (.if_icmp .ne 5, 3) := by decide +kernel
theorem d_Trm_isLastOf_18 : decode (mb M_Trm_isLastOf) 18 = .ok (.iconst 0, 1) := by decide +kernel
theorem d_Trm_isLastOf_19 : decode (mb M_Trm_isLastOf) 19 = .ok (.ireturn, 1) := by decide +kernel
theorem d_Trm_isLastOf_20 : decode (mb M_Trm_isLastOf) 20 = .ok (.iinc 3 1, 3) := by decide +kernel
theorem d_Trm_isLastOf_23 : decode (mb M_Trm_isLastOf) 23 = .ok (.goto (-19), 3) := by decide +kernel
theorem d_Trm_isLastOf_26 : decode (mb M_Trm_isLastOf) 26 = .ok (.iconst 1, 1) := by decide +kernel
theorem d_Trm_isLastOf_27 : decode (mb M_Trm_isLastOf) 27 = .ok (.ireturn, 1) := by decide +kernel
theorem d_Trm_leastCost_0 : decode (mb M_Trm_leastCost) 0 = .ok (.aload_n 0, 1) := by decide +kernel
theorem d_Trm_leastCost_1 : decode (mb M_Trm_leastCost) 1 = .ok (.getfield 30, 3) := by decide +kernel
theorem d_Trm_leastCost_4 : decode (mb M_Trm_leastCost) 4 = .ok (.iload_n 1, 1) := by decide +kernel
theorem d_Trm_leastCost_5 : decode (mb M_Trm_leastCost) 5 = .ok (.iconst 1, 1) := by decide +kernel
theorem d_Trm_leastCost_6 : decode (mb M_Trm_leastCost) 6 = .ok (.isub, 1) := by decide +kernel
theorem d_Trm_leastCost_7 : decode (mb M_Trm_leastCost) 7 = .ok (.aaload, 1) := by decide +kernel
theorem d_Trm_leastCost_8 : decode (mb M_Trm_leastCost) 8 = .ok (.iload_n 2, 1) := by decide +kernel
theorem d_Trm_leastCost_9 : decode (mb M_Trm_leastCost) 9 = .ok (.iaload, 1) := by decide +kernel
theorem d_Trm_leastCost_10 : decode (mb M_Trm_leastCost) 10 = .ok (.aload_n 0, 1) := by decide +kernel
theorem d_Trm_leastCost_11 : decode (mb M_Trm_leastCost) 11 = .ok (.getfield 30, 3) := by decide +kernel
theorem d_Trm_leastCost_14 : decode (mb M_Trm_leastCost) 14 = .ok (.iload_n 1, 1) := by decide +kernel
theorem d_Trm_leastCost_15 : decode (mb M_Trm_leastCost) 15 = .ok (.aaload, 1) := by decide +kernel
theorem d_Trm_leastCost_16 : decode (mb M_Trm_leastCost) 16 = .ok (.iload_n 2, 1) := by decide +kernel
theorem d_Trm_leastCost_17 : decode (mb M_Trm_leastCost) 17 = .ok (.iconst 1, 1) := by decide +kernel
theorem d_Trm_leastCost_18 : decode (mb M_Trm_leastCost) 18 = .ok (.isub, 1) := by decide +kernel
theorem d_Trm_leastCost_19 : decode (mb M_Trm_leastCost) 19 = .ok (.iaload, 1) := by decide +kernel
theorem d_Trm_leastCost_20 : decode (mb M_Trm_leastCost) 20 = .ok (.invokestatic 71, 3) := by decide +kernel
theorem d_Trm_leastCost_23 : decode (mb M_Trm_leastCost) 23 = .ok (.iconst 1, 1) := by decide +kernel
theorem d_Trm_leastCost_24 : decode (mb M_Trm_leastCost) 24 = .ok (.iadd, 1) := by decide +kernel
theorem d_Trm_leastCost_25 : decode (mb M_Trm_leastCost) 25 = .ok (.istore 5, 2) := by decide +kernel
theorem d_Trm_leastCost_27 : decode (mb M_Trm_leastCost) 27 = .ok (.aload_n 0, 1) := by decide +kernel
theorem d_Trm_leastCost_28 : decode (mb M_Trm_leastCost) 28 = .ok (.getfield 18, 3) := by decide +kernel
theorem d_Trm_leastCost_31 : decode (mb M_Trm_leastCost) 31 = .ok (.iload_n 1, 1) := by decide +kernel
theorem d_Trm_leastCost_32 : decode (mb M_Trm_leastCost) 32 = .ok (.iaload, 1) := by decide +kernel
theorem d_Trm_leastCost_33 : decode (mb M_Trm_leastCost) 33 = .ok (.iload_n 3, 1) := by decide +kernel
theorem d_Trm_leastCost_34 : decode (mb M_Trm_leastCost) 34 = .ok (.if_icmp .ne 74, 3) := by decide +kernel
theorem d_Trm_leastCost_37 : decode (mb M_Trm_leastCost) 37 = .ok (.aload_n 0, 1) := by decide +kernel
theorem d_Trm_leastCost_38 : decode (mb M_Trm_leastCost) 38 = .ok (.getfield 22, 3) := by decide +kernel
theorem d_Trm_leastCost_41 : decode (mb M_Trm_leastCost) 41 = .ok (.iload_n 2, 1) := by decide +kernel
theorem d_Trm_leastCost_42 : decode (mb M_Trm_leastCost) 42 = .ok (.iaload, 1) := by decide +kernel
theorem d_Trm_leastCost_43 : decode (mb M_Trm_leastCost) 43 = .ok (.iload 4, 2) := by decide +kernel
theorem d_Trm_leastCost_45 : decode (mb M_Trm_leastCost) 45 = .ok (.if_icmp .ne 63, 3) := by decide +kernel
theorem d_Trm_leastCost_48 : decode (mb M_Trm_leastCost) 48 = .ok (.aload_n 0, 1) := by decide +kernel
theorem d_Trm_leastCost_49 : decode (mb M_Trm_leastCost) 49 = .ok (.getfield 11, 3) := by decide +kernel
theorem d_Trm_leastCost_52 : decode (mb M_Trm_leastCost) 52 = .ok (.iload_n 1, 1) := by decide +kernel
theorem d_Trm_leastCost_53 : decode (mb M_Trm_leastCost) 53 = .ok (.laload, 1) := by decide +kernel
theorem d_Trm_leastCost_54 : decode (mb M_Trm_leastCost) 54 = .ok (.aload_n 0, 1) := by decide +kernel
theorem d_Trm_leastCost_55 : decode (mb M_Trm_leastCost) 55 = .ok (.getfield 15, 3) := by decide +kernel
theorem d_Trm_leastCost_58 : decode (mb M_Trm_leastCost) 58 = .ok (.iload_n 2, 1) := by decide +kernel
theorem d_Trm_leastCost_59 : decode (mb M_Trm_leastCost) 59 = .ok (.laload, 1) := by decide +kernel
theorem d_Trm_leastCost_60 : decode (mb M_Trm_leastCost) 60 = .ok (.lcmp, 1) := by decide +kernel
theorem d_Trm_leastCost_61 : decode (mb M_Trm_leastCost) 61 = .ok (.ifCond .ne 7, 3) := by decide +kernel
theorem d_Trm_leastCost_64 : decode (mb M_Trm_leastCost) 64 = .ok (.iconst 0, 1) := by decide +kernel
theorem d_Trm_leastCost_65 : decode (mb M_Trm_leastCost) 65 = .ok (.goto 4, 3) := by decide +kernel
theorem d_Trm_leastCost_68 : decode (mb M_Trm_leastCost) 68 = .ok (.iconst 1, 1) := by decide +kernel
theorem d_Trm_leastCost_69 : decode (mb M_Trm_leastCost) 69 = .ok (.istore 6, 2) := by decide +kernel
theorem d_Trm_leastCost_71 : decode (mb M_Trm_leastCost) 71 = .ok (.aload_n 0, 1) := by decide +kernel
theorem d_Trm_leastCost_72 : decode (mb M_Trm_leastCost) 72 = .ok (.getfield 27, 3) := by decide +kernel
theorem d_Trm_leastCost_75 : decode (mb M_Trm_leastCost) 75 = .ok (.iload_n 1, 1) := by decide +kernel
theorem d_Trm_leastCost_76 : decode (mb M_Trm_leastCost) 76 = .ok (.aaload, 1) := by decide +kernel
theorem d_Trm_leastCost_77 : decode (mb M_Trm_leastCost) 77 = .ok (.iload_n 2, 1) := by decide +kernel
theorem d_Trm_leastCost_78 : decode (mb M_Trm_leastCost) 78 = .ok (.iload 5, 2) := by decide +kernel
theorem d_Trm_leastCost_80 : decode (mb M_Trm_leastCost) 80 = .ok (.aload_n 0, 1) := by decide +kernel
theorem d_Trm_leastCost_81 : decode (mb M_Trm_leastCost) 81 = .ok (.getfield 30, 3) := by decide +kernel
theorem d_Trm_leastCost_84 : decode (mb M_Trm_leastCost) 84 = .ok (.iload_n 1, 1) := by decide +kernel
theorem d_Trm_leastCost_85 : decode (mb M_Trm_leastCost) 85 = .ok (.iconst 1, 1) := by decide +kernel
theorem d_Trm_leastCost_86 : decode (mb M_Trm_leastCost) 86 = .ok (.isub, 1) := by decide +kernel
theorem d_Trm_leastCost_87 : decode (mb M_Trm_leastCost) 87 = .ok (.aaload, 1) := by decide +kernel
theorem d_Trm_leastCost_88 : decode (mb M_Trm_leastCost) 88 = .ok (.iload_n 2, 1) := by decide +kernel
theorem d_Trm_leastCost_89 : decode (mb M_Trm_leastCost) 89 = .ok (.iconst 1, 1) := by decide +kernel
theorem d_Trm_leastCost_90 : decode (mb M_Trm_leastCost) 90 = .ok (.isub, 1) := by decide +kernel
theorem d_Trm_leastCost_91 : decode (mb M_Trm_leastCost) 91 = .ok (.iaload, 1) := by decide +kernel
theorem d_Trm_leastCost_92 : decode (mb M_Trm_leastCost) 92 = .ok (.iload 6, 2) := by decide +kernel
theorem d_Trm_leastCost_94 : decode (mb M_Trm_leastCost) 94 = .ok (.iadd, 1) := by decide +kernel
theorem d_Trm_leastCost_95 : decode (mb M_Trm_leastCost) 95 = .ok (.invokestatic 71, 3) := by decide +kernel
theorem d_Trm_leastCost_98 : decode (mb M_Trm_leastCost) 98 = .ok (.iastore, 1) := by decide +kernel
theorem d_Trm_leastCost_99 : decode (mb M_Trm_leastCost) 99 = .ok (.aload_n 0, 1) := by decide +kernel
theorem d_Trm_leastCost_100 : decode (mb M_Trm_leastCost) 100 = .ok (.getfield 27, 3) := by decide +kernel
theorem d_Trm_leastCost_103 : decode (mb M_Trm_leastCost) 103 = .ok (.iload_n 1, 1) := by decide +kernel
theorem d_Trm_leastCost_104 : decode (mb M_Trm_leastCost) 104 = .ok (.aaload, 1) := by decide +kernel
theorem d_Trm_leastCost_105 : decode (mb M_Trm_leastCost) 105 = .ok (.iload_n 2, 1) := by decide +kernel
theorem d_Trm_leastCost_106 : decode (mb M_Trm_leastCost) 106 = .ok (.iaload, 1) := by decide +kernel
theorem d_Trm_leastCost_107 : decode (mb M_Trm_leastCost) 107 = .ok (.ireturn, 1) := by decide +kernel
theorem d_Trm_leastCost_108 : decode (mb M_Trm_leastCost) 108 = .ok (.iload 5, 2) := by decide +kernel
theorem d_Trm_leastCost_110 : decode (mb M_Trm_leastCost) 110 = .ok (.aload_n 0, 1) := by decide +kernel
theorem d_Trm_leastCost_111 : decode (mb M_Trm_leastCost) 111 = .ok (.getfield 30, 3) := by decide +kernel
theorem d_Trm_leastCost_114 : decode (mb M_Trm_leastCost) 114 = .ok (.aload_n 0, 1) := by decide +kernel
theorem d_Trm_leastCost_115 : decode (mb M_Trm_leastCost) 115 = .ok (.getfield 18, 3) := by decide +kernel
theorem d_Trm_leastCost_118 : decode (mb M_Trm_leastCost) 118 = .ok (.iload_n 1, 1) := by decide +kernel
theorem d_Trm_leastCost_119 : decode (mb M_Trm_leastCost) 119 = .ok (.iaload, 1) := by decide +kernel
theorem d_Trm_leastCost_120 : decode (mb M_Trm_leastCost) 120 = .ok (.iconst 1, 1) := by decide +kernel
theorem d_Trm_leastCost_121 : decode (mb M_Trm_leastCost) 121 = .ok (.isub, 1) := by decide +kernel
theorem d_Trm_leastCost_122 : decode (mb M_Trm_leastCost) 122 = .ok (.aaload, 1) := by decide +kernel
theorem d_Trm_leastCost_123 : decode (mb M_Trm_leastCost) 123 = .ok (.aload_n 0, 1) := by decide +kernel
theorem d_Trm_leastCost_124 : decode (mb M_Trm_leastCost) 124 = .ok (.getfield 22, 3) := by decide +kernel
theorem d_Trm_leastCost_127 : decode (mb M_Trm_leastCost) 127 = .ok (.iload_n 2, 1) := by decide +kernel
theorem d_Trm_leastCost_128 : decode (mb M_Trm_leastCost) 128 = .ok (.iaload, 1) := by decide +kernel
theorem d_Trm_leastCost_129 : decode (mb M_Trm_leastCost) 129 = .ok (.iconst 1, 1) := by decide +kernel
theorem d_Trm_leastCost_130 : decode (mb M_Trm_leastCost) 130 = .ok (.isub, 1) := by decide +kernel
theorem d_Trm_leastCost_131 : decode (mb M_Trm_leastCost) 131 = .ok (.iaload, 1) := by decide +kernel
theorem d_Trm_leastCost_132 : decode (mb M_Trm_leastCost) 132 = .ok (.aload_n 0, 1) := by decide +kernel
theorem d_Trm_leastCost_133 : decode (mb M_Trm_leastCost) 133 = .ok (.getfield 27, 3) := by decide +kernel
theorem d_Trm_leastCost_136 : decode (mb M_Trm_leastCost) 136 = .ok (.iload_n 1, 1) := by decide +kernel
theorem d_Trm_leastCost_137 : decode (mb M_Trm_leastCost) 137 = .ok (.aaload, 1) := by decide +kernel
theorem d_Trm_leastCost_138 : decode (mb M_Trm_leastCost) 138 = .ok (.iload_n 2, 1) := by decide +kernel
theorem d_Trm_leastCost_139 : decode (mb M_Trm_leastCost) 139 = .ok (.iaload, 1) := by decide +kernel
theorem d_Trm_leastCost_140 : decode (mb M_Trm_leastCost) 140 = .ok (.iadd, 1) := by decide +kernel
theorem d_Trm_leastCost_141 : decode (mb M_Trm_leastCost) 141 = .ok (.invokestatic 71, 3) := by decide +kernel
theorem d_Trm_leastCost_144 : decode (mb M_Trm_leastCost) 144 = .ok (.ireturn, 1) := by decide +kernel
theorem d_Trm_openNode_0 : decode (mb M_Trm_openNode) 0 = .ok (.aload_n 0, 1) := by decide +kernel
theorem d_Trm_openNode_1 : decode (mb M_Trm_openNode) 1 = .ok (.getfield 42, 3) := by decide +kernel
theorem d_Trm_openNode_4 : decode (mb M_Trm_openNode) 4 = .ok (.bipush 22, 2) := by decide +kernel
theorem d_Trm_openNode_6 : decode (mb M_Trm_openNode) 6 = .ok (.if_icmp .ge 48, 3) := by decide +kernel
theorem d_Trm_openNode_9 : decode (mb M_Trm_openNode) 9 = .ok (.aload_n 0, 1) := by decide +kernel
theorem d_Trm_openNode_10 : decode (mb M_Trm_openNode) 10 = .ok (.getfield 33, 3) := by decide +kernel
theorem d_Trm_openNode_13 : decode (mb M_Trm_openNode) 13 = .ok (.aload_n 0, 1) := by decide +kernel
theorem d_Trm_openNode_14 : decode (mb M_Trm_openNode) 14 = .ok (.getfield 42, 3) := by decide +kernel
theorem d_Trm_openNode_17 : decode (mb M_Trm_openNode) 17 = .ok (.iload_n 1, 1) := by decide +kernel
theorem d_Trm_openNode_18 : decode (mb M_Trm_openNode) 18 = .ok (.iastore, 1) := by decide +kernel
theorem d_Trm_openNode_19 : decode (mb M_Trm_openNode) 19 = .ok (.aload_n 0, 1) := by decide +kernel
theorem d_Trm_openNode_20 : decode (mb M_Trm_openNode) 20 = .ok (.getfield 36, 3) := by decide +kernel
theorem d_Trm_openNode_23 : decode (mb M_Trm_openNode) 23 = .ok (.aload_n 0, 1) := by decide +kernel
theorem d_Trm_openNode_24 : decode (mb M_Trm_openNode) 24 = .ok (.getfield 42, 3) := by decide +kernel
theorem d_Trm_openNode_27 : decode (mb M_Trm_openNode) 27 = .ok (.lload_n 2, 1) := by decide +kernel
theorem d_Trm_openNode_28 : decode (mb M_Trm_openNode) 28 = .ok (.lastore, 1) := by decide +kernel
theorem d_Trm_openNode_29 : decode (mb M_Trm_openNode) 29 = .ok (.aload_n 0, 1) := by decide +kernel
theorem d_Trm_openNode_30 : decode (mb M_Trm_openNode) 30 = .ok (.getfield 39, 3) := by decide +kernel
theorem d_Trm_openNode_33 : decode (mb M_Trm_openNode) 33 = .ok (.aload_n 0, 1) := by decide +kernel
theorem d_Trm_openNode_34 : decode (mb M_Trm_openNode) 34 = .ok (.getfield 42, 3) := by decide +kernel
theorem d_Trm_openNode_37 : decode (mb M_Trm_openNode) 37 = .ok (.aload_n 0, 1) := by decide +kernel
theorem d_Trm_openNode_38 : decode (mb M_Trm_openNode) 38 = .ok (.getfield 46, 3) := by decide +kernel
theorem d_Trm_openNode_41 : decode (mb M_Trm_openNode) 41 = .ok (.iconst 1, 1) := by decide +kernel
theorem d_Trm_openNode_42 : decode (mb M_Trm_openNode) 42 = .ok (.iadd, 1) := by decide +kernel
theorem d_Trm_openNode_43 : decode (mb M_Trm_openNode) 43 = .ok (.iastore, 1) := by decide +kernel
theorem d_Trm_openNode_44 : decode (mb M_Trm_openNode) 44 = .ok (.aload_n 0, 1) := by decide +kernel
theorem d_Trm_openNode_45 : decode (mb M_Trm_openNode) 45 = .ok (.dup, 1) := by decide +kernel
theorem d_Trm_openNode_46 : decode (mb M_Trm_openNode) 46 = .ok (.getfield 42, 3) := by decide +kernel
theorem d_Trm_openNode_49 : decode (mb M_Trm_openNode) 49 = .ok (.iconst 1, 1) := by decide +kernel
theorem d_Trm_openNode_50 : decode (mb M_Trm_openNode) 50 = .ok (.iadd, 1) := by decide +kernel
theorem d_Trm_openNode_51 : decode (mb M_Trm_openNode) 51 = .ok (.putfield 42, 3) := by decide +kernel
theorem d_Trm_openNode_54 : decode (mb M_Trm_openNode) 54 = .ok (.return_, 1) := by decide +kernel
theorem d_Trm_weigh_0 : decode (mb M_Trm_weigh) 0 = .ok (.aload_n 0, 1) := by decide +kernel
theorem d_Trm_weigh_1 : decode (mb M_Trm_weigh) 1 = .ok (.getfield 18, 3) := by decide +kernel
theorem d_Trm_weigh_4 : decode (mb M_Trm_weigh) 4 = .ok (.iload_n 1, 1) := by decide +kernel
theorem d_Trm_weigh_5 : decode (mb M_Trm_weigh) 5 = .ok (.iaload, 1) := by decide +kernel
theorem d_Trm_weigh_6 : decode (mb M_Trm_weigh) 6 = .ok (.istore_n 3, 1) := by decide +kernel
theorem d_Trm_weigh_7 : decode (mb M_Trm_weigh) 7 = .ok (.aload_n 0, 1) := by decide +kernel
theorem d_Trm_weigh_8 : decode (mb M_Trm_weigh) 8 = .ok (.getfield 22, 3) := by decide +kernel
theorem d_Trm_weigh_11 : decode (mb M_Trm_weigh) 11 = .ok (.iload_n 2, 1) := by decide +kernel
theorem d_Trm_weigh_12 : decode (mb M_Trm_weigh) 12 = .ok (.iaload, 1) := by decide +kernel
theorem d_Trm_weigh_13 : decode (mb M_Trm_weigh) 13 = .ok (.istore 4, 2) := by decide +kernel
theorem d_Trm_weigh_15 : decode (mb M_Trm_weigh) 15 = .ok (.aload_n 0, 1) := by decide +kernel
theorem d_Trm_weigh_16 : decode (mb M_Trm_weigh) 16 = .ok (.getfield 30, 3) := by decide +kernel
theorem d_Trm_weigh_19 : decode (mb M_Trm_weigh) 19 = .ok (.iload_n 3, 1) := by decide +kernel
theorem d_Trm_weigh_20 : decode (mb M_Trm_weigh) 20 = .ok (.iconst 1, 1) := by decide +kernel
theorem d_Trm_weigh_21 : decode (mb M_Trm_weigh) 21 = .ok (.isub, 1) := by decide +kernel
theorem d_Trm_weigh_22 : decode (mb M_Trm_weigh) 22 = .ok (.aaload, 1) := by decide +kernel
theorem d_Trm_weigh_23 : decode (mb M_Trm_weigh) 23 = .ok (.iload 4, 2) := by decide +kernel
theorem d_Trm_weigh_25 : decode (mb M_Trm_weigh) 25 = .ok (.iconst 1, 1) := by decide +kernel
theorem d_Trm_weigh_26 : decode (mb M_Trm_weigh) 26 = .ok (.isub, 1) := by decide +kernel
theorem d_Trm_weigh_27 : decode (mb M_Trm_weigh) 27 = .ok (.iconst 0, 1) := by decide +kernel
theorem d_Trm_weigh_28 : decode (mb M_Trm_weigh) 28 = .ok (.iastore, 1) := by decide +kernel
theorem d_Trm_weigh_29 : decode (mb M_Trm_weigh) 29 = .ok (.iload_n 3, 1) := by decide +kernel
theorem d_Trm_weigh_30 : decode (mb M_Trm_weigh) 30 = .ok (.istore 5, 2) := by decide +kernel
theorem d_Trm_weigh_32 : decode (mb M_Trm_weigh) 32 = .ok (.iload 5, 2) := by decide +kernel
theorem d_Trm_weigh_34 : decode (mb M_Trm_weigh) 34 = .ok (.iload_n 1, 1) := by decide +kernel
theorem d_Trm_weigh_35 : decode (mb M_Trm_weigh) 35 = .ok (.if_icmp .gt 37, 3) := by decide +kernel
theorem d_Trm_weigh_38 : decode (mb M_Trm_weigh) 38 = .ok (.aload_n 0, 1) := by decide +kernel
theorem d_Trm_weigh_39 : decode (mb M_Trm_weigh) 39 = .ok (.getfield 30, 3) := by decide +kernel
theorem d_Trm_weigh_42 : decode (mb M_Trm_weigh) 42 = .ok (.iload 5, 2) := by decide +kernel
theorem d_Trm_weigh_44 : decode (mb M_Trm_weigh) 44 = .ok (.aaload, 1) := by decide +kernel
theorem d_Trm_weigh_45 : decode (mb M_Trm_weigh) 45 = .ok (.iload 4, 2) := by decide +kernel
theorem d_Trm_weigh_47 : decode (mb M_Trm_weigh) 47 = .ok (.iconst 1, 1) := by decide +kernel
theorem d_Trm_weigh_48 : decode (mb M_Trm_weigh) 48 = .ok (.isub, 1) := by decide +kernel
theorem d_Trm_weigh_49 : decode (mb M_Trm_weigh) 49 = .ok (.aload_n 0, 1) := by decide +kernel
theorem d_Trm_weigh_50 : decode (mb M_Trm_weigh) 50 = .ok (.getfield 30, 3) := by decide +kernel
theorem d_Trm_weigh_53 : decode (mb M_Trm_weigh) 53 = .ok (.iload 5, 2) := by decide +kernel
theorem d_Trm_weigh_55 : decode (mb M_Trm_weigh) 55 = .ok (.iconst 1, 1) := by decide +kernel
theorem d_Trm_weigh_56 : decode (mb M_Trm_weigh) 56 = .ok (.isub, 1) := by decide +kernel
theorem d_Trm_weigh_57 : decode (mb M_Trm_weigh) 57 = .ok (.aaload, 1) := by decide +kernel
theorem d_Trm_weigh_58 : decode (mb M_Trm_weigh) 58 = .ok (.iload 4, 2) := by decide +kernel
theorem d_Trm_weigh_60 : decode (mb M_Trm_weigh) 60 = .ok (.iconst 1, 1) := by decide +kernel
theorem d_Trm_weigh_61 : decode (mb M_Trm_weigh) 61 = .ok (.isub, 1) := by decide +kernel
theorem d_Trm_weigh_62 : decode (mb M_Trm_weigh) 62 = .ok (.iaload, 1) := by decide +kernel
theorem d_Trm_weigh_63 : decode (mb M_Trm_weigh) 63 = .ok (.iconst 1, 1) := by decide +kernel
theorem d_Trm_weigh_64 : decode (mb M_Trm_weigh) 64 = .ok (.iadd, 1) := by decide +kernel
theorem d_Trm_weigh_65 : decode (mb M_Trm_weigh) 65 = .ok (.iastore, 1) := by decide +kernel
theorem d_Trm_weigh_66 : decode (mb M_Trm_weigh) 66 = .ok (.iinc 5 1, 3) := by decide +kernel
theorem d_Trm_weigh_69 : decode (mb M_Trm_weigh) 69 = .ok (.goto (-37), 3) := by decide +kernel
theorem d_Trm_weigh_72 : decode (mb M_Trm_weigh) 72 = .ok (.iload 4, 2) := by decide +kernel
theorem d_Trm_weigh_74 : decode (mb M_Trm_weigh) 74 = .ok (.istore 5, 2) := by decide +kernel
theorem d_Trm_weigh_76 : decode (mb M_Trm_weigh) 76 = .ok (.iload 5, 2) := by decide +kernel
theorem d_Trm_weigh_78 : decode (mb M_Trm_weigh) 78 = .ok (.iload_n 2, 1) := by decide +kernel
theorem d_Trm_weigh_79 : decode (mb M_Trm_weigh) 79 = .ok (.if_icmp .gt 35, 3) := by decide +kernel
theorem d_Trm_weigh_82 : decode (mb M_Trm_weigh) 82 = .ok (.aload_n 0, 1) := by decide +kernel
theorem d_Trm_weigh_83 : decode (mb M_Trm_weigh) 83 = .ok (.getfield 30, 3) := by decide +kernel
theorem d_Trm_weigh_86 : decode (mb M_Trm_weigh) 86 = .ok (.iload_n 3, 1) := by decide +kernel
theorem d_Trm_weigh_87 : decode (mb M_Trm_weigh) 87 = .ok (.iconst 1, 1) := by decide +kernel
theorem d_Trm_weigh_88 : decode (mb M_Trm_weigh) 88 = .ok (.isub, 1) := by decide +kernel
theorem d_Trm_weigh_89 : decode (mb M_Trm_weigh) 89 = .ok (.aaload, 1) := by decide +kernel
theorem d_Trm_weigh_90 : decode (mb M_Trm_weigh) 90 = .ok (.iload 5, 2) := by decide +kernel
theorem d_Trm_weigh_92 : decode (mb M_Trm_weigh) 92 = .ok (.aload_n 0, 1) := by decide +kernel
theorem d_Trm_weigh_93 : decode (mb M_Trm_weigh) 93 = .ok (.getfield 30, 3) := by decide +kernel
theorem d_Trm_weigh_96 : decode (mb M_Trm_weigh) 96 = .ok (.iload_n 3, 1) := by decide +kernel
theorem d_Trm_weigh_97 : decode (mb M_Trm_weigh) 97 = .ok (.iconst 1, 1) := by decide +kernel
theorem d_Trm_weigh_98 : decode (mb M_Trm_weigh) 98 = .ok (.isub, 1) := by decide +kernel
theorem d_Trm_weigh_99 : decode (mb M_Trm_weigh) 99 = .ok (.aaload, 1) := by decide +kernel
theorem d_Trm_weigh_100 : decode (mb M_Trm_weigh) 100 = .ok (.iload 5, 2) := by decide +kernel
theorem d_Trm_weigh_102 : decode (mb M_Trm_weigh) 102 = .ok (.iconst 1, 1) := by decide +kernel
theorem d_Trm_weigh_103 : decode (mb M_Trm_weigh) 103 = .ok (.isub, 1) := by decide +kernel
theorem d_Trm_weigh_104 : decode (mb M_Trm_weigh) 104 = .ok (.iaload, 1) := by decide +kernel
theorem d_Trm_weigh_105 : decode (mb M_Trm_weigh) 105 = .ok (.iconst 1, 1) := by decide +kernel
theorem d_Trm_weigh_106 : decode (mb M_Trm_weigh) 106 = .ok (.iadd, 1) := by decide +kernel
theorem d_Trm_weigh_107 : decode (mb M_Trm_weigh) 107 = .ok (.iastore, 1) := by decide +kernel
theorem d_Trm_weigh_108 : decode (mb M_Trm_weigh) 108 = .ok (.iinc 5 1, 3) := by decide +kernel
theorem d_Trm_weigh_111 : decode (mb M_Trm_weigh) 111 = .ok (.goto (-35), 3) := by decide +kernel
theorem d_Trm_weigh_114 : decode (mb M_Trm_weigh) 114 = .ok (.iload_n 3, 1) := by decide +kernel
theorem d_Trm_weigh_115 : decode (mb M_Trm_weigh) 115 = .ok (.istore 5, 2) := by decide +kernel
theorem d_Trm_weigh_117 : decode (mb M_Trm_weigh) 117 = .ok (.iload 5, 2) := by decide +kernel
theorem d_Trm_weigh_119 : decode (mb M_Trm_weigh) 119 = .ok (.iload_n 1, 1) := by decide +kernel
theorem d_Trm_weigh_120 : decode (mb M_Trm_weigh) 120 = .ok (.if_icmp .gt 46, 3) := by decide +kernel
theorem d_Trm_weigh_123 : decode (mb M_Trm_weigh) 123 = .ok (.iload 4, 2) := by decide +kernel
theorem d_Trm_weigh_125 : decode (mb M_Trm_weigh) 125 = .ok (.istore 6, 2) := by decide +kernel
theorem d_Trm_weigh_127 : decode (mb M_Trm_weigh) 127 = .ok (.iload 6, 2) := by decide +kernel
theorem d_Trm_weigh_129 : decode (mb M_Trm_weigh) 129 = .ok (.iload_n 2, 1) := by decide +kernel
theorem d_Trm_weigh_130 : decode (mb M_Trm_weigh) 130 = .ok (.if_icmp .gt 30, 3) := by decide +kernel
theorem d_Trm_weigh_133 : decode (mb M_Trm_weigh) 133 = .ok (.aload_n 0, 1) := by decide +kernel
theorem d_Trm_weigh_134 : decode (mb M_Trm_weigh) 134 = .ok (.getfield 30, 3) := by decide +kernel
theorem d_Trm_weigh_137 : decode (mb M_Trm_weigh) 137 = .ok (.iload 5, 2) := by decide +kernel
theorem d_Trm_weigh_139 : decode (mb M_Trm_weigh) 139 = .ok (.aaload, 1) := by decide +kernel
theorem d_Trm_weigh_140 : decode (mb M_Trm_weigh) 140 = .ok (.iload 6, 2) := by decide +kernel
theorem d_Trm_weigh_142 : decode (mb M_Trm_weigh) 142 = .ok (.aload_n 0, 1) := by decide +kernel
theorem d_Trm_weigh_143 : decode (mb M_Trm_weigh) 143 = .ok (.iload 5, 2) := by decide +kernel
theorem d_Trm_weigh_145 : decode (mb M_Trm_weigh) 145 = .ok (.iload 6, 2) := by decide +kernel
theorem d_Trm_weigh_147 : decode (mb M_Trm_weigh) 147 = .ok (.iload_n 3, 1) := by decide +kernel
theorem d_Trm_weigh_148 : decode (mb M_Trm_weigh) 148 = .ok (.iload 4, 2) := by decide +kernel
theorem d_Trm_weigh_150 : decode (mb M_Trm_weigh) 150 = .ok (.invokevirtual 91, 3) := by decide +kernel
theorem d_Trm_weigh_153 : decode (mb M_Trm_weigh) 153 = .ok (.iastore, 1) := by decide +kernel
theorem d_Trm_weigh_154 : decode (mb M_Trm_weigh) 154 = .ok (.iinc 6 1, 3) := by decide +kernel
theorem d_Trm_weigh_157 : decode (mb M_Trm_weigh) 157 = .ok (.goto (-30), 3) := by decide +kernel
theorem d_Trm_weigh_160 : decode (mb M_Trm_weigh) 160 = .ok (.iinc 5 1, 3) := by decide +kernel
theorem d_Trm_weigh_163 : decode (mb M_Trm_weigh) 163 = .ok (.goto (-46), 3) := by decide +kernel
theorem d_Trm_weigh_166 : decode (mb M_Trm_weigh) 166 = .ok (.return_, 1) := by decide +kernel
theorem d_Ver_init_0 : decode (mb M_Ver_init) 0 = .ok (.aload_n 0, 1) := by decide +kernel
theorem d_Ver_init_1 : decode (mb M_Ver_init) 1 = .ok (.invokespecial 3, 3) := by decide +kernel
theorem d_Ver_init_4 : decode (mb M_Ver_init) 4 = .ok (.aload_n 0, 1) := by decide +kernel
theorem d_Ver_init_5 : decode (mb M_Ver_init) 5 = .ok (.new 9, 3) := by decide +kernel
theorem d_Ver_init_8 : decode (mb M_Ver_init) 8 = .ok (.dup, 1) := by decide +kernel
theorem d_Ver_init_9 : decode (mb M_Ver_init) 9 = .ok (.invokespecial 11, 3) := by decide +kernel
theorem d_Ver_init_12 : decode (mb M_Ver_init) 12 = .ok (.putfield 12, 3) := by decide +kernel
theorem d_Ver_init_15 : decode (mb M_Ver_init) 15 = .ok (.aload_n 0, 1) := by decide +kernel
theorem d_Ver_init_16 : decode (mb M_Ver_init) 16 = .ok (.new 9, 3) := by decide +kernel
theorem d_Ver_init_19 : decode (mb M_Ver_init) 19 = .ok (.dup, 1) := by decide +kernel
theorem d_Ver_init_20 : decode (mb M_Ver_init) 20 = .ok (.invokespecial 11, 3) := by decide +kernel
theorem d_Ver_init_23 : decode (mb M_Ver_init) 23 = .ok (.putfield 18, 3) := by decide +kernel
theorem d_Ver_init_26 : decode (mb M_Ver_init) 26 = .ok (.aload_n 0, 1) := by decide +kernel
theorem d_Ver_init_27 : decode (mb M_Ver_init) 27 = .ok (.new 21, 3) := by decide +kernel
theorem d_Ver_init_30 : decode (mb M_Ver_init) 30 = .ok (.dup, 1) := by decide +kernel
theorem d_Ver_init_31 : decode (mb M_Ver_init) 31 = .ok (.invokespecial 23, 3) := by decide +kernel
theorem d_Ver_init_34 : decode (mb M_Ver_init) 34 = .ok (.putfield 24, 3) := by decide +kernel
theorem d_Ver_init_37 : decode (mb M_Ver_init) 37 = .ok (.aload_n 0, 1) := by decide +kernel
theorem d_Ver_init_38 : decode (mb M_Ver_init) 38 = .ok (.iconst (-1), 1) := by decide +kernel
theorem d_Ver_init_39 : decode (mb M_Ver_init) 39 = .ok (.putfield 28, 3) := by decide +kernel
theorem d_Ver_init_42 : decode (mb M_Ver_init) 42 = .ok (.aload_n 0, 1) := by decide +kernel
theorem d_Ver_init_43 : decode (mb M_Ver_init) 43 = .ok (.iconst (-1), 1) := by decide +kernel
theorem d_Ver_init_44 : decode (mb M_Ver_init) 44 = .ok (.putfield 32, 3) := by decide +kernel
theorem d_Ver_init_47 : decode (mb M_Ver_init) 47 = .ok (.aload_n 0, 1) := by decide +kernel
theorem d_Ver_init_48 : decode (mb M_Ver_init) 48 = .ok (.iconst (-1), 1) := by decide +kernel
theorem d_Ver_init_49 : decode (mb M_Ver_init) 49 = .ok (.putfield 35, 3) := by decide +kernel
theorem d_Ver_init_52 : decode (mb M_Ver_init) 52 = .ok (.aload_n 0, 1) := by decide +kernel
theorem d_Ver_init_53 : decode (mb M_Ver_init) 53 = .ok (.lconst 0, 1) := by decide +kernel
theorem d_Ver_init_54 : decode (mb M_Ver_init) 54 = .ok (.putfield 38, 3) := by decide +kernel
theorem d_Ver_init_57 : decode (mb M_Ver_init) 57 = .ok (.return_, 1) := by decide +kernel
theorem d_Ver_isOver_0 : decode (mb M_Ver_isOver) 0 = .ok (.iload_n 1, 1) := by decide +kernel
theorem d_Ver_isOver_1 : decode (mb M_Ver_isOver) 1 = .ok (.ifCond .lt 26, 3) := by decide +kernel
theorem d_Ver_isOver_4 : decode (mb M_Ver_isOver) 4 = .ok (.iload_n 1, 1) := by decide +kernel
theorem d_Ver_isOver_5 : decode (mb M_Ver_isOver) 5 = .ok (.bipush 40, 2) := by decide +kernel
theorem d_Ver_isOver_7 : decode (mb M_Ver_isOver) 7 = .ok (.if_icmp .ge 20, 3) := by decide +kernel
theorem d_Ver_isOver_10 : decode (mb M_Ver_isOver) 10 = .ok (.aload_n 0, 1) := by decide +kernel
theorem d_Ver_isOver_11 : decode (mb M_Ver_isOver) 11 = .ok (.getfield 38, 3) := by decide +kernel
theorem d_Ver_isOver_14 : decode (mb M_Ver_isOver) 14 = .ok (.iload_n 1, 1) := by decide +kernel
theorem d_Ver_isOver_15 : decode (mb M_Ver_isOver) 15 = .ok (.lushr, 1) := by decide +kernel
theorem d_Ver_isOver_16 : decode (mb M_Ver_isOver) 16 = .ok (.lconst 1, 1) := by decide +kernel
theorem d_Ver_isOver_17 : decode (mb M_Ver_isOver) 17 = .ok (.land, 1) := by decide +kernel
theorem d_Ver_isOver_18 : decode (mb M_Ver_isOver) 18 = .ok (.lconst 0, 1) := by decide +kernel
theorem d_Ver_isOver_19 : decode (mb M_Ver_isOver) 19 = .ok (.lcmp, 1) := by decide +kernel
theorem d_Ver_isOver_20 : decode (mb M_Ver_isOver) 20 = .ok (.ifCond .eq 7, 3) := by decide +kernel
theorem d_Ver_isOver_23 : decode (mb M_Ver_isOver) 23 = .ok (.iconst 1, 1) := by decide +kernel
theorem d_Ver_isOver_24 : decode (mb M_Ver_isOver) 24 = .ok (.goto 4, 3) := by decide +kernel
theorem d_Ver_isOver_27 : decode (mb M_Ver_isOver) 27 = .ok (.iconst 0, 1) := by decide +kernel
theorem d_Ver_isOver_28 : decode (mb M_Ver_isOver) 28 = .ok (.ireturn, 1) := by decide +kernel
theorem d_Ver_keep_0 : decode (mb M_Ver_keep) 0 = .ok (.aload_n 0, 1) := by decide +kernel
theorem d_Ver_keep_1 : decode (mb M_Ver_keep) 1 = .ok (.getfield 12, 3) := by decide +kernel
theorem d_Ver_keep_4 : decode (mb M_Ver_keep) 4 = .ok (.aload_n 1, 1) := by decide +kernel
theorem d_Ver_keep_5 : decode (mb M_Ver_keep) 5 = .ok (.getfield 42, 3) := by decide +kernel
theorem d_Ver_keep_8 : decode (mb M_Ver_keep) 8 = .ok (.invokevirtual 45, 3) := by decide +kernel
theorem d_Ver_keep_11 : decode (mb M_Ver_keep) 11 = .ok (.aload_n 0, 1) := by decide +kernel
theorem d_Ver_keep_12 : decode (mb M_Ver_keep) 12 = .ok (.aload_n 1, 1) := by decide +kernel
theorem d_Ver_keep_13 : decode (mb M_Ver_keep) 13 = .ok (.getfield 49, 3) := by decide +kernel
theorem d_Ver_keep_16 : decode (mb M_Ver_keep) 16 = .ok (.putfield 28, 3) := by decide +kernel
theorem d_Ver_keep_19 : decode (mb M_Ver_keep) 19 = .ok (.aload_n 0, 1) := by decide +kernel
theorem d_Ver_keep_20 : decode (mb M_Ver_keep) 20 = .ok (.aload_n 1, 1) := by decide +kernel
theorem d_Ver_keep_21 : decode (mb M_Ver_keep) 21 = .ok (.getfield 50, 3) := by decide +kernel
theorem d_Ver_keep_24 : decode (mb M_Ver_keep) 24 = .ok (.putfield 32, 3) := by decide +kernel
theorem d_Ver_keep_27 : decode (mb M_Ver_keep) 27 = .ok (.aload_n 0, 1) := by decide +kernel
theorem d_Ver_keep_28 : decode (mb M_Ver_keep) 28 = .ok (.aload_n 1, 1) := by decide +kernel
theorem d_Ver_keep_29 : decode (mb M_Ver_keep) 29 = .ok (.getfield 51, 3) := by decide +kernel
theorem d_Ver_keep_32 : decode (mb M_Ver_keep) 32 = .ok (.putfield 35, 3) := by decide +kernel
theorem d_Ver_keep_35 : decode (mb M_Ver_keep) 35 = .ok (.iconst 0, 1) := by decide +kernel
theorem d_Ver_keep_36 : decode (mb M_Ver_keep) 36 = .ok (.istore_n 2, 1) := by decide +kernel
theorem d_Ver_keep_37 : decode (mb M_Ver_keep) 37 = .ok (.iload_n 2, 1) := by decide +kernel
theorem d_Ver_keep_38 : decode (mb M_Ver_keep) 38 = .ok (.aload_n 1, 1) := by decide +kernel
theorem d_Ver_keep_39 : decode (mb M_Ver_keep) 39 = .ok (.getfield 52, 3) := by decide +kernel
theorem d_Ver_keep_42 : decode (mb M_Ver_keep) 42 = .ok (.invokevirtual 53, 3) := by decide +kernel
theorem d_Ver_keep_45 : decode (mb M_Ver_keep) 45 = .ok (.if_icmp .ge 28, 3) := by decide +kernel
theorem d_Ver_keep_48 : decode (mb M_Ver_keep) 48 = .ok (.aload_n 0, 1) := by decide +kernel
theorem d_Ver_keep_49 : decode (mb M_Ver_keep) 49 = .ok (.getfield 24, 3) := by decide +kernel
theorem d_Ver_keep_52 : decode (mb M_Ver_keep) 52 = .ok (.aload_n 1, 1) := by decide +kernel
theorem d_Ver_keep_53 : decode (mb M_Ver_keep) 53 = .ok (.getfield 52, 3) := by decide +kernel
theorem d_Ver_keep_56 : decode (mb M_Ver_keep) 56 = .ok (.iload_n 2, 1) := by decide +kernel
theorem d_Ver_keep_57 : decode (mb M_Ver_keep) 57 = .ok (.invokevirtual 57, 3) := by decide +kernel
theorem d_Ver_keep_60 : decode (mb M_Ver_keep) 60 = .ok (.checkcast 61, 3) := by decide +kernel
theorem d_Ver_keep_63 : decode (mb M_Ver_keep) 63 = .ok (.invokevirtual 63, 3) := by decide +kernel
theorem d_Ver_keep_66 : decode (mb M_Ver_keep) 66 = .ok (.pop, 1) := by decide +kernel
theorem d_Ver_keep_67 : decode (mb M_Ver_keep) 67 = .ok (.iinc 2 1, 3) := by decide +kernel
theorem d_Ver_keep_70 : decode (mb M_Ver_keep) 70 = .ok (.goto (-33), 3) := by decide +kernel
theorem d_Ver_keep_73 : decode (mb M_Ver_keep) 73 = .ok (.return_, 1) := by decide +kernel
theorem d_AbstractCollection_init_0 : decode (mb M_AbstractCollection_init) 0 = .ok (.aload_n 0, 1) := by decide +kernel
theorem d_AbstractCollection_init_1 : decode (mb M_AbstractCollection_init) 1 = .ok (.invokespecial 1, 3) := by decide +kernel
theorem d_AbstractCollection_init_4 : decode (mb M_AbstractCollection_init) 4 = .ok (.return_, 1) := by decide +kernel
theorem d_AbstractList_init_0 : decode (mb M_AbstractList_init) 0 = .ok (.aload_n 0, 1) := by decide +kernel
theorem d_AbstractList_init_1 : decode (mb M_AbstractList_init) 1 = .ok (.invokespecial 1, 3) := by decide +kernel
theorem d_AbstractList_init_4 : decode (mb M_AbstractList_init) 4 = .ok (.aload_n 0, 1) := by decide +kernel
theorem d_AbstractList_init_5 : decode (mb M_AbstractList_init) 5 = .ok (.iconst 0, 1) := by decide +kernel
theorem d_AbstractList_init_6 : decode (mb M_AbstractList_init) 6 = .ok (.putfield 7, 3) := by decide +kernel
theorem d_AbstractList_init_9 : decode (mb M_AbstractList_init) 9 = .ok (.return_, 1) := by decide +kernel
theorem d_Lst_add_0_0 : decode (mb M_Lst_add_0) 0 = .ok (.aload_n 0, 1) := by decide +kernel
theorem d_Lst_add_0_1 : decode (mb M_Lst_add_0) 1 = .ok (.dup, 1) := by decide +kernel
theorem d_Lst_add_0_2 : decode (mb M_Lst_add_0) 2 = .ok (.getfield 63, 3) := by decide +kernel
theorem d_Lst_add_0_5 : decode (mb M_Lst_add_0) 5 = .ok (.iconst 1, 1) := by decide +kernel
theorem d_Lst_add_0_6 : decode (mb M_Lst_add_0) 6 = .ok (.iadd, 1) := by decide +kernel
theorem d_Lst_add_0_7 : decode (mb M_Lst_add_0) 7 = .ok (.putfield 63, 3) := by decide +kernel
theorem d_Lst_add_0_10 : decode (mb M_Lst_add_0) 10 = .ok (.aload_n 0, 1) := by decide +kernel
theorem d_Lst_add_0_11 : decode (mb M_Lst_add_0) 11 = .ok (.aload_n 1, 1) := by decide +kernel
theorem d_Lst_add_0_12 : decode (mb M_Lst_add_0) 12 = .ok (.aload_n 0, 1) := by decide +kernel
theorem d_Lst_add_0_13 : decode (mb M_Lst_add_0) 13 = .ok (.getfield 9, 3) := by decide +kernel
theorem d_Lst_add_0_16 : decode (mb M_Lst_add_0) 16 = .ok (.aload_n 0, 1) := by decide +kernel
theorem d_Lst_add_0_17 : decode (mb M_Lst_add_0) 17 = .ok (.getfield 48, 3) := by decide +kernel
theorem d_Lst_add_0_20 : decode (mb M_Lst_add_0) 20 = .ok (.invokevirtual 131, 3) := by decide +kernel
theorem d_Lst_add_0_23 : decode (mb M_Lst_add_0) 23 = .ok (.iconst 1, 1) := by decide +kernel
theorem d_Lst_add_0_24 : decode (mb M_Lst_add_0) 24 = .ok (.ireturn, 1) := by decide +kernel
theorem d_Lst_add_1_0 : decode (mb M_Lst_add_1) 0 = .ok (.iload_n 3, 1) := by decide +kernel
theorem d_Lst_add_1_1 : decode (mb M_Lst_add_1) 1 = .ok (.aload_n 2, 1) := by decide +kernel
theorem d_Lst_add_1_2 : decode (mb M_Lst_add_1) 2 = .ok (.arraylength, 1) := by decide +kernel
theorem d_Lst_add_1_3 : decode (mb M_Lst_add_1) 3 = .ok (.if_icmp .ne 8, 3) := by decide +kernel
theorem d_Lst_add_1_6 : decode (mb M_Lst_add_1) 6 = .ok (.aload_n 0, 1) := by decide +kernel
theorem d_Lst_add_1_7 : decode (mb M_Lst_add_1) 7 = .ok (.invokevirtual 129, 3) := by decide +kernel
theorem d_Lst_add_1_10 : decode (mb M_Lst_add_1) 10 = .ok (.astore_n 2, 1) := by decide +kernel
theorem d_Lst_add_1_11 : decode (mb M_Lst_add_1) 11 = .ok (.aload_n 2, 1) := by decide +kernel
theorem d_Lst_add_1_12 : decode (mb M_Lst_add_1) 12 = .ok (.iload_n 3, 1) := by decide +kernel
theorem d_Lst_add_1_13 : decode (mb M_Lst_add_1) 13 = .ok (.aload_n 1, 1) := by decide +kernel
theorem d_Lst_add_1_14 : decode (mb M_Lst_add_1) 14 = .ok (.aastore, 1) := by decide +kernel
theorem d_Lst_add_1_15 : decode (mb M_Lst_add_1) 15 = .ok (.aload_n 0, 1) := by decide +kernel
theorem d_Lst_add_1_16 : decode (mb M_Lst_add_1) 16 = .ok (.iload_n 3, 1) := by decide +kernel
theorem d_Lst_add_1_17 : decode (mb M_Lst_add_1) 17 = .ok (.iconst 1, 1) := by decide +kernel
theorem d_Lst_add_1_18 : decode (mb M_Lst_add_1) 18 = .ok (.iadd, 1) := by decide +kernel
theorem d_Lst_add_1_19 : decode (mb M_Lst_add_1) 19 = .ok (.putfield 48, 3) := by decide +kernel
theorem d_Lst_add_1_22 : decode (mb M_Lst_add_1) 22 = .ok (.return_, 1) := by decide +kernel
theorem d_Lst_clear_0 : decode (mb M_Lst_clear) 0 = .ok (.aload_n 0, 1) := by decide +kernel
theorem d_Lst_clear_1 : decode (mb M_Lst_clear) 1 = .ok (.dup, 1) := by decide +kernel
theorem d_Lst_clear_2 : decode (mb M_Lst_clear) 2 = .ok (.getfield 63, 3) := by decide +kernel
theorem d_Lst_clear_5 : decode (mb M_Lst_clear) 5 = .ok (.iconst 1, 1) := by decide +kernel
theorem d_Lst_clear_6 : decode (mb M_Lst_clear) 6 = .ok (.iadd, 1) := by decide +kernel
theorem d_Lst_clear_7 : decode (mb M_Lst_clear) 7 = .ok (.putfield 63, 3) := by decide +kernel
theorem d_Lst_clear_10 : decode (mb M_Lst_clear) 10 = .ok (.aload_n 0, 1) := by decide +kernel
theorem d_Lst_clear_11 : decode (mb M_Lst_clear) 11 = .ok (.getfield 9, 3) := by decide +kernel
theorem d_Lst_clear_14 : decode (mb M_Lst_clear) 14 = .ok (.astore_n 1, 1) := by decide +kernel
theorem d_Lst_clear_15 : decode (mb M_Lst_clear) 15 = .ok (.aload_n 0, 1) := by decide +kernel
theorem d_Lst_clear_16 : decode (mb M_Lst_clear) 16 = .ok (.getfield 48, 3) := by decide +kernel
theorem d_Lst_clear_19 : decode (mb M_Lst_clear) 19 = .ok (.istore_n 2, 1) := by decide +kernel
theorem d_Lst_clear_20 : decode (mb M_Lst_clear) 20 = .ok (.aload_n 0, 1) := by decide +kernel
theorem d_Lst_clear_21 : decode (mb M_Lst_clear) 21 = .ok (.iconst 0, 1) := by decide +kernel
theorem d_Lst_clear_22 : decode (mb M_Lst_clear) 22 = .ok (.dup_x1, 1) := by decide +kernel
theorem d_Lst_clear_23 : decode (mb M_Lst_clear) 23 = .ok (.putfield 48, 3) := by decide +kernel
theorem d_Lst_clear_26 : decode (mb M_Lst_clear) 26 = .ok (.istore_n 3, 1) := by decide +kernel
theorem d_Lst_clear_27 : decode (mb M_Lst_clear) 27 = .ok (.iload_n 3, 1) := by decide +kernel
theorem d_Lst_clear_28 : decode (mb M_Lst_clear) 28 = .ok (.iload_n 2, 1) := by decide +kernel
theorem d_Lst_clear_29 : decode (mb M_Lst_clear) 29 = .ok (.if_icmp .ge 13, 3) := by decide +kernel
theorem d_Lst_clear_32 : decode (mb M_Lst_clear) 32 = .ok (.aload_n 1, 1) := by decide +kernel
theorem d_Lst_clear_33 : decode (mb M_Lst_clear) 33 = .ok (.iload_n 3, 1) := by decide +kernel
theorem d_Lst_clear_34 : decode (mb M_Lst_clear) 34 = .ok (.aconst_null, 1) := by decide +kernel
theorem d_Lst_clear_35 : decode (mb M_Lst_clear) 35 = .ok (.aastore, 1) := by decide +kernel
theorem d_Lst_clear_36 : decode (mb M_Lst_clear) 36 = .ok (.iinc 3 1, 3) := by decide +kernel
theorem d_Lst_clear_39 : decode (mb M_Lst_clear) 39 = .ok (.goto (-12), 3) := by decide +kernel
theorem d_Lst_clear_42 : decode (mb M_Lst_clear) 42 = .ok (.return_, 1) := by decide +kernel
theorem d_Lst_elementData_0 : decode (mb M_Lst_elementData) 0 = .ok (.aload_n 0, 1) := by decide +kernel
theorem d_Lst_elementData_1 : decode (mb M_Lst_elementData) 1 = .ok (.getfield 9, 3) := by decide +kernel
theorem d_Lst_elementData_4 : decode (mb M_Lst_elementData) 4 = .ok (.iload_n 1, 1) := by decide +kernel
theorem d_Lst_elementData_5 : decode (mb M_Lst_elementData) 5 = .ok (.aaload, 1) := by decide +kernel
theorem d_Lst_elementData_6 : decode (mb M_Lst_elementData) 6 = .ok (.areturn, 1) := by decide +kernel
theorem d_Lst_fastRemove_0 : decode (mb M_Lst_fastRemove) 0 = .ok (.aload_n 0, 1) := by decide +kernel
theorem d_Lst_fastRemove_1 : decode (mb M_Lst_fastRemove) 1 = .ok (.dup, 1) := by decide +kernel
theorem d_Lst_fastRemove_2 : decode (mb M_Lst_fastRemove) 2 = .ok (.getfield 63, 3) := by decide +kernel
theorem d_Lst_fastRemove_5 : decode (mb M_Lst_fastRemove) 5 = .ok (.iconst 1, 1) := by decide +kernel
theorem d_Lst_fastRemove_6 : decode (mb M_Lst_fastRemove) 6 = .ok (.iadd, 1) := by decide +kernel
theorem d_Lst_fastRemove_7 : decode (mb M_Lst_fastRemove) 7 = .ok (.putfield 63, 3) := by decide +kernel
theorem d_Lst_fastRemove_10 : decode (mb M_Lst_fastRemove) 10 = .ok (.aload_n 0, 1) := by decide +kernel
theorem d_Lst_fastRemove_11 : decode (mb M_Lst_fastRemove) 11 = .ok (.getfield 48, 3) := by decide +kernel
theorem d_Lst_fastRemove_14 : decode (mb M_Lst_fastRemove) 14 = .ok (.iconst 1, 1) := by decide +kernel
theorem d_Lst_fastRemove_15 : decode (mb M_Lst_fastRemove) 15 = .ok (.isub, 1) := by decide +kernel
theorem d_Lst_fastRemove_16 : decode (mb M_Lst_fastRemove) 16 = .ok (.dup, 1) := by decide +kernel
theorem d_Lst_fastRemove_17 : decode (mb M_Lst_fastRemove) 17 = .ok (.istore_n 3, 1) := by decide +kernel
theorem d_Lst_fastRemove_18 : decode (mb M_Lst_fastRemove) 18 = .ok (.iload_n 2, 1) := by decide +kernel
theorem d_Lst_fastRemove_19 : decode (mb M_Lst_fastRemove) 19 = .ok (.if_icmp .le 15, 3) := by decide +kernel
theorem d_Lst_fastRemove_22 : decode (mb M_Lst_fastRemove) 22 = .ok (.aload_n 1, 1) := by decide +kernel
theorem d_Lst_fastRemove_23 : decode (mb M_Lst_fastRemove) 23 = .ok (.iload_n 2, 1) := by decide +kernel
theorem d_Lst_fastRemove_24 : decode (mb M_Lst_fastRemove) 24 = .ok (.iconst 1, 1) := by decide +kernel
theorem d_Lst_fastRemove_25 : decode (mb M_Lst_fastRemove) 25 = .ok (.iadd, 1) := by decide +kernel
theorem d_Lst_fastRemove_26 : decode (mb M_Lst_fastRemove) 26 = .ok (.aload_n 1, 1) := by decide +kernel
theorem d_Lst_fastRemove_27 : decode (mb M_Lst_fastRemove) 27 = .ok (.iload_n 2, 1) := by decide +kernel
theorem d_Lst_fastRemove_28 : decode (mb M_Lst_fastRemove) 28 = .ok (.iload_n 3, 1) := by decide +kernel
theorem d_Lst_fastRemove_29 : decode (mb M_Lst_fastRemove) 29 = .ok (.iload_n 2, 1) := by decide +kernel
theorem d_Lst_fastRemove_30 : decode (mb M_Lst_fastRemove) 30 = .ok (.isub, 1) := by decide +kernel
theorem d_Lst_fastRemove_31 : decode (mb M_Lst_fastRemove) 31 = .ok (.invokestatic 112, 3) := by decide +kernel
theorem d_Lst_fastRemove_34 : decode (mb M_Lst_fastRemove) 34 = .ok (.aload_n 1, 1) := by decide +kernel
theorem d_Lst_fastRemove_35 : decode (mb M_Lst_fastRemove) 35 = .ok (.aload_n 0, 1) := by decide +kernel
theorem d_Lst_fastRemove_36 : decode (mb M_Lst_fastRemove) 36 = .ok (.iload_n 3, 1) := by decide +kernel
theorem d_Lst_fastRemove_37 : decode (mb M_Lst_fastRemove) 37 = .ok (.dup_x1, 1) := by decide +kernel
theorem d_Lst_fastRemove_38 : decode (mb M_Lst_fastRemove) 38 = .ok (.putfield 48, 3) := by decide +kernel
theorem d_Lst_fastRemove_41 : decode (mb M_Lst_fastRemove) 41 = .ok (.aconst_null, 1) := by decide +kernel
theorem d_Lst_fastRemove_42 : decode (mb M_Lst_fastRemove) 42 = .ok (.aastore, 1) := by decide +kernel
theorem d_Lst_fastRemove_43 : decode (mb M_Lst_fastRemove) 43 = .ok (.return_, 1) := by decide +kernel
theorem d_Lst_get_0 : decode (mb M_Lst_get) 0 = .ok (.iload_n 1, 1) := by decide +kernel
theorem d_Lst_get_1 : decode (mb M_Lst_get) 1 = .ok (.aload_n 0, 1) := by decide +kernel
theorem d_Lst_get_2 : decode (mb M_Lst_get) 2 = .ok (.getfield 48, 3) := by decide +kernel
theorem d_Lst_get_5 : decode (mb M_Lst_get) 5 = .ok (.invokestatic 118, 3) := by decide +kernel
theorem d_Lst_get_8 : decode (mb M_Lst_get) 8 = .ok (.pop, 1) := by decide +kernel
theorem d_Lst_get_9 : decode (mb M_Lst_get) 9 = .ok (.aload_n 0, 1) := by decide +kernel
theorem d_Lst_get_10 : decode (mb M_Lst_get) 10 = .ok (.iload_n 1, 1) := by decide +kernel
theorem d_Lst_get_11 : decode (mb M_Lst_get) 11 = .ok (.invokevirtual 123, 3) := by decide +kernel
theorem d_Lst_get_14 : decode (mb M_Lst_get) 14 = .ok (.areturn, 1) := by decide +kernel
theorem d_Lst_grow_0_0 : decode (mb M_Lst_grow_0) 0 = .ok (.aload_n 0, 1) := by decide +kernel
theorem d_Lst_grow_0_1 : decode (mb M_Lst_grow_0) 1 = .ok (.aload_n 0, 1) := by decide +kernel
theorem d_Lst_grow_0_2 : decode (mb M_Lst_grow_0) 2 = .ok (.getfield 48, 3) := by decide +kernel
theorem d_Lst_grow_0_5 : decode (mb M_Lst_grow_0) 5 = .ok (.iconst 1, 1) := by decide +kernel
theorem d_Lst_grow_0_6 : decode (mb M_Lst_grow_0) 6 = .ok (.iadd, 1) := by decide +kernel
theorem d_Lst_grow_0_7 : decode (mb M_Lst_grow_0) 7 = .ok (.invokevirtual 69, 3) := by decide +kernel
theorem d_Lst_grow_0_10 : decode (mb M_Lst_grow_0) 10 = .ok (.areturn, 1) := by decide +kernel
theorem d_Lst_grow_1_0 : decode (mb M_Lst_grow_1) 0 = .ok (.aload_n 0, 1) := by decide +kernel
theorem d_Lst_grow_1_1 : decode (mb M_Lst_grow_1) 1 = .ok (.getfield 9, 3) := by decide +kernel
theorem d_Lst_grow_1_4 : decode (mb M_Lst_grow_1) 4 = .ok (.arraylength, 1) := by decide +kernel
theorem d_Lst_grow_1_5 : decode (mb M_Lst_grow_1) 5 = .ok (.istore_n 2, 1) := by decide +kernel
theorem d_Lst_grow_1_6 : decode (mb M_Lst_grow_1) 6 = .ok (.iload_n 2, 1) := by decide +kernel
theorem d_Lst_grow_1_7 : decode (mb M_Lst_grow_1) 7 = .ok (.ifCond .gt 13, 3) := by decide +kernel
theorem d_Lst_grow_1_10 : decode (mb M_Lst_grow_1) 10 = .ok (.aload_n 0, 1) := by decide +kernel
theorem d_Lst_grow_1_11 : decode (mb M_Lst_grow_1) 11 = .ok (.getfield 9, 3) := by decide +kernel
theorem d_Lst_grow_1_14 : decode (mb M_Lst_grow_1) 14 = .ok (.getstatic 39, 3) := by decide +kernel
theorem d_Lst_grow_1_17 : decode (mb M_Lst_grow_1) 17 = .ok (.if_acmp .eq 28, 3) := by decide +kernel
theorem d_Lst_grow_1_20 : decode (mb M_Lst_grow_1) 20 = .ok (.iload_n 2, 1) := by decide +kernel
theorem d_Lst_grow_1_21 : decode (mb M_Lst_grow_1) 21 = .ok (.iload_n 1, 1) := by decide +kernel
theorem d_Lst_grow_1_22 : decode (mb M_Lst_grow_1) 22 = .ok (.iload_n 2, 1) := by decide +kernel
theorem d_Lst_grow_1_23 : decode (mb M_Lst_grow_1) 23 = .ok (.isub, 1) := by decide +kernel
theorem d_Lst_grow_1_24 : decode (mb M_Lst_grow_1) 24 = .ok (.iload_n 2, 1) := by decide +kernel
theorem d_Lst_grow_1_25 : decode (mb M_Lst_grow_1) 25 = .ok (.iconst 1, 1) := by decide +kernel
theorem d_Lst_grow_1_26 : decode (mb M_Lst_grow_1) 26 = .ok (.ishr, 1) := by decide +kernel
theorem d_Lst_grow_1_27 : decode (mb M_Lst_grow_1) 27 = .ok (.invokestatic 73, 3) := by decide +kernel
theorem d_Lst_grow_1_30 : decode (mb M_Lst_grow_1) 30 = .ok (.istore_n 3, 1) := by decide +kernel
theorem d_Lst_grow_1_31 : decode (mb M_Lst_grow_1) 31 = .ok (.aload_n 0, 1) := by decide +kernel
theorem d_Lst_grow_1_32 : decode (mb M_Lst_grow_1) 32 = .ok (.aload_n 0, 1) := by decide +kernel
theorem d_Lst_grow_1_33 : decode (mb M_Lst_grow_1) 33 = .ok (.getfield 9, 3) := by decide +kernel
theorem d_Lst_grow_1_36 : decode (mb M_Lst_grow_1) 36 = .ok (.iload_n 3, 1) := by decide +kernel
theorem d_Lst_grow_1_37 : decode (mb M_Lst_grow_1) 37 = .ok (.invokestatic 66, 3) := by decide +kernel
theorem d_Lst_grow_1_40 : decode (mb M_Lst_grow_1) 40 = .ok (.dup_x1, 1) := by decide +kernel
theorem d_Lst_grow_1_41 : decode (mb M_Lst_grow_1) 41 = .ok (.putfield 9, 3) := by decide +kernel
theorem d_Lst_grow_1_44 : decode (mb M_Lst_grow_1) 44 = .ok (.areturn, 1) := by decide +kernel
theorem d_Lst_grow_1_45 : decode (mb M_Lst_grow_1) 45 = .ok (.aload_n 0, 1) := by decide +kernel
theorem d_Lst_grow_1_46 : decode (mb M_Lst_grow_1) 46 = .ok (.bipush 10, 2) := by decide +kernel
theorem d_Lst_grow_1_48 : decode (mb M_Lst_grow_1) 48 = .ok (.iload_n 1, 1) := by decide +kernel
theorem d_Lst_grow_1_49 : decode (mb M_Lst_grow_1) 49 = .ok (.invokestatic 79, 3) := by decide +kernel
theorem d_Lst_grow_1_52 : decode (mb M_Lst_grow_1) 52 = .ok (.anewarray 7, 3) := by decide +kernel
theorem d_Lst_grow_1_55 : decode (mb M_Lst_grow_1) 55 = .ok (.dup_x1, 1) := by decide +kernel
theorem d_Lst_grow_1_56 : decode (mb M_Lst_grow_1) 56 = .ok (.putfield 9, 3) := by decide +kernel
theorem d_Lst_grow_1_59 : decode (mb M_Lst_grow_1) 59 = .ok (.areturn, 1) := by decide +kernel
theorem d_Lst_init_0 : decode (mb M_Lst_init) 0 = .ok (.aload_n 0, 1) := by decide +kernel
theorem d_Lst_init_1 : decode (mb M_Lst_init) 1 = .ok (.invokespecial 1, 3) := by decide +kernel
theorem d_Lst_init_4 : decode (mb M_Lst_init) 4 = .ok (.aload_n 0, 1) := by decide +kernel
theorem d_Lst_init_5 : decode (mb M_Lst_init) 5 = .ok (.getstatic 39, 3) := by decide +kernel
theorem d_Lst_init_8 : decode (mb M_Lst_init) 8 = .ok (.putfield 9, 3) := by decide +kernel
theorem d_Lst_init_11 : decode (mb M_Lst_init) 11 = .ok (.return_, 1) := by decide +kernel
theorem d_Lst_isEmpty_0 : decode (mb M_Lst_isEmpty) 0 = .ok (.aload_n 0, 1) := by decide +kernel
theorem d_Lst_isEmpty_1 : decode (mb M_Lst_isEmpty) 1 = .ok (.getfield 48, 3) := by decide +kernel
theorem d_Lst_isEmpty_4 : decode (mb M_Lst_isEmpty) 4 = .ok (.ifCond .ne 7, 3) := by decide +kernel
theorem d_Lst_isEmpty_7 : decode (mb M_Lst_isEmpty) 7 = .ok (.iconst 1, 1) := by decide +kernel
theorem d_Lst_isEmpty_8 : decode (mb M_Lst_isEmpty) 8 = .ok (.goto 4, 3) := by decide +kernel
theorem d_Lst_isEmpty_11 : decode (mb M_Lst_isEmpty) 11 = .ok (.iconst 0, 1) := by decide +kernel
theorem d_Lst_isEmpty_12 : decode (mb M_Lst_isEmpty) 12 = .ok (.ireturn, 1) := by decide +kernel
theorem d_Lst_remove_0 : decode (mb M_Lst_remove) 0 = .ok (.iload_n 1, 1) := by decide +kernel
theorem d_Lst_remove_1 : decode (mb M_Lst_remove) 1 = .ok (.aload_n 0, 1) := by decide +kernel
theorem d_Lst_remove_2 : decode (mb M_Lst_remove) 2 = .ok (.getfield 48, 3) := by decide +kernel
theorem d_Lst_remove_5 : decode (mb M_Lst_remove) 5 = .ok (.invokestatic 118, 3) := by decide +kernel
theorem d_Lst_remove_8 : decode (mb M_Lst_remove) 8 = .ok (.pop, 1) := by decide +kernel
theorem d_Lst_remove_9 : decode (mb M_Lst_remove) 9 = .ok (.aload_n 0, 1) := by decide +kernel
theorem d_Lst_remove_10 : decode (mb M_Lst_remove) 10 = .ok (.getfield 9, 3) := by decide +kernel
theorem d_Lst_remove_13 : decode (mb M_Lst_remove) 13 = .ok (.astore_n 2, 1) := by decide +kernel
theorem d_Lst_remove_14 : decode (mb M_Lst_remove) 14 = .ok (.aload_n 2, 1) := by decide +kernel
theorem d_Lst_remove_15 : decode (mb M_Lst_remove) 15 = .ok (.iload_n 1, 1) := by decide +kernel
theorem d_Lst_remove_16 : decode (mb M_Lst_remove) 16 = .ok (.aaload, 1) := by decide +kernel
theorem d_Lst_remove_17 : decode (mb M_Lst_remove) 17 = .ok (.astore_n 3, 1) := by decide +kernel
theorem d_Lst_remove_18 : decode (mb M_Lst_remove) 18 = .ok (.aload_n 0, 1) := by decide +kernel
theorem d_Lst_remove_19 : decode (mb M_Lst_remove) 19 = .ok (.aload_n 2, 1) := by decide +kernel
theorem d_Lst_remove_20 : decode (mb M_Lst_remove) 20 = .ok (.iload_n 1, 1) := by decide +kernel
theorem d_Lst_remove_21 : decode (mb M_Lst_remove) 21 = .ok (.invokevirtual 144, 3) := by decide +kernel
theorem d_Lst_remove_24 : decode (mb M_Lst_remove) 24 = .ok (.aload_n 3, 1) := by decide +kernel
theorem d_Lst_remove_25 : decode (mb M_Lst_remove) 25 = .ok (.areturn, 1) := by decide +kernel
theorem d_Lst_size_0 : decode (mb M_Lst_size) 0 = .ok (.aload_n 0, 1) := by decide +kernel
theorem d_Lst_size_1 : decode (mb M_Lst_size) 1 = .ok (.getfield 48, 3) := by decide +kernel
theorem d_Lst_size_4 : decode (mb M_Lst_size) 4 = .ok (.ireturn, 1) := by decide +kernel
theorem d_Arrays_copyOf_0_0 : decode (mb M_Arrays_copyOf_0) 0 = .ok (.aload_n 0, 1) := by decide +kernel
theorem d_Arrays_copyOf_0_1 : decode (mb M_Arrays_copyOf_0) 1 = .ok (.iload_n 1, 1) := by decide +kernel
theorem d_Arrays_copyOf_0_2 : decode (mb M_Arrays_copyOf_0) 2 = .ok (.aload_n 0, 1) := by decide +kernel
theorem d_Arrays_copyOf_0_3 : decode (mb M_Arrays_copyOf_0) 3 = .ok (.invokevirtual 86, 3) := by decide +kernel
theorem d_Arrays_copyOf_0_6 : decode (mb M_Arrays_copyOf_0) 6 = .ok (.invokestatic 300, 3) := by decide +kernel
theorem d_Arrays_copyOf_0_9 : decode (mb M_Arrays_copyOf_0) 9 = .ok (.areturn, 1) := by decide +kernel
theorem d_Arrays_copyOf_1_0 : decode (mb M_Arrays_copyOf_1) 0 = .ok (.aload_n 2, 1) := by decide +kernel
theorem d_Arrays_copyOf_1_1 : decode (mb M_Arrays_copyOf_1) 1 = .ok (.ldc 110, 2) := by decide +kernel
theorem d_Arrays_copyOf_1_3 : decode (mb M_Arrays_copyOf_1) 3 = .ok (.if_acmp .ne 10, 3) := by decide +kernel
theorem d_Arrays_copyOf_1_6 : decode (mb M_Arrays_copyOf_1) 6 = .ok (.iload_n 1, 1) := by decide +kernel
theorem d_Arrays_copyOf_1_7 : decode (mb M_Arrays_copyOf_1) 7 = .ok (.anewarray 2, 3) := by decide +kernel
theorem d_Arrays_copyOf_1_10 : decode (mb M_Arrays_copyOf_1) 10 = .ok (.goto 14, 3) := by decide +kernel
theorem d_Arrays_copyOf_1_13 : decode (mb M_Arrays_copyOf_1) 13 = .ok (.aload_n 2, 1) := by decide +kernel
theorem d_Arrays_copyOf_1_14 : decode (mb M_Arrays_copyOf_1) 14 = .ok (.invokevirtual 90, 3) := by decide +kernel
theorem d_Arrays_copyOf_1_17 : decode (mb M_Arrays_copyOf_1) 17 = .ok (.iload_n 1, 1) := by decide +kernel
theorem d_Arrays_copyOf_1_18 : decode (mb M_Arrays_copyOf_1) 18 = .ok (.invokestatic 95, 3) := by decide +kernel
theorem d_Arrays_copyOf_1_21 : decode (mb M_Arrays_copyOf_1) 21 = .ok (.checkcast 110, 3) := by decide +kernel
theorem d_Arrays_copyOf_1_24 : decode (mb M_Arrays_copyOf_1) 24 = .ok (.astore_n 3, 1) := by decide +kernel
theorem d_Arrays_copyOf_1_25 : decode (mb M_Arrays_copyOf_1) 25 = .ok (.aload_n 0, 1) := by decide +kernel
theorem d_Arrays_copyOf_1_26 : decode (mb M_Arrays_copyOf_1) 26 = .ok (.iconst 0, 1) := by decide +kernel
theorem d_Arrays_copyOf_1_27 : decode (mb M_Arrays_copyOf_1) 27 = .ok (.aload_n 3, 1) := by decide +kernel
theorem d_Arrays_copyOf_1_28 : decode (mb M_Arrays_copyOf_1) 28 = .ok (.iconst 0, 1) := by decide +kernel
theorem d_Arrays_copyOf_1_29 : decode (mb M_Arrays_copyOf_1) 29 = .ok (.aload_n 0, 1) := by decide +kernel
theorem d_Arrays_copyOf_1_30 : decode (mb M_Arrays_copyOf_1) 30 = .ok (.arraylength, 1) := by decide +kernel
theorem d_Arrays_copyOf_1_31 : decode (mb M_Arrays_copyOf_1) 31 = .ok (.iload_n 1, 1) := by decide +kernel
theorem d_Arrays_copyOf_1_32 : decode (mb M_Arrays_copyOf_1) 32 = .ok (.invokestatic 304, 3) := by decide +kernel
theorem d_Arrays_copyOf_1_35 : decode (mb M_Arrays_copyOf_1) 35 = .ok (.invokestatic 150, 3) := by decide +kernel
theorem d_Arrays_copyOf_1_38 : decode (mb M_Arrays_copyOf_1) 38 = .ok (.aload_n 3, 1) := by decide +kernel
theorem d_Arrays_copyOf_1_39 : decode (mb M_Arrays_copyOf_1) 39 = .ok (.areturn, 1) := by decide +kernel
theorem d_Objects_checkIndex_0 : decode (mb M_Objects_checkIndex) 0 = .ok (.iload_n 0, 1) := by decide +kernel
theorem d_Objects_checkIndex_1 : decode (mb M_Objects_checkIndex) 1 = .ok (.iload_n 1, 1) := by decide +kernel
theorem d_Objects_checkIndex_2 : decode (mb M_Objects_checkIndex) 2 = .ok (.aconst_null, 1) := by decide +kernel
theorem d_Objects_checkIndex_3 : decode (mb M_Objects_checkIndex) 3 = .ok (.invokestatic 105, 3) := by decide +kernel
theorem d_Objects_checkIndex_6 : decode (mb M_Objects_checkIndex) 6 = .ok (.ireturn, 1) := by decide +kernel
theorem d_ArraysSupport_hugeLength_0 : decode (mb M_ArraysSupport_hugeLength) 0 = .ok (.iload_n 0, 1) := by decide +kernel
theorem d_ArraysSupport_hugeLength_1 : decode (mb M_ArraysSupport_hugeLength) 1 = .ok (.iload_n 1, 1) := by decide +kernel
theorem d_ArraysSupport_hugeLength_2 : decode (mb M_ArraysSupport_hugeLength) 2 = .ok (.iadd, 1) := by decide +kernel
theorem d_ArraysSupport_hugeLength_3 : decode (mb M_ArraysSupport_hugeLength) 3 = .ok (.istore_n 2, 1) := by decide +kernel
theorem d_ArraysSupport_hugeLength_4 : decode (mb M_ArraysSupport_hugeLength) 4 = .ok (.iload_n 2, 1) := by decide +kernel
theorem d_ArraysSupport_hugeLength_5 : decode (mb M_ArraysSupport_hugeLength) 5 = .ok (.ifCond .ge 44, 3) := by decide +kernel
theorem d_ArraysSupport_hugeLength_8 : decode (mb M_ArraysSupport_hugeLength) 8 = .ok (.new 204, 3) := by decide +kernel
theorem d_ArraysSupport_hugeLength_11 : decode (mb M_ArraysSupport_hugeLength) 11 = .ok (.dup, 1) := by decide +kernel
theorem d_ArraysSupport_hugeLength_12 : decode (mb M_ArraysSupport_hugeLength) 12 = .ok (.new 89, 3) := by decide +kernel
theorem d_ArraysSupport_hugeLength_15 : decode (mb M_ArraysSupport_hugeLength) 15 = .ok (.dup, 1) := by decide +kernel
theorem d_ArraysSupport_hugeLength_16 : decode (mb M_ArraysSupport_hugeLength) 16 = .ok (.invokespecial 91, 3) := by decide +kernel
theorem d_ArraysSupport_hugeLength_19 : decode (mb M_ArraysSupport_hugeLength) 19 = .ok (.ldc 206, 2) := by decide +kernel
theorem d_ArraysSupport_hugeLength_21 : decode (mb M_ArraysSupport_hugeLength) 21 = .ok (.invokevirtual 94, 3) := by decide +kernel
theorem d_ArraysSupport_hugeLength_24 : decode (mb M_ArraysSupport_hugeLength) 24 = .ok (.iload_n 0, 1) := by decide +kernel
theorem d_ArraysSupport_hugeLength_25 : decode (mb M_ArraysSupport_hugeLength) 25 = .ok (.invokevirtual 98, 3) := by decide +kernel
theorem d_ArraysSupport_hugeLength_28 : decode (mb M_ArraysSupport_hugeLength) 28 = .ok (.ldc 208, 2) := by decide +kernel
theorem d_ArraysSupport_hugeLength_30 : decode (mb M_ArraysSupport_hugeLength) 30 = .ok (.invokevirtual 94, 3) := by decide +kernel
theorem d_ArraysSupport_hugeLength_33 : decode (mb M_ArraysSupport_hugeLength) 33 = .ok (.iload_n 1, 1) := by decide +kernel
theorem d_ArraysSupport_hugeLength_34 : decode (mb M_ArraysSupport_hugeLength) 34 = .ok (.invokevirtual 98, 3) := by decide +kernel
theorem d_ArraysSupport_hugeLength_37 : decode (mb M_ArraysSupport_hugeLength) 37 = .ok (.ldc 210, 2) := by decide +kernel
theorem d_ArraysSupport_hugeLength_39 : decode (mb M_ArraysSupport_hugeLength) 39 = .ok (.invokevirtual 94, 3) := by decide +kernel
theorem d_ArraysSupport_hugeLength_42 : decode (mb M_ArraysSupport_hugeLength) 42 = .ok (.invokevirtual 101, 3) := by decide +kernel
theorem d_ArraysSupport_hugeLength_45 : decode (mb M_ArraysSupport_hugeLength) 45 = .ok (.invokespecial 212, 3) := by decide +kernel
theorem d_ArraysSupport_hugeLength_48 : decode (mb M_ArraysSupport_hugeLength) 48 = .ok (.athrow, 1) := by decide +kernel
theorem d_ArraysSupport_hugeLength_49 : decode (mb M_ArraysSupport_hugeLength) 49 = .ok (.iload_n 2, 1) := by decide +kernel
theorem d_ArraysSupport_hugeLength_50 : decode (mb M_ArraysSupport_hugeLength) 50 = .ok (.ldc 200, 2) := by decide +kernel
theorem d_ArraysSupport_hugeLength_52 : decode (mb M_ArraysSupport_hugeLength) 52 = .ok (.if_icmp .gt 6, 3) := by decide +kernel
theorem d_ArraysSupport_hugeLength_55 : decode (mb M_ArraysSupport_hugeLength) 55 = .ok (.ldc 200, 2) := by decide +kernel
theorem d_ArraysSupport_hugeLength_57 : decode (mb M_ArraysSupport_hugeLength) 57 = .ok (.ireturn, 1) := by decide +kernel
theorem d_ArraysSupport_hugeLength_58 : decode (mb M_ArraysSupport_hugeLength) 58 = .ok (.iload_n 2, 1) := by decide +kernel
theorem d_ArraysSupport_hugeLength_59 : decode (mb M_ArraysSupport_hugeLength) 59 = .ok (.ireturn, 1) := by decide +kernel
theorem d_ArraysSupport_newLength_0 : decode (mb M_ArraysSupport_newLength) 0 = .ok (.iload_n 0, 1) := by decide +kernel
theorem d_ArraysSupport_newLength_1 : decode (mb M_ArraysSupport_newLength) 1 = .ok (.iload_n 1, 1) := by decide +kernel
theorem d_ArraysSupport_newLength_2 : decode (mb M_ArraysSupport_newLength) 2 = .ok (.iload_n 2, 1) := by decide +kernel
theorem d_ArraysSupport_newLength_3 : decode (mb M_ArraysSupport_newLength) 3 = .ok (.invokestatic 194, 3) := by decide +kernel
theorem d_ArraysSupport_newLength_6 : decode (mb M_ArraysSupport_newLength) 6 = .ok (.iadd, 1) := by decide +kernel
theorem d_ArraysSupport_newLength_7 : decode (mb M_ArraysSupport_newLength) 7 = .ok (.istore_n 3, 1) := by decide +kernel
theorem d_ArraysSupport_newLength_8 : decode (mb M_ArraysSupport_newLength) 8 = .ok (.iconst 0, 1) := by decide +kernel
theorem d_ArraysSupport_newLength_9 : decode (mb M_ArraysSupport_newLength) 9 = .ok (.iload_n 3, 1) := by decide +kernel
theorem d_ArraysSupport_newLength_10 : decode (mb M_ArraysSupport_newLength) 10 = .ok (.if_icmp .ge 11, 3) := by decide +kernel
theorem d_ArraysSupport_newLength_13 : decode (mb M_ArraysSupport_newLength) 13 = .ok (.iload_n 3, 1) := by decide +kernel
theorem d_ArraysSupport_newLength_14 : decode (mb M_ArraysSupport_newLength) 14 = .ok (.ldc 200, 2) := by decide +kernel
theorem d_ArraysSupport_newLength_16 : decode (mb M_ArraysSupport_newLength) 16 = .ok (.if_icmp .gt 5, 3) := by decide +kernel
theorem d_ArraysSupport_newLength_19 : decode (mb M_ArraysSupport_newLength) 19 = .ok (.iload_n 3, 1) := by decide +kernel
theorem d_ArraysSupport_newLength_20 : decode (mb M_ArraysSupport_newLength) 20 = .ok (.ireturn, 1) := by decide +kernel
theorem d_ArraysSupport_newLength_21 : decode (mb M_ArraysSupport_newLength) 21 = .ok (.iload_n 0, 1) := by decide +kernel
theorem d_ArraysSupport_newLength_22 : decode (mb M_ArraysSupport_newLength) 22 = .ok (.iload_n 1, 1) := by decide +kernel
theorem d_ArraysSupport_newLength_23 : decode (mb M_ArraysSupport_newLength) 23 = .ok (.invokestatic 201, 3) := by decide +kernel
theorem d_ArraysSupport_newLength_26 : decode (mb M_ArraysSupport_newLength) 26 = .ok (.ireturn, 1) := by decide +kernel
theorem d_Preconditions_checkIndex_0 : decode (mb M_Preconditions_checkIndex) 0 = .ok (.iload_n 0, 1) := by decide +kernel
theorem d_Preconditions_checkIndex_1 : decode (mb M_Preconditions_checkIndex) 1 = .ok (.ifCond .lt 8, 3) := by decide +kernel
theorem d_Preconditions_checkIndex_4 : decode (mb M_Preconditions_checkIndex) 4 = .ok (.iload_n 0, 1) := by decide +kernel
theorem d_Preconditions_checkIndex_5 : decode (mb M_Preconditions_checkIndex) 5 = .ok (.iload_n 1, 1) := by decide +kernel
theorem d_Preconditions_checkIndex_6 : decode (mb M_Preconditions_checkIndex) 6 = .ok (.if_icmp .lt 10, 3) := by decide +kernel
theorem d_Preconditions_checkIndex_9 : decode (mb M_Preconditions_checkIndex) 9 = .ok (.aload_n 2, 1) := by decide +kernel
theorem d_Preconditions_checkIndex_10 : decode (mb M_Preconditions_checkIndex) 10 = .ok (.iload_n 0, 1) := by decide +kernel
theorem d_Preconditions_checkIndex_11 : decode (mb M_Preconditions_checkIndex) 11 = .ok (.iload_n 1, 1) := by decide +kernel
theorem d_Preconditions_checkIndex_12 : decode (mb M_Preconditions_checkIndex) 12 = .ok (.invokestatic 95, 3) := by decide +kernel
theorem d_Preconditions_checkIndex_15 : decode (mb M_Preconditions_checkIndex) 15 = .ok (.athrow, 1) := by decide +kernel
theorem d_Preconditions_checkIndex_16 : decode (mb M_Preconditions_checkIndex) 16 = .ok (.iload_n 0, 1) := by decide +kernel
theorem d_Preconditions_checkIndex_17 : decode (mb M_Preconditions_checkIndex) 17 = .ok (.ireturn, 1) := by decide +kernel
