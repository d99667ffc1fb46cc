/-! what each instruction of the law's helpers is (by program) -/
abbrev M_Law_law : MI := (⟨"DiffWeaverLaw", "law", "([I)Z"⟩, "DiffWeaverLaw", code, 8, some .boolean, [])
theorem d_Law_base_0 : decode (mb M_Law_base) 0 = .ok (.aload_n 3, 1) := by decide +kernel
theorem d_Law_base_1 : decode (mb M_Law_base) 1 = .ok (.iconst 0, 1) := by decide +kernel
theorem d_Law_base_2 : decode (mb M_Law_base) 2 = .ok (.aload_n 0, 1) := by decide +kernel
theorem d_Law_base_3 : decode (mb M_Law_base) 3 = .ok (.iload_n 1, 1) := by decide +kernel
theorem d_Law_base_4 : decode (mb M_Law_base) 4 = .ok (.iload_n 2, 1) := by decide +kernel
theorem d_Law_base_5 : decode (mb M_Law_base) 5 = .ok (.invokevirtual 82, 3) := by decide +kernel
theorem d_Law_base_8 : decode (mb M_Law_base) 8 = .ok (.i2l, 1) := by decide +kernel
theorem d_Law_base_9 : decode (mb M_Law_base) 9 = .ok (.lastore, 1) := by decide +kernel
theorem d_Law_base_10 : decode (mb M_Law_base) 10 = .ok (.goto 7, 3) := by decide +kernel
theorem d_Law_base_13 : decode (mb M_Law_base) 13 = .ok (.astore 4, 2) := by decide +kernel
theorem d_Law_base_15 : decode (mb M_Law_base) 15 = .ok (.iconst 1, 1) := by decide +kernel
theorem d_Law_base_16 : decode (mb M_Law_base) 16 = .ok (.ireturn, 1) := by decide +kernel
theorem d_Law_base_17 : decode (mb M_Law_base) 17 = .ok (.iconst 0, 1) := by decide +kernel
theorem d_Law_base_18 : decode (mb M_Law_base) 18 = .ok (.ireturn, 1) := by decide +kernel
theorem d_Law_begin_0 : decode (mb M_Law_begin) 0 = .ok (.aload_n 3, 1) := by decide +kernel
theorem d_Law_begin_1 : decode (mb M_Law_begin) 1 = .ok (.iconst 0, 1) := by decide +kernel
theorem d_Law_begin_2 : decode (mb M_Law_begin) 2 = .ok (.aload_n 0, 1) := by decide +kernel
theorem d_Law_begin_3 : decode (mb M_Law_begin) 3 = .ok (.iload_n 1, 1) := by decide +kernel
theorem d_Law_begin_4 : decode (mb M_Law_begin) 4 = .ok (.iload_n 2, 1) := by decide +kernel
theorem d_Law_begin_5 : decode (mb M_Law_begin) 5 = .ok (.invokevirtual 7, 3) := by decide +kernel
theorem d_Law_begin_8 : decode (mb M_Law_begin) 8 = .ok (.i2l, 1) := by decide +kernel
theorem d_Law_begin_9 : decode (mb M_Law_begin) 9 = .ok (.lastore, 1) := by decide +kernel
theorem d_Law_begin_10 : decode (mb M_Law_begin) 10 = .ok (.goto 7, 3) := by decide +kernel
theorem d_Law_begin_13 : decode (mb M_Law_begin) 13 = .ok (.astore 4, 2) := by decide +kernel
theorem d_Law_begin_15 : decode (mb M_Law_begin) 15 = .ok (.iconst 1, 1) := by decide +kernel
theorem d_Law_begin_16 : decode (mb M_Law_begin) 16 = .ok (.ireturn, 1) := by decide +kernel
theorem d_Law_begin_17 : decode (mb M_Law_begin) 17 = .ok (.iconst 0, 1) := by decide +kernel
theorem d_Law_begin_18 : decode (mb M_Law_begin) 18 = .ok (.ireturn, 1) := by decide +kernel
theorem d_Law_blame_0 : decode (mb M_Law_blame) 0 = .ok (.aload_n 3, 1) := by decide +kernel
theorem d_Law_blame_1 : decode (mb M_Law_blame) 1 = .ok (.iconst 0, 1) := by decide +kernel
theorem d_Law_blame_2 : decode (mb M_Law_blame) 2 = .ok (.aload_n 0, 1) := by decide +kernel
theorem d_Law_blame_3 : decode (mb M_Law_blame) 3 = .ok (.iload_n 1, 1) := by decide +kernel
theorem d_Law_blame_4 : decode (mb M_Law_blame) 4 = .ok (.iload_n 2, 1) := by decide +kernel
theorem d_Law_blame_5 : decode (mb M_Law_blame) 5 = .ok (.invokevirtual 55, 3) := by decide +kernel
theorem d_Law_blame_8 : decode (mb M_Law_blame) 8 = .ok (.i2l, 1) := by decide +kernel
theorem d_Law_blame_9 : decode (mb M_Law_blame) 9 = .ok (.lastore, 1) := by decide +kernel
theorem d_Law_blame_10 : decode (mb M_Law_blame) 10 = .ok (.goto 7, 3) := by decide +kernel
theorem d_Law_blame_13 : decode (mb M_Law_blame) 13 = .ok (.astore 4, 2) := by decide +kernel
theorem d_Law_blame_15 : decode (mb M_Law_blame) 15 = .ok (.iconst 1, 1) := by decide +kernel
theorem d_Law_blame_16 : decode (mb M_Law_blame) 16 = .ok (.ireturn, 1) := by decide +kernel
theorem d_Law_blame_17 : decode (mb M_Law_blame) 17 = .ok (.iconst 0, 1) := by decide +kernel
theorem d_Law_blame_18 : decode (mb M_Law_blame) 18 = .ok (.ireturn, 1) := by decide +kernel
theorem d_Law_change_0 : decode (mb M_Law_change) 0 = .ok (.aload 4, 2) := by decide +kernel
theorem d_Law_change_2 : decode (mb M_Law_change) 2 = .ok (.iconst 0, 1) := by decide +kernel
theorem d_Law_change_3 : decode (mb M_Law_change) 3 = .ok (.aload_n 0, 1) := by decide +kernel
theorem d_Law_change_4 : decode (mb M_Law_change) 4 = .ok (.iload_n 1, 1) := by decide +kernel
theorem d_Law_change_5 : decode (mb M_Law_change) 5 = .ok (.lload_n 2, 1) := by decide +kernel
theorem d_Law_change_6 : decode (mb M_Law_change) 6 = .ok (.invokevirtual 27, 3) := by decide +kernel
theorem d_Law_change_9 : decode (mb M_Law_change) 9 = .ok (.i2l, 1) := by decide +kernel
theorem d_Law_change_10 : decode (mb M_Law_change) 10 = .ok (.lastore, 1) := by decide +kernel
theorem d_Law_change_11 : decode (mb M_Law_change) 11 = .ok (.goto 15, 3) := by decide +kernel
theorem d_Law_change_14 : decode (mb M_Law_change) 14 = .ok (.astore 5, 2) := by decide +kernel
theorem d_Law_change_16 : decode (mb M_Law_change) 16 = .ok (.iconst 1, 1) := by decide +kernel
theorem d_Law_change_17 : decode (mb M_Law_change) 17 = .ok (.ireturn, 1) := by decide +kernel
theorem d_Law_change_18 : decode (mb M_Law_change) 18 = .ok (.astore 5, 2) := by decide +kernel
theorem d_Law_change_20 : decode (mb M_Law_change) 20 = .ok (.iconst 2, 1) := by decide +kernel
theorem d_Law_change_21 : decode (mb M_Law_change) 21 = .ok (.ireturn, 1) := by decide +kernel
theorem d_Law_change_22 : decode (mb M_Law_change) 22 = .ok (.astore 5, 2) := by decide +kernel
theorem d_Law_change_24 : decode (mb M_Law_change) 24 = .ok (.iconst 3, 1) := by decide +kernel
theorem d_Law_change_25 : decode (mb M_Law_change) 25 = .ok (.ireturn, 1) := by decide +kernel
theorem d_Law_change_26 : decode (mb M_Law_change) 26 = .ok (.iconst 0, 1) := by decide +kernel
theorem d_Law_change_27 : decode (mb M_Law_change) 27 = .ok (.ireturn, 1) := by decide +kernel
theorem d_Law_commit_0 : decode (mb M_Law_commit) 0 = .ok (.aload_n 1, 1) := by decide +kernel
theorem d_Law_commit_1 : decode (mb M_Law_commit) 1 = .ok (.iconst 0, 1) := by decide +kernel
theorem d_Law_commit_2 : decode (mb M_Law_commit) 2 = .ok (.aload_n 0, 1) := by decide +kernel
theorem d_Law_commit_3 : decode (mb M_Law_commit) 3 = .ok (.invokevirtual 38, 3) := by decide +kernel
theorem d_Law_commit_6 : decode (mb M_Law_commit) 6 = .ok (.i2l, 1) := by decide +kernel
theorem d_Law_commit_7 : decode (mb M_Law_commit) 7 = .ok (.lastore, 1) := by decide +kernel
theorem d_Law_commit_8 : decode (mb M_Law_commit) 8 = .ok (.goto 6, 3) := by decide +kernel
theorem d_Law_commit_11 : decode (mb M_Law_commit) 11 = .ok (.astore_n 2, 1) := by decide +kernel
theorem d_Law_commit_12 : decode (mb M_Law_commit) 12 = .ok (.iconst 1, 1) := by decide +kernel
theorem d_Law_commit_13 : decode (mb M_Law_commit) 13 = .ok (.ireturn, 1) := by decide +kernel
theorem d_Law_commit_14 : decode (mb M_Law_commit) 14 = .ok (.iconst 0, 1) := by decide +kernel
theorem d_Law_commit_15 : decode (mb M_Law_commit) 15 = .ok (.ireturn, 1) := by decide +kernel
theorem d_Law_compare_0 : decode (mb M_Law_compare) 0 = .ok (.aload 4, 2) := by decide +kernel
theorem d_Law_compare_2 : decode (mb M_Law_compare) 2 = .ok (.iconst 0, 1) := by decide +kernel
theorem d_Law_compare_3 : decode (mb M_Law_compare) 3 = .ok (.aload_n 0, 1) := by decide +kernel
theorem d_Law_compare_4 : decode (mb M_Law_compare) 4 = .ok (.iload_n 1, 1) := by decide +kernel
theorem d_Law_compare_5 : decode (mb M_Law_compare) 5 = .ok (.iload_n 2, 1) := by decide +kernel
theorem d_Law_compare_6 : decode (mb M_Law_compare) 6 = .ok (.iload_n 3, 1) := by decide +kernel
theorem d_Law_compare_7 : decode (mb M_Law_compare) 7 = .ok (.invokevirtual 65, 3) := by decide +kernel
theorem d_Law_compare_10 : decode (mb M_Law_compare) 10 = .ok (.i2l, 1) := by decide +kernel
theorem d_Law_compare_11 : decode (mb M_Law_compare) 11 = .ok (.lastore, 1) := by decide +kernel
theorem d_Law_compare_12 : decode (mb M_Law_compare) 12 = .ok (.goto 7, 3) := by decide +kernel
theorem d_Law_compare_15 : decode (mb M_Law_compare) 15 = .ok (.astore 5, 2) := by decide +kernel
theorem d_Law_compare_17 : decode (mb M_Law_compare) 17 = .ok (.iconst 1, 1) := by decide +kernel
theorem d_Law_compare_18 : decode (mb M_Law_compare) 18 = .ok (.ireturn, 1) := by decide +kernel
theorem d_Law_compare_19 : decode (mb M_Law_compare) 19 = .ok (.iconst 0, 1) := by decide +kernel
theorem d_Law_compare_20 : decode (mb M_Law_compare) 20 = .ok (.ireturn, 1) := by decide +kernel
theorem d_Law_draftLine_0 : decode (mb M_Law_draftLine) 0 = .ok (.aload_n 2, 1) := by decide +kernel
theorem d_Law_draftLine_1 : decode (mb M_Law_draftLine) 1 = .ok (.iconst 0, 1) := by decide +kernel
theorem d_Law_draftLine_2 : decode (mb M_Law_draftLine) 2 = .ok (.aload_n 0, 1) := by decide +kernel
theorem d_Law_draftLine_3 : decode (mb M_Law_draftLine) 3 = .ok (.iload_n 1, 1) := by decide +kernel
theorem d_Law_draftLine_4 : decode (mb M_Law_draftLine) 4 = .ok (.invokevirtual 41, 3) := by decide +kernel
theorem d_Law_draftLine_7 : decode (mb M_Law_draftLine) 7 = .ok (.lastore, 1) := by decide +kernel
theorem d_Law_draftLine_8 : decode (mb M_Law_draftLine) 8 = .ok (.goto 6, 3) := by decide +kernel
theorem d_Law_draftLine_11 : decode (mb M_Law_draftLine) 11 = .ok (.astore_n 3, 1) := by decide +kernel
theorem d_Law_draftLine_12 : decode (mb M_Law_draftLine) 12 = .ok (.iconst 1, 1) := by decide +kernel
theorem d_Law_draftLine_13 : decode (mb M_Law_draftLine) 13 = .ok (.ireturn, 1) := by decide +kernel
theorem d_Law_draftLine_14 : decode (mb M_Law_draftLine) 14 = .ok (.iconst 0, 1) := by decide +kernel
theorem d_Law_draftLine_15 : decode (mb M_Law_draftLine) 15 = .ok (.ireturn, 1) := by decide +kernel
theorem d_Law_hunk_0 : decode (mb M_Law_hunk) 0 = .ok (.aload 4, 2) := by decide +kernel
theorem d_Law_hunk_2 : decode (mb M_Law_hunk) 2 = .ok (.iconst 0, 1) := by decide +kernel
theorem d_Law_hunk_3 : decode (mb M_Law_hunk) 3 = .ok (.aload_n 0, 1) := by decide +kernel
theorem d_Law_hunk_4 : decode (mb M_Law_hunk) 4 = .ok (.iload_n 1, 1) := by decide +kernel
theorem d_Law_hunk_5 : decode (mb M_Law_hunk) 5 = .ok (.iload_n 2, 1) := by decide +kernel
theorem d_Law_hunk_6 : decode (mb M_Law_hunk) 6 = .ok (.iload_n 3, 1) := by decide +kernel
theorem d_Law_hunk_7 : decode (mb M_Law_hunk) 7 = .ok (.invokevirtual 101, 3) := by decide +kernel
theorem d_Law_hunk_10 : decode (mb M_Law_hunk) 10 = .ok (.i2l, 1) := by decide +kernel
theorem d_Law_hunk_11 : decode (mb M_Law_hunk) 11 = .ok (.lastore, 1) := by decide +kernel
theorem d_Law_hunk_12 : decode (mb M_Law_hunk) 12 = .ok (.goto 11, 3) := by decide +kernel
theorem d_Law_hunk_15 : decode (mb M_Law_hunk) 15 = .ok (.astore 5, 2) := by decide +kernel
theorem d_Law_hunk_17 : decode (mb M_Law_hunk) 17 = .ok (.iconst 1, 1) := by decide +kernel
theorem d_Law_hunk_18 : decode (mb M_Law_hunk) 18 = .ok (.ireturn, 1) := by decide +kernel
theorem d_Law_hunk_19 : decode (mb M_Law_hunk) 19 = .ok (.astore 5, 2) := by decide +kernel
theorem d_Law_hunk_21 : decode (mb M_Law_hunk) 21 = .ok (.iconst 2, 1) := by decide +kernel
theorem d_Law_hunk_22 : decode (mb M_Law_hunk) 22 = .ok (.ireturn, 1) := by decide +kernel
theorem d_Law_hunk_23 : decode (mb M_Law_hunk) 23 = .ok (.iconst 0, 1) := by decide +kernel
theorem d_Law_hunk_24 : decode (mb M_Law_hunk) 24 = .ok (.ireturn, 1) := by decide +kernel
theorem d_Law_insert_0 : decode (mb M_Law_insert) 0 = .ok (.aload 4, 2) := by decide +kernel
theorem d_Law_insert_2 : decode (mb M_Law_insert) 2 = .ok (.iconst 0, 1) := by decide +kernel
theorem d_Law_insert_3 : decode (mb M_Law_insert) 3 = .ok (.aload_n 0, 1) := by decide +kernel
theorem d_Law_insert_4 : decode (mb M_Law_insert) 4 = .ok (.iload_n 1, 1) := by decide +kernel
theorem d_Law_insert_5 : decode (mb M_Law_insert) 5 = .ok (.lload_n 2, 1) := by decide +kernel
theorem d_Law_insert_6 : decode (mb M_Law_insert) 6 = .ok (.invokevirtual 15, 3) := by decide +kernel
theorem d_Law_insert_9 : decode (mb M_Law_insert) 9 = .ok (.i2l, 1) := by decide +kernel
theorem d_Law_insert_10 : decode (mb M_Law_insert) 10 = .ok (.lastore, 1) := by decide +kernel
theorem d_Law_insert_11 : decode (mb M_Law_insert) 11 = .ok (.goto 15, 3) := by decide +kernel
theorem d_Law_insert_14 : decode (mb M_Law_insert) 14 = .ok (.astore 5, 2) := by decide +kernel
theorem d_Law_insert_16 : decode (mb M_Law_insert) 16 = .ok (.iconst 1, 1) := by decide +kernel
theorem d_Law_insert_17 : decode (mb M_Law_insert) 17 = .ok (.ireturn, 1) := by decide +kernel
theorem d_Law_insert_18 : decode (mb M_Law_insert) 18 = .ok (.astore 5, 2) := by decide +kernel
theorem d_Law_insert_20 : decode (mb M_Law_insert) 20 = .ok (.iconst 2, 1) := by decide +kernel
theorem d_Law_insert_21 : decode (mb M_Law_insert) 21 = .ok (.ireturn, 1) := by decide +kernel
theorem d_Law_insert_22 : decode (mb M_Law_insert) 22 = .ok (.astore 5, 2) := by decide +kernel
theorem d_Law_insert_24 : decode (mb M_Law_insert) 24 = .ok (.iconst 3, 1) := by decide +kernel
theorem d_Law_insert_25 : decode (mb M_Law_insert) 25 = .ok (.ireturn, 1) := by decide +kernel
theorem d_Law_insert_26 : decode (mb M_Law_insert) 26 = .ok (.iconst 0, 1) := by decide +kernel
theorem d_Law_insert_27 : decode (mb M_Law_insert) 27 = .ok (.ireturn, 1) := by decide +kernel
theorem d_Law_isAbove_0 : decode (mb M_Law_isAbove) 0 = .ok (.aload_n 3, 1) := by decide +kernel
theorem d_Law_isAbove_1 : decode (mb M_Law_isAbove) 1 = .ok (.iconst 0, 1) := by decide +kernel
theorem d_Law_isAbove_2 : decode (mb M_Law_isAbove) 2 = .ok (.aload_n 0, 1) := by decide +kernel
theorem d_Law_isAbove_3 : decode (mb M_Law_isAbove) 3 = .ok (.iload_n 1, 1) := by decide +kernel
theorem d_Law_isAbove_4 : decode (mb M_Law_isAbove) 4 = .ok (.iload_n 2, 1) := by decide +kernel
theorem d_Law_isAbove_5 : decode (mb M_Law_isAbove) 5 = .ok (.invokevirtual 61, 3) := by decide +kernel
theorem d_Law_isAbove_8 : decode (mb M_Law_isAbove) 8 = .ok (.ifCond .eq 7, 3) := by decide +kernel
theorem d_Law_isAbove_11 : decode (mb M_Law_isAbove) 11 = .ok (.lconst 1, 1) := by decide +kernel
theorem d_Law_isAbove_12 : decode (mb M_Law_isAbove) 12 = .ok (.goto 4, 3) := by decide +kernel
theorem d_Law_isAbove_15 : decode (mb M_Law_isAbove) 15 = .ok (.lconst 0, 1) := by decide +kernel
theorem d_Law_isAbove_16 : decode (mb M_Law_isAbove) 16 = .ok (.lastore, 1) := by decide +kernel
theorem d_Law_isAbove_17 : decode (mb M_Law_isAbove) 17 = .ok (.goto 7, 3) := by decide +kernel
theorem d_Law_isAbove_20 : decode (mb M_Law_isAbove) 20 = .ok (.astore 4, 2) := by decide +kernel
theorem d_Law_isAbove_22 : decode (mb M_Law_isAbove) 22 = .ok (.iconst 1, 1) := by decide +kernel
theorem d_Law_isAbove_23 : decode (mb M_Law_isAbove) 23 = .ok (.ireturn, 1) := by decide +kernel
theorem d_Law_isAbove_24 : decode (mb M_Law_isAbove) 24 = .ok (.iconst 0, 1) := by decide +kernel
theorem d_Law_isAbove_25 : decode (mb M_Law_isAbove) 25 = .ok (.ireturn, 1) := by decide +kernel
theorem d_Law_land_0 : decode (mb M_Law_land) 0 = .ok (.aload_n 2, 1) := by decide +kernel
theorem d_Law_land_1 : decode (mb M_Law_land) 1 = .ok (.iconst 0, 1) := by decide +kernel
theorem d_Law_land_2 : decode (mb M_Law_land) 2 = .ok (.aload_n 0, 1) := by decide +kernel
theorem d_Law_land_3 : decode (mb M_Law_land) 3 = .ok (.iload_n 1, 1) := by decide +kernel
theorem d_Law_land_4 : decode (mb M_Law_land) 4 = .ok (.invokevirtual 122, 3) := by decide +kernel
theorem d_Law_land_7 : decode (mb M_Law_land) 7 = .ok (.i2l, 1) := by decide +kernel
theorem d_Law_land_8 : decode (mb M_Law_land) 8 = .ok (.lastore, 1) := by decide +kernel
theorem d_Law_land_9 : decode (mb M_Law_land) 9 = .ok (.goto 9, 3) := by decide +kernel
theorem d_Law_land_12 : decode (mb M_Law_land) 12 = .ok (.astore_n 3, 1) := by decide +kernel
theorem d_Law_land_13 : decode (mb M_Law_land) 13 = .ok (.iconst 1, 1) := by decide +kernel
theorem d_Law_land_14 : decode (mb M_Law_land) 14 = .ok (.ireturn, 1) := by decide +kernel
theorem d_Law_land_15 : decode (mb M_Law_land) 15 = .ok (.astore_n 3, 1) := by decide +kernel
theorem d_Law_land_16 : decode (mb M_Law_land) 16 = .ok (.iconst 2, 1) := by decide +kernel
theorem d_Law_land_17 : decode (mb M_Law_land) 17 = .ok (.ireturn, 1) := by decide +kernel
theorem d_Law_land_18 : decode (mb M_Law_land) 18 = .ok (.iconst 0, 1) := by decide +kernel
theorem d_Law_land_19 : decode (mb M_Law_land) 19 = .ok (.ireturn, 1) := by decide +kernel
theorem d_Law_lay_0 : decode (mb M_Law_lay) 0 = .ok (.aload_n 3, 1) := by decide +kernel
theorem d_Law_lay_1 : decode (mb M_Law_lay) 1 = .ok (.iconst 0, 1) := by decide +kernel
theorem d_Law_lay_2 : decode (mb M_Law_lay) 2 = .ok (.aload_n 0, 1) := by decide +kernel
theorem d_Law_lay_3 : decode (mb M_Law_lay) 3 = .ok (.iload_n 1, 1) := by decide +kernel
theorem d_Law_lay_4 : decode (mb M_Law_lay) 4 = .ok (.iload_n 2, 1) := by decide +kernel
theorem d_Law_lay_5 : decode (mb M_Law_lay) 5 = .ok (.invokevirtual 104, 3) := by decide +kernel
theorem d_Law_lay_8 : decode (mb M_Law_lay) 8 = .ok (.i2l, 1) := by decide +kernel
theorem d_Law_lay_9 : decode (mb M_Law_lay) 9 = .ok (.lastore, 1) := by decide +kernel
theorem d_Law_lay_10 : decode (mb M_Law_lay) 10 = .ok (.goto 15, 3) := by decide +kernel
theorem d_Law_lay_13 : decode (mb M_Law_lay) 13 = .ok (.astore 4, 2) := by decide +kernel
theorem d_Law_lay_15 : decode (mb M_Law_lay) 15 = .ok (.iconst 1, 1) := by decide +kernel
theorem d_Law_lay_16 : decode (mb M_Law_lay) 16 = .ok (.ireturn, 1) := by decide +kernel
theorem d_Law_lay_17 : decode (mb M_Law_lay) 17 = .ok (.astore 4, 2) := by decide +kernel
theorem d_Law_lay_19 : decode (mb M_Law_lay) 19 = .ok (.iconst 2, 1) := by decide +kernel
theorem d_Law_lay_20 : decode (mb M_Law_lay) 20 = .ok (.ireturn, 1) := by decide +kernel
theorem d_Law_lay_21 : decode (mb M_Law_lay) 21 = .ok (.astore 4, 2) := by decide +kernel
theorem d_Law_lay_23 : decode (mb M_Law_lay) 23 = .ok (.iconst 3, 1) := by decide +kernel
theorem d_Law_lay_24 : decode (mb M_Law_lay) 24 = .ok (.ireturn, 1) := by decide +kernel
theorem d_Law_lay_25 : decode (mb M_Law_lay) 25 = .ok (.iconst 0, 1) := by decide +kernel
theorem d_Law_lay_26 : decode (mb M_Law_lay) 26 = .ok (.ireturn, 1) := by decide +kernel
theorem d_Law_likeness_0 : decode (mb M_Law_likeness) 0 = .ok (.aload 5, 2) := by decide +kernel
theorem d_Law_likeness_2 : decode (mb M_Law_likeness) 2 = .ok (.iconst 0, 1) := by decide +kernel
theorem d_Law_likeness_3 : decode (mb M_Law_likeness) 3 = .ok (.aload_n 0, 1) := by decide +kernel
theorem d_Law_likeness_4 : decode (mb M_Law_likeness) 4 = .ok (.lload_n 1, 1) := by decide +kernel
theorem d_Law_likeness_5 : decode (mb M_Law_likeness) 5 = .ok (.lload_n 3, 1) := by decide +kernel
theorem d_Law_likeness_6 : decode (mb M_Law_likeness) 6 = .ok (.invokevirtual 75, 3) := by decide +kernel
theorem d_Law_likeness_9 : decode (mb M_Law_likeness) 9 = .ok (.i2l, 1) := by decide +kernel
theorem d_Law_likeness_10 : decode (mb M_Law_likeness) 10 = .ok (.lastore, 1) := by decide +kernel
theorem d_Law_likeness_11 : decode (mb M_Law_likeness) 11 = .ok (.goto 7, 3) := by decide +kernel
theorem d_Law_likeness_14 : decode (mb M_Law_likeness) 14 = .ok (.astore 6, 2) := by decide +kernel
theorem d_Law_likeness_16 : decode (mb M_Law_likeness) 16 = .ok (.iconst 1, 1) := by decide +kernel
theorem d_Law_likeness_17 : decode (mb M_Law_likeness) 17 = .ok (.ireturn, 1) := by decide +kernel
theorem d_Law_likeness_18 : decode (mb M_Law_likeness) 18 = .ok (.iconst 0, 1) := by decide +kernel
theorem d_Law_likeness_19 : decode (mb M_Law_likeness) 19 = .ok (.ireturn, 1) := by decide +kernel
theorem d_Law_lineAnew_0 : decode (mb M_Law_lineAnew) 0 = .ok (.aload_n 3, 1) := by decide +kernel
theorem d_Law_lineAnew_1 : decode (mb M_Law_lineAnew) 1 = .ok (.iconst 0, 1) := by decide +kernel
theorem d_Law_lineAnew_2 : decode (mb M_Law_lineAnew) 2 = .ok (.aload_n 0, 1) := by decide +kernel
theorem d_Law_lineAnew_3 : decode (mb M_Law_lineAnew) 3 = .ok (.iload_n 1, 1) := by decide +kernel
theorem d_Law_lineAnew_4 : decode (mb M_Law_lineAnew) 4 = .ok (.iload_n 2, 1) := by decide +kernel
theorem d_Law_lineAnew_5 : decode (mb M_Law_lineAnew) 5 = .ok (.invokevirtual 52, 3) := by decide +kernel
theorem d_Law_lineAnew_8 : decode (mb M_Law_lineAnew) 8 = .ok (.lastore, 1) := by decide +kernel
theorem d_Law_lineAnew_9 : decode (mb M_Law_lineAnew) 9 = .ok (.goto 7, 3) := by decide +kernel
theorem d_Law_lineAnew_12 : decode (mb M_Law_lineAnew) 12 = .ok (.astore 4, 2) := by decide +kernel
theorem d_Law_lineAnew_14 : decode (mb M_Law_lineAnew) 14 = .ok (.iconst 1, 1) := by decide +kernel
theorem d_Law_lineAnew_15 : decode (mb M_Law_lineAnew) 15 = .ok (.ireturn, 1) := by decide +kernel
theorem d_Law_lineAnew_16 : decode (mb M_Law_lineAnew) 16 = .ok (.iconst 0, 1) := by decide +kernel
theorem d_Law_lineAnew_17 : decode (mb M_Law_lineAnew) 17 = .ok (.ireturn, 1) := by decide +kernel
theorem d_Law_lineOf_0 : decode (mb M_Law_lineOf) 0 = .ok (.aload_n 3, 1) := by decide +kernel
theorem d_Law_lineOf_1 : decode (mb M_Law_lineOf) 1 = .ok (.iconst 0, 1) := by decide +kernel
theorem d_Law_lineOf_2 : decode (mb M_Law_lineOf) 2 = .ok (.aload_n 0, 1) := by decide +kernel
theorem d_Law_lineOf_3 : decode (mb M_Law_lineOf) 3 = .ok (.iload_n 1, 1) := by decide +kernel
theorem d_Law_lineOf_4 : decode (mb M_Law_lineOf) 4 = .ok (.iload_n 2, 1) := by decide +kernel
theorem d_Law_lineOf_5 : decode (mb M_Law_lineOf) 5 = .ok (.invokevirtual 48, 3) := by decide +kernel
theorem d_Law_lineOf_8 : decode (mb M_Law_lineOf) 8 = .ok (.lastore, 1) := by decide +kernel
theorem d_Law_lineOf_9 : decode (mb M_Law_lineOf) 9 = .ok (.goto 7, 3) := by decide +kernel
theorem d_Law_lineOf_12 : decode (mb M_Law_lineOf) 12 = .ok (.astore 4, 2) := by decide +kernel
theorem d_Law_lineOf_14 : decode (mb M_Law_lineOf) 14 = .ok (.iconst 1, 1) := by decide +kernel
theorem d_Law_lineOf_15 : decode (mb M_Law_lineOf) 15 = .ok (.ireturn, 1) := by decide +kernel
theorem d_Law_lineOf_16 : decode (mb M_Law_lineOf) 16 = .ok (.iconst 0, 1) := by decide +kernel
theorem d_Law_lineOf_17 : decode (mb M_Law_lineOf) 17 = .ok (.ireturn, 1) := by decide +kernel
theorem d_Law_lines_0 : decode (mb M_Law_lines) 0 = .ok (.aload_n 2, 1) := by decide +kernel
theorem d_Law_lines_1 : decode (mb M_Law_lines) 1 = .ok (.iconst 0, 1) := by decide +kernel
theorem d_Law_lines_2 : decode (mb M_Law_lines) 2 = .ok (.aload_n 0, 1) := by decide +kernel
theorem d_Law_lines_3 : decode (mb M_Law_lines) 3 = .ok (.iload_n 1, 1) := by decide +kernel
theorem d_Law_lines_4 : decode (mb M_Law_lines) 4 = .ok (.invokevirtual 45, 3) := by decide +kernel
theorem d_Law_lines_7 : decode (mb M_Law_lines) 7 = .ok (.i2l, 1) := by decide +kernel
theorem d_Law_lines_8 : decode (mb M_Law_lines) 8 = .ok (.lastore, 1) := by decide +kernel
theorem d_Law_lines_9 : decode (mb M_Law_lines) 9 = .ok (.goto 6, 3) := by decide +kernel
theorem d_Law_lines_12 : decode (mb M_Law_lines) 12 = .ok (.astore_n 3, 1) := by decide +kernel
theorem d_Law_lines_13 : decode (mb M_Law_lines) 13 = .ok (.iconst 1, 1) := by decide +kernel
theorem d_Law_lines_14 : decode (mb M_Law_lines) 14 = .ok (.ireturn, 1) := by decide +kernel
theorem d_Law_lines_15 : decode (mb M_Law_lines) 15 = .ok (.iconst 0, 1) := by decide +kernel
theorem d_Law_lines_16 : decode (mb M_Law_lines) 16 = .ok (.ireturn, 1) := by decide +kernel
theorem d_Law_merge_0 : decode (mb M_Law_merge) 0 = .ok (.aload 4, 2) := by decide +kernel
theorem d_Law_merge_2 : decode (mb M_Law_merge) 2 = .ok (.iconst 0, 1) := by decide +kernel
theorem d_Law_merge_3 : decode (mb M_Law_merge) 3 = .ok (.aload_n 0, 1) := by decide +kernel
theorem d_Law_merge_4 : decode (mb M_Law_merge) 4 = .ok (.iload_n 1, 1) := by decide +kernel
theorem d_Law_merge_5 : decode (mb M_Law_merge) 5 = .ok (.iload_n 2, 1) := by decide +kernel
theorem d_Law_merge_6 : decode (mb M_Law_merge) 6 = .ok (.iload_n 3, 1) := by decide +kernel
theorem d_Law_merge_7 : decode (mb M_Law_merge) 7 = .ok (.invokevirtual 85, 3) := by decide +kernel
theorem d_Law_merge_10 : decode (mb M_Law_merge) 10 = .ok (.i2l, 1) := by decide +kernel
theorem d_Law_merge_11 : decode (mb M_Law_merge) 11 = .ok (.lastore, 1) := by decide +kernel
theorem d_Law_merge_12 : decode (mb M_Law_merge) 12 = .ok (.goto 15, 3) := by decide +kernel
theorem d_Law_merge_15 : decode (mb M_Law_merge) 15 = .ok (.astore 5, 2) := by decide +kernel
theorem d_Law_merge_17 : decode (mb M_Law_merge) 17 = .ok (.iconst 1, 1) := by decide +kernel
theorem d_Law_merge_18 : decode (mb M_Law_merge) 18 = .ok (.ireturn, 1) := by decide +kernel
theorem d_Law_merge_19 : decode (mb M_Law_merge) 19 = .ok (.astore 5, 2) := by decide +kernel
theorem d_Law_merge_21 : decode (mb M_Law_merge) 21 = .ok (.iconst 2, 1) := by decide +kernel
theorem d_Law_merge_22 : decode (mb M_Law_merge) 22 = .ok (.ireturn, 1) := by decide +kernel
theorem d_Law_merge_23 : decode (mb M_Law_merge) 23 = .ok (.astore 5, 2) := by decide +kernel
theorem d_Law_merge_25 : decode (mb M_Law_merge) 25 = .ok (.iconst 3, 1) := by decide +kernel
theorem d_Law_merge_26 : decode (mb M_Law_merge) 26 = .ok (.ireturn, 1) := by decide +kernel
theorem d_Law_merge_27 : decode (mb M_Law_merge) 27 = .ok (.iconst 0, 1) := by decide +kernel
theorem d_Law_merge_28 : decode (mb M_Law_merge) 28 = .ok (.ireturn, 1) := by decide +kernel
theorem d_Law_move_0 : decode (mb M_Law_move) 0 = .ok (.aload_n 0, 1) := by decide +kernel
theorem d_Law_move_1 : decode (mb M_Law_move) 1 = .ok (.iload_n 1, 1) := by decide +kernel
theorem d_Law_move_2 : decode (mb M_Law_move) 2 = .ok (.iload_n 2, 1) := by decide +kernel
theorem d_Law_move_3 : decode (mb M_Law_move) 3 = .ok (.invokevirtual 30, 3) := by decide +kernel
theorem d_Law_move_6 : decode (mb M_Law_move) 6 = .ok (.goto 9, 3) := by decide +kernel
theorem d_Law_move_9 : decode (mb M_Law_move) 9 = .ok (.astore_n 3, 1) := by decide +kernel
theorem d_Law_move_10 : decode (mb M_Law_move) 10 = .ok (.iconst 1, 1) := by decide +kernel
theorem d_Law_move_11 : decode (mb M_Law_move) 11 = .ok (.ireturn, 1) := by decide +kernel
theorem d_Law_move_12 : decode (mb M_Law_move) 12 = .ok (.astore_n 3, 1) := by decide +kernel
theorem d_Law_move_13 : decode (mb M_Law_move) 13 = .ok (.iconst 2, 1) := by decide +kernel
theorem d_Law_move_14 : decode (mb M_Law_move) 14 = .ok (.ireturn, 1) := by decide +kernel
theorem d_Law_move_15 : decode (mb M_Law_move) 15 = .ok (.iconst 0, 1) := by decide +kernel
theorem d_Law_move_16 : decode (mb M_Law_move) 16 = .ok (.ireturn, 1) := by decide +kernel
theorem d_Law_movedTo_0 : decode (mb M_Law_movedTo) 0 = .ok (.aload_n 2, 1) := by decide +kernel
theorem d_Law_movedTo_1 : decode (mb M_Law_movedTo) 1 = .ok (.iconst 0, 1) := by decide +kernel
theorem d_Law_movedTo_2 : decode (mb M_Law_movedTo) 2 = .ok (.aload_n 0, 1) := by decide +kernel
theorem d_Law_movedTo_3 : decode (mb M_Law_movedTo) 3 = .ok (.iload_n 1, 1) := by decide +kernel
theorem d_Law_movedTo_4 : decode (mb M_Law_movedTo) 4 = .ok (.invokevirtual 72, 3) := by decide +kernel
theorem d_Law_movedTo_7 : decode (mb M_Law_movedTo) 7 = .ok (.i2l, 1) := by decide +kernel
theorem d_Law_movedTo_8 : decode (mb M_Law_movedTo) 8 = .ok (.lastore, 1) := by decide +kernel
theorem d_Law_movedTo_9 : decode (mb M_Law_movedTo) 9 = .ok (.goto 6, 3) := by decide +kernel
theorem d_Law_movedTo_12 : decode (mb M_Law_movedTo) 12 = .ok (.astore_n 3, 1) := by decide +kernel
theorem d_Law_movedTo_13 : decode (mb M_Law_movedTo) 13 = .ok (.iconst 1, 1) := by decide +kernel
theorem d_Law_movedTo_14 : decode (mb M_Law_movedTo) 14 = .ok (.ireturn, 1) := by decide +kernel
theorem d_Law_movedTo_15 : decode (mb M_Law_movedTo) 15 = .ok (.iconst 0, 1) := by decide +kernel
theorem d_Law_movedTo_16 : decode (mb M_Law_movedTo) 16 = .ok (.ireturn, 1) := by decide +kernel
theorem d_Law_note_0 : decode (mb M_Law_note) 0 = .ok (.aload_n 3, 1) := by decide +kernel
theorem d_Law_note_1 : decode (mb M_Law_note) 1 = .ok (.iconst 0, 1) := by decide +kernel
theorem d_Law_note_2 : decode (mb M_Law_note) 2 = .ok (.aload_n 0, 1) := by decide +kernel
theorem d_Law_note_3 : decode (mb M_Law_note) 3 = .ok (.iload_n 1, 1) := by decide +kernel
theorem d_Law_note_4 : decode (mb M_Law_note) 4 = .ok (.iload_n 2, 1) := by decide +kernel
theorem d_Law_note_5 : decode (mb M_Law_note) 5 = .ok (.invokevirtual 107, 3) := by decide +kernel
theorem d_Law_note_8 : decode (mb M_Law_note) 8 = .ok (.i2l, 1) := by decide +kernel
theorem d_Law_note_9 : decode (mb M_Law_note) 9 = .ok (.lastore, 1) := by decide +kernel
theorem d_Law_note_10 : decode (mb M_Law_note) 10 = .ok (.goto 11, 3) := by decide +kernel
theorem d_Law_note_13 : decode (mb M_Law_note) 13 = .ok (.astore 4, 2) := by decide +kernel
theorem d_Law_note_15 : decode (mb M_Law_note) 15 = .ok (.iconst 1, 1) := by decide +kernel
theorem d_Law_note_16 : decode (mb M_Law_note) 16 = .ok (.ireturn, 1) := by decide +kernel
theorem d_Law_note_17 : decode (mb M_Law_note) 17 = .ok (.astore 4, 2) := by decide +kernel
theorem d_Law_note_19 : decode (mb M_Law_note) 19 = .ok (.iconst 2, 1) := by decide +kernel
theorem d_Law_note_20 : decode (mb M_Law_note) 20 = .ok (.ireturn, 1) := by decide +kernel
theorem d_Law_note_21 : decode (mb M_Law_note) 21 = .ok (.iconst 0, 1) := by decide +kernel
theorem d_Law_note_22 : decode (mb M_Law_note) 22 = .ok (.ireturn, 1) := by decide +kernel
theorem d_Law_noteAt_0 : decode (mb M_Law_noteAt) 0 = .ok (.aload_n 3, 1) := by decide +kernel
theorem d_Law_noteAt_1 : decode (mb M_Law_noteAt) 1 = .ok (.iconst 0, 1) := by decide +kernel
theorem d_Law_noteAt_2 : decode (mb M_Law_noteAt) 2 = .ok (.aload_n 0, 1) := by decide +kernel
theorem d_Law_noteAt_3 : decode (mb M_Law_noteAt) 3 = .ok (.iload_n 1, 1) := by decide +kernel
theorem d_Law_noteAt_4 : decode (mb M_Law_noteAt) 4 = .ok (.iload_n 2, 1) := by decide +kernel
theorem d_Law_noteAt_5 : decode (mb M_Law_noteAt) 5 = .ok (.invokevirtual 110, 3) := by decide +kernel
theorem d_Law_noteAt_8 : decode (mb M_Law_noteAt) 8 = .ok (.i2l, 1) := by decide +kernel
theorem d_Law_noteAt_9 : decode (mb M_Law_noteAt) 9 = .ok (.lastore, 1) := by decide +kernel
theorem d_Law_noteAt_10 : decode (mb M_Law_noteAt) 10 = .ok (.goto 7, 3) := by decide +kernel
theorem d_Law_noteAt_13 : decode (mb M_Law_noteAt) 13 = .ok (.astore 4, 2) := by decide +kernel
theorem d_Law_noteAt_15 : decode (mb M_Law_noteAt) 15 = .ok (.iconst 1, 1) := by decide +kernel
theorem d_Law_noteAt_16 : decode (mb M_Law_noteAt) 16 = .ok (.ireturn, 1) := by decide +kernel
theorem d_Law_noteAt_17 : decode (mb M_Law_noteAt) 17 = .ok (.iconst 0, 1) := by decide +kernel
theorem d_Law_noteAt_18 : decode (mb M_Law_noteAt) 18 = .ok (.ireturn, 1) := by decide +kernel
theorem d_Law_pairOf_0 : decode (mb M_Law_pairOf) 0 = .ok (.aload_n 2, 1) := by decide +kernel
theorem d_Law_pairOf_1 : decode (mb M_Law_pairOf) 1 = .ok (.iconst 0, 1) := by decide +kernel
theorem d_Law_pairOf_2 : decode (mb M_Law_pairOf) 2 = .ok (.aload_n 0, 1) := by decide +kernel
theorem d_Law_pairOf_3 : decode (mb M_Law_pairOf) 3 = .ok (.iload_n 1, 1) := by decide +kernel
theorem d_Law_pairOf_4 : decode (mb M_Law_pairOf) 4 = .ok (.invokevirtual 69, 3) := by decide +kernel
theorem d_Law_pairOf_7 : decode (mb M_Law_pairOf) 7 = .ok (.i2l, 1) := by decide +kernel
theorem d_Law_pairOf_8 : decode (mb M_Law_pairOf) 8 = .ok (.lastore, 1) := by decide +kernel
theorem d_Law_pairOf_9 : decode (mb M_Law_pairOf) 9 = .ok (.goto 6, 3) := by decide +kernel
theorem d_Law_pairOf_12 : decode (mb M_Law_pairOf) 12 = .ok (.astore_n 3, 1) := by decide +kernel
theorem d_Law_pairOf_13 : decode (mb M_Law_pairOf) 13 = .ok (.iconst 1, 1) := by decide +kernel
theorem d_Law_pairOf_14 : decode (mb M_Law_pairOf) 14 = .ok (.ireturn, 1) := by decide +kernel
theorem d_Law_pairOf_15 : decode (mb M_Law_pairOf) 15 = .ok (.iconst 0, 1) := by decide +kernel
theorem d_Law_pairOf_16 : decode (mb M_Law_pairOf) 16 = .ok (.ireturn, 1) := by decide +kernel
theorem d_Law_patch_0 : decode (mb M_Law_patch) 0 = .ok (.aload 4, 2) := by decide +kernel
theorem d_Law_patch_2 : decode (mb M_Law_patch) 2 = .ok (.iconst 0, 1) := by decide +kernel
theorem d_Law_patch_3 : decode (mb M_Law_patch) 3 = .ok (.aload_n 0, 1) := by decide +kernel
theorem d_Law_patch_4 : decode (mb M_Law_patch) 4 = .ok (.iload_n 1, 1) := by decide +kernel
theorem d_Law_patch_5 : decode (mb M_Law_patch) 5 = .ok (.iload_n 2, 1) := by decide +kernel
theorem d_Law_patch_6 : decode (mb M_Law_patch) 6 = .ok (.iload_n 3, 1) := by decide +kernel
theorem d_Law_patch_7 : decode (mb M_Law_patch) 7 = .ok (.invokevirtual 95, 3) := by decide +kernel
theorem d_Law_patch_10 : decode (mb M_Law_patch) 10 = .ok (.i2l, 1) := by decide +kernel
theorem d_Law_patch_11 : decode (mb M_Law_patch) 11 = .ok (.lastore, 1) := by decide +kernel
theorem d_Law_patch_12 : decode (mb M_Law_patch) 12 = .ok (.goto 15, 3) := by decide +kernel
theorem d_Law_patch_15 : decode (mb M_Law_patch) 15 = .ok (.astore 5, 2) := by decide +kernel
theorem d_Law_patch_17 : decode (mb M_Law_patch) 17 = .ok (.iconst 1, 1) := by decide +kernel
theorem d_Law_patch_18 : decode (mb M_Law_patch) 18 = .ok (.ireturn, 1) := by decide +kernel
theorem d_Law_patch_19 : decode (mb M_Law_patch) 19 = .ok (.astore 5, 2) := by decide +kernel
theorem d_Law_patch_21 : decode (mb M_Law_patch) 21 = .ok (.iconst 2, 1) := by decide +kernel
theorem d_Law_patch_22 : decode (mb M_Law_patch) 22 = .ok (.ireturn, 1) := by decide +kernel
theorem d_Law_patch_23 : decode (mb M_Law_patch) 23 = .ok (.astore 5, 2) := by decide +kernel
theorem d_Law_patch_25 : decode (mb M_Law_patch) 25 = .ok (.iconst 3, 1) := by decide +kernel
theorem d_Law_patch_26 : decode (mb M_Law_patch) 26 = .ok (.ireturn, 1) := by decide +kernel
theorem d_Law_patch_27 : decode (mb M_Law_patch) 27 = .ok (.iconst 0, 1) := by decide +kernel
theorem d_Law_patch_28 : decode (mb M_Law_patch) 28 = .ok (.ireturn, 1) := by decide +kernel
theorem d_Law_pieceOf_0 : decode (mb M_Law_pieceOf) 0 = .ok (.aload_n 3, 1) := by decide +kernel
theorem d_Law_pieceOf_1 : decode (mb M_Law_pieceOf) 1 = .ok (.iconst 0, 1) := by decide +kernel
theorem d_Law_pieceOf_2 : decode (mb M_Law_pieceOf) 2 = .ok (.aload_n 0, 1) := by decide +kernel
theorem d_Law_pieceOf_3 : decode (mb M_Law_pieceOf) 3 = .ok (.iload_n 1, 1) := by decide +kernel
theorem d_Law_pieceOf_4 : decode (mb M_Law_pieceOf) 4 = .ok (.iload_n 2, 1) := by decide +kernel
theorem d_Law_pieceOf_5 : decode (mb M_Law_pieceOf) 5 = .ok (.invokevirtual 89, 3) := by decide +kernel
theorem d_Law_pieceOf_8 : decode (mb M_Law_pieceOf) 8 = .ok (.i2l, 1) := by decide +kernel
theorem d_Law_pieceOf_9 : decode (mb M_Law_pieceOf) 9 = .ok (.lastore, 1) := by decide +kernel
theorem d_Law_pieceOf_10 : decode (mb M_Law_pieceOf) 10 = .ok (.goto 11, 3) := by decide +kernel
theorem d_Law_pieceOf_13 : decode (mb M_Law_pieceOf) 13 = .ok (.astore 4, 2) := by decide +kernel
theorem d_Law_pieceOf_15 : decode (mb M_Law_pieceOf) 15 = .ok (.iconst 1, 1) := by decide +kernel
theorem d_Law_pieceOf_16 : decode (mb M_Law_pieceOf) 16 = .ok (.ireturn, 1) := by decide +kernel
theorem d_Law_pieceOf_17 : decode (mb M_Law_pieceOf) 17 = .ok (.astore 4, 2) := by decide +kernel
theorem d_Law_pieceOf_19 : decode (mb M_Law_pieceOf) 19 = .ok (.iconst 2, 1) := by decide +kernel
theorem d_Law_pieceOf_20 : decode (mb M_Law_pieceOf) 20 = .ok (.ireturn, 1) := by decide +kernel
theorem d_Law_pieceOf_21 : decode (mb M_Law_pieceOf) 21 = .ok (.iconst 0, 1) := by decide +kernel
theorem d_Law_pieceOf_22 : decode (mb M_Law_pieceOf) 22 = .ok (.ireturn, 1) := by decide +kernel
theorem d_Law_remove_0 : decode (mb M_Law_remove) 0 = .ok (.aload_n 2, 1) := by decide +kernel
theorem d_Law_remove_1 : decode (mb M_Law_remove) 1 = .ok (.iconst 0, 1) := by decide +kernel
theorem d_Law_remove_2 : decode (mb M_Law_remove) 2 = .ok (.aload_n 0, 1) := by decide +kernel
theorem d_Law_remove_3 : decode (mb M_Law_remove) 3 = .ok (.iload_n 1, 1) := by decide +kernel
theorem d_Law_remove_4 : decode (mb M_Law_remove) 4 = .ok (.invokevirtual 23, 3) := by decide +kernel
theorem d_Law_remove_7 : decode (mb M_Law_remove) 7 = .ok (.i2l, 1) := by decide +kernel
theorem d_Law_remove_8 : decode (mb M_Law_remove) 8 = .ok (.lastore, 1) := by decide +kernel
theorem d_Law_remove_9 : decode (mb M_Law_remove) 9 = .ok (.goto 9, 3) := by decide +kernel
theorem d_Law_remove_12 : decode (mb M_Law_remove) 12 = .ok (.astore_n 3, 1) := by decide +kernel
theorem d_Law_remove_13 : decode (mb M_Law_remove) 13 = .ok (.iconst 1, 1) := by decide +kernel
theorem d_Law_remove_14 : decode (mb M_Law_remove) 14 = .ok (.ireturn, 1) := by decide +kernel
theorem d_Law_remove_15 : decode (mb M_Law_remove) 15 = .ok (.astore_n 3, 1) := by decide +kernel
theorem d_Law_remove_16 : decode (mb M_Law_remove) 16 = .ok (.iconst 2, 1) := by decide +kernel
theorem d_Law_remove_17 : decode (mb M_Law_remove) 17 = .ok (.ireturn, 1) := by decide +kernel
theorem d_Law_remove_18 : decode (mb M_Law_remove) 18 = .ok (.iconst 0, 1) := by decide +kernel
theorem d_Law_remove_19 : decode (mb M_Law_remove) 19 = .ok (.ireturn, 1) := by decide +kernel
theorem d_Law_renew_0 : decode (mb M_Law_renew) 0 = .ok (.aload_n 3, 1) := by decide +kernel
theorem d_Law_renew_1 : decode (mb M_Law_renew) 1 = .ok (.iconst 0, 1) := by decide +kernel
theorem d_Law_renew_2 : decode (mb M_Law_renew) 2 = .ok (.aload_n 0, 1) := by decide +kernel
theorem d_Law_renew_3 : decode (mb M_Law_renew) 3 = .ok (.iload_n 1, 1) := by decide +kernel
theorem d_Law_renew_4 : decode (mb M_Law_renew) 4 = .ok (.iload_n 2, 1) := by decide +kernel
theorem d_Law_renew_5 : decode (mb M_Law_renew) 5 = .ok (.invokevirtual 119, 3) := by decide +kernel
theorem d_Law_renew_8 : decode (mb M_Law_renew) 8 = .ok (.i2l, 1) := by decide +kernel
theorem d_Law_renew_9 : decode (mb M_Law_renew) 9 = .ok (.lastore, 1) := by decide +kernel
theorem d_Law_renew_10 : decode (mb M_Law_renew) 10 = .ok (.goto 11, 3) := by decide +kernel
theorem d_Law_renew_13 : decode (mb M_Law_renew) 13 = .ok (.astore 4, 2) := by decide +kernel
theorem d_Law_renew_15 : decode (mb M_Law_renew) 15 = .ok (.iconst 1, 1) := by decide +kernel
theorem d_Law_renew_16 : decode (mb M_Law_renew) 16 = .ok (.ireturn, 1) := by decide +kernel
theorem d_Law_renew_17 : decode (mb M_Law_renew) 17 = .ok (.astore 4, 2) := by decide +kernel
theorem d_Law_renew_19 : decode (mb M_Law_renew) 19 = .ok (.iconst 2, 1) := by decide +kernel
theorem d_Law_renew_20 : decode (mb M_Law_renew) 20 = .ok (.ireturn, 1) := by decide +kernel
theorem d_Law_renew_21 : decode (mb M_Law_renew) 21 = .ok (.iconst 0, 1) := by decide +kernel
theorem d_Law_renew_22 : decode (mb M_Law_renew) 22 = .ok (.ireturn, 1) := by decide +kernel
theorem d_Law_review_0 : decode (mb M_Law_review) 0 = .ok (.aload_n 3, 1) := by decide +kernel
theorem d_Law_review_1 : decode (mb M_Law_review) 1 = .ok (.iconst 0, 1) := by decide +kernel
theorem d_Law_review_2 : decode (mb M_Law_review) 2 = .ok (.aload_n 0, 1) := by decide +kernel
theorem d_Law_review_3 : decode (mb M_Law_review) 3 = .ok (.iload_n 1, 1) := by decide +kernel
theorem d_Law_review_4 : decode (mb M_Law_review) 4 = .ok (.iload_n 2, 1) := by decide +kernel
theorem d_Law_review_5 : decode (mb M_Law_review) 5 = .ok (.invokevirtual 113, 3) := by decide +kernel
theorem d_Law_review_8 : decode (mb M_Law_review) 8 = .ok (.i2l, 1) := by decide +kernel
theorem d_Law_review_9 : decode (mb M_Law_review) 9 = .ok (.lastore, 1) := by decide +kernel
theorem d_Law_review_10 : decode (mb M_Law_review) 10 = .ok (.goto 11, 3) := by decide +kernel
theorem d_Law_review_13 : decode (mb M_Law_review) 13 = .ok (.astore 4, 2) := by decide +kernel
theorem d_Law_review_15 : decode (mb M_Law_review) 15 = .ok (.iconst 1, 1) := by decide +kernel
theorem d_Law_review_16 : decode (mb M_Law_review) 16 = .ok (.ireturn, 1) := by decide +kernel
theorem d_Law_review_17 : decode (mb M_Law_review) 17 = .ok (.astore 4, 2) := by decide +kernel
theorem d_Law_review_19 : decode (mb M_Law_review) 19 = .ok (.iconst 2, 1) := by decide +kernel
theorem d_Law_review_20 : decode (mb M_Law_review) 20 = .ok (.ireturn, 1) := by decide +kernel
theorem d_Law_review_21 : decode (mb M_Law_review) 21 = .ok (.iconst 0, 1) := by decide +kernel
theorem d_Law_review_22 : decode (mb M_Law_review) 22 = .ok (.ireturn, 1) := by decide +kernel
theorem d_Law_reviewState_0 : decode (mb M_Law_reviewState) 0 = .ok (.aload_n 2, 1) := by decide +kernel
theorem d_Law_reviewState_1 : decode (mb M_Law_reviewState) 1 = .ok (.iconst 0, 1) := by decide +kernel
theorem d_Law_reviewState_2 : decode (mb M_Law_reviewState) 2 = .ok (.aload_n 0, 1) := by decide +kernel
theorem d_Law_reviewState_3 : decode (mb M_Law_reviewState) 3 = .ok (.iload_n 1, 1) := by decide +kernel
theorem d_Law_reviewState_4 : decode (mb M_Law_reviewState) 4 = .ok (.invokevirtual 125, 3) := by decide +kernel
theorem d_Law_reviewState_7 : decode (mb M_Law_reviewState) 7 = .ok (.i2l, 1) := by decide +kernel
theorem d_Law_reviewState_8 : decode (mb M_Law_reviewState) 8 = .ok (.lastore, 1) := by decide +kernel
theorem d_Law_reviewState_9 : decode (mb M_Law_reviewState) 9 = .ok (.goto 6, 3) := by decide +kernel
theorem d_Law_reviewState_12 : decode (mb M_Law_reviewState) 12 = .ok (.astore_n 3, 1) := by decide +kernel
theorem d_Law_reviewState_13 : decode (mb M_Law_reviewState) 13 = .ok (.iconst 1, 1) := by decide +kernel
theorem d_Law_reviewState_14 : decode (mb M_Law_reviewState) 14 = .ok (.ireturn, 1) := by decide +kernel
theorem d_Law_reviewState_15 : decode (mb M_Law_reviewState) 15 = .ok (.iconst 0, 1) := by decide +kernel
theorem d_Law_reviewState_16 : decode (mb M_Law_reviewState) 16 = .ok (.ireturn, 1) := by decide +kernel
theorem d_Law_settle_0 : decode (mb M_Law_settle) 0 = .ok (.aload_n 3, 1) := by decide +kernel
theorem d_Law_settle_1 : decode (mb M_Law_settle) 1 = .ok (.iconst 0, 1) := by decide +kernel
theorem d_Law_settle_2 : decode (mb M_Law_settle) 2 = .ok (.aload_n 0, 1) := by decide +kernel
theorem d_Law_settle_3 : decode (mb M_Law_settle) 3 = .ok (.iload_n 1, 1) := by decide +kernel
theorem d_Law_settle_4 : decode (mb M_Law_settle) 4 = .ok (.iload_n 2, 1) := by decide +kernel
theorem d_Law_settle_5 : decode (mb M_Law_settle) 5 = .ok (.invokevirtual 92, 3) := by decide +kernel
theorem d_Law_settle_8 : decode (mb M_Law_settle) 8 = .ok (.i2l, 1) := by decide +kernel
theorem d_Law_settle_9 : decode (mb M_Law_settle) 9 = .ok (.lastore, 1) := by decide +kernel
theorem d_Law_settle_10 : decode (mb M_Law_settle) 10 = .ok (.goto 15, 3) := by decide +kernel
theorem d_Law_settle_13 : decode (mb M_Law_settle) 13 = .ok (.astore 4, 2) := by decide +kernel
theorem d_Law_settle_15 : decode (mb M_Law_settle) 15 = .ok (.iconst 1, 1) := by decide +kernel
theorem d_Law_settle_16 : decode (mb M_Law_settle) 16 = .ok (.ireturn, 1) := by decide +kernel
theorem d_Law_settle_17 : decode (mb M_Law_settle) 17 = .ok (.astore 4, 2) := by decide +kernel
theorem d_Law_settle_19 : decode (mb M_Law_settle) 19 = .ok (.iconst 2, 1) := by decide +kernel
theorem d_Law_settle_20 : decode (mb M_Law_settle) 20 = .ok (.ireturn, 1) := by decide +kernel
theorem d_Law_settle_21 : decode (mb M_Law_settle) 21 = .ok (.astore 4, 2) := by decide +kernel
theorem d_Law_settle_23 : decode (mb M_Law_settle) 23 = .ok (.iconst 3, 1) := by decide +kernel
theorem d_Law_settle_24 : decode (mb M_Law_settle) 24 = .ok (.ireturn, 1) := by decide +kernel
theorem d_Law_settle_25 : decode (mb M_Law_settle) 25 = .ok (.iconst 0, 1) := by decide +kernel
theorem d_Law_settle_26 : decode (mb M_Law_settle) 26 = .ok (.ireturn, 1) := by decide +kernel
theorem d_Law_since_0 : decode (mb M_Law_since) 0 = .ok (.aload_n 3, 1) := by decide +kernel
theorem d_Law_since_1 : decode (mb M_Law_since) 1 = .ok (.iconst 0, 1) := by decide +kernel
theorem d_Law_since_2 : decode (mb M_Law_since) 2 = .ok (.aload_n 0, 1) := by decide +kernel
theorem d_Law_since_3 : decode (mb M_Law_since) 3 = .ok (.iload_n 1, 1) := by decide +kernel
theorem d_Law_since_4 : decode (mb M_Law_since) 4 = .ok (.iload_n 2, 1) := by decide +kernel
theorem d_Law_since_5 : decode (mb M_Law_since) 5 = .ok (.invokevirtual 58, 3) := by decide +kernel
theorem d_Law_since_8 : decode (mb M_Law_since) 8 = .ok (.i2l, 1) := by decide +kernel
theorem d_Law_since_9 : decode (mb M_Law_since) 9 = .ok (.lastore, 1) := by decide +kernel
theorem d_Law_since_10 : decode (mb M_Law_since) 10 = .ok (.goto 7, 3) := by decide +kernel
theorem d_Law_since_13 : decode (mb M_Law_since) 13 = .ok (.astore 4, 2) := by decide +kernel
theorem d_Law_since_15 : decode (mb M_Law_since) 15 = .ok (.iconst 1, 1) := by decide +kernel
theorem d_Law_since_16 : decode (mb M_Law_since) 16 = .ok (.ireturn, 1) := by decide +kernel
theorem d_Law_since_17 : decode (mb M_Law_since) 17 = .ok (.iconst 0, 1) := by decide +kernel
theorem d_Law_since_18 : decode (mb M_Law_since) 18 = .ok (.ireturn, 1) := by decide +kernel
theorem d_Law_treeCost_0 : decode (mb M_Law_treeCost) 0 = .ok (.aload_n 3, 1) := by decide +kernel
theorem d_Law_treeCost_1 : decode (mb M_Law_treeCost) 1 = .ok (.iconst 0, 1) := by decide +kernel
theorem d_Law_treeCost_2 : decode (mb M_Law_treeCost) 2 = .ok (.aload_n 0, 1) := by decide +kernel
theorem d_Law_treeCost_3 : decode (mb M_Law_treeCost) 3 = .ok (.iload_n 1, 1) := by decide +kernel
theorem d_Law_treeCost_4 : decode (mb M_Law_treeCost) 4 = .ok (.iload_n 2, 1) := by decide +kernel
theorem d_Law_treeCost_5 : decode (mb M_Law_treeCost) 5 = .ok (.invokevirtual 79, 3) := by decide +kernel
theorem d_Law_treeCost_8 : decode (mb M_Law_treeCost) 8 = .ok (.i2l, 1) := by decide +kernel
theorem d_Law_treeCost_9 : decode (mb M_Law_treeCost) 9 = .ok (.lastore, 1) := by decide +kernel
theorem d_Law_treeCost_10 : decode (mb M_Law_treeCost) 10 = .ok (.goto 7, 3) := by decide +kernel
theorem d_Law_treeCost_13 : decode (mb M_Law_treeCost) 13 = .ok (.astore 4, 2) := by decide +kernel
theorem d_Law_treeCost_15 : decode (mb M_Law_treeCost) 15 = .ok (.iconst 1, 1) := by decide +kernel
theorem d_Law_treeCost_16 : decode (mb M_Law_treeCost) 16 = .ok (.ireturn, 1) := by decide +kernel
theorem d_Law_treeCost_17 : decode (mb M_Law_treeCost) 17 = .ok (.iconst 0, 1) := by decide +kernel
theorem d_Law_treeCost_18 : decode (mb M_Law_treeCost) 18 = .ok (.ireturn, 1) := by decide +kernel
theorem d_Law_turn_0 : decode (mb M_Law_turn) 0 = .ok (.aload_n 2, 1) := by decide +kernel
theorem d_Law_turn_1 : decode (mb M_Law_turn) 1 = .ok (.iconst 0, 1) := by decide +kernel
theorem d_Law_turn_2 : decode (mb M_Law_turn) 2 = .ok (.aload_n 0, 1) := by decide +kernel
theorem d_Law_turn_3 : decode (mb M_Law_turn) 3 = .ok (.iload_n 1, 1) := by decide +kernel
theorem d_Law_turn_4 : decode (mb M_Law_turn) 4 = .ok (.invokevirtual 98, 3) := by decide +kernel
theorem d_Law_turn_7 : decode (mb M_Law_turn) 7 = .ok (.i2l, 1) := by decide +kernel
theorem d_Law_turn_8 : decode (mb M_Law_turn) 8 = .ok (.lastore, 1) := by decide +kernel
theorem d_Law_turn_9 : decode (mb M_Law_turn) 9 = .ok (.goto 9, 3) := by decide +kernel
theorem d_Law_turn_12 : decode (mb M_Law_turn) 12 = .ok (.astore_n 3, 1) := by decide +kernel
theorem d_Law_turn_13 : decode (mb M_Law_turn) 13 = .ok (.iconst 1, 1) := by decide +kernel
theorem d_Law_turn_14 : decode (mb M_Law_turn) 14 = .ok (.ireturn, 1) := by decide +kernel
theorem d_Law_turn_15 : decode (mb M_Law_turn) 15 = .ok (.astore_n 3, 1) := by decide +kernel
theorem d_Law_turn_16 : decode (mb M_Law_turn) 16 = .ok (.iconst 2, 1) := by decide +kernel
theorem d_Law_turn_17 : decode (mb M_Law_turn) 17 = .ok (.ireturn, 1) := by decide +kernel
theorem d_Law_turn_18 : decode (mb M_Law_turn) 18 = .ok (.iconst 0, 1) := by decide +kernel
theorem d_Law_turn_19 : decode (mb M_Law_turn) 19 = .ok (.ireturn, 1) := by decide +kernel
theorem d_Law_undo_0 : decode (mb M_Law_undo) 0 = .ok (.aload_n 1, 1) := by decide +kernel
theorem d_Law_undo_1 : decode (mb M_Law_undo) 1 = .ok (.iconst 0, 1) := by decide +kernel
theorem d_Law_undo_2 : decode (mb M_Law_undo) 2 = .ok (.aload_n 0, 1) := by decide +kernel
theorem d_Law_undo_3 : decode (mb M_Law_undo) 3 = .ok (.invokevirtual 34, 3) := by decide +kernel
theorem d_Law_undo_6 : decode (mb M_Law_undo) 6 = .ok (.i2l, 1) := by decide +kernel
theorem d_Law_undo_7 : decode (mb M_Law_undo) 7 = .ok (.lastore, 1) := by decide +kernel
theorem d_Law_undo_8 : decode (mb M_Law_undo) 8 = .ok (.goto 6, 3) := by decide +kernel
theorem d_Law_undo_11 : decode (mb M_Law_undo) 11 = .ok (.astore_n 2, 1) := by decide +kernel
theorem d_Law_undo_12 : decode (mb M_Law_undo) 12 = .ok (.iconst 1, 1) := by decide +kernel
theorem d_Law_undo_13 : decode (mb M_Law_undo) 13 = .ok (.ireturn, 1) := by decide +kernel
theorem d_Law_undo_14 : decode (mb M_Law_undo) 14 = .ok (.iconst 0, 1) := by decide +kernel
theorem d_Law_undo_15 : decode (mb M_Law_undo) 15 = .ok (.ireturn, 1) := by decide +kernel
theorem d_Law_verdict_0 : decode (mb M_Law_verdict) 0 = .ok (.aload 4, 2) := by decide +kernel
theorem d_Law_verdict_2 : decode (mb M_Law_verdict) 2 = .ok (.iconst 0, 1) := by decide +kernel
theorem d_Law_verdict_3 : decode (mb M_Law_verdict) 3 = .ok (.aload_n 0, 1) := by decide +kernel
theorem d_Law_verdict_4 : decode (mb M_Law_verdict) 4 = .ok (.iload_n 1, 1) := by decide +kernel
theorem d_Law_verdict_5 : decode (mb M_Law_verdict) 5 = .ok (.iload_n 2, 1) := by decide +kernel
theorem d_Law_verdict_6 : decode (mb M_Law_verdict) 6 = .ok (.iload_n 3, 1) := by decide +kernel
theorem d_Law_verdict_7 : decode (mb M_Law_verdict) 7 = .ok (.invokevirtual 116, 3) := by decide +kernel
theorem d_Law_verdict_10 : decode (mb M_Law_verdict) 10 = .ok (.i2l, 1) := by decide +kernel
theorem d_Law_verdict_11 : decode (mb M_Law_verdict) 11 = .ok (.lastore, 1) := by decide +kernel
theorem d_Law_verdict_12 : decode (mb M_Law_verdict) 12 = .ok (.goto 11, 3) := by decide +kernel
theorem d_Law_verdict_15 : decode (mb M_Law_verdict) 15 = .ok (.astore 5, 2) := by decide +kernel
theorem d_Law_verdict_17 : decode (mb M_Law_verdict) 17 = .ok (.iconst 1, 1) := by decide +kernel
theorem d_Law_verdict_18 : decode (mb M_Law_verdict) 18 = .ok (.ireturn, 1) := by decide +kernel
theorem d_Law_verdict_19 : decode (mb M_Law_verdict) 19 = .ok (.astore 5, 2) := by decide +kernel
theorem d_Law_verdict_21 : decode (mb M_Law_verdict) 21 = .ok (.iconst 2, 1) := by decide +kernel
theorem d_Law_verdict_22 : decode (mb M_Law_verdict) 22 = .ok (.ireturn, 1) := by decide +kernel
theorem d_Law_verdict_23 : decode (mb M_Law_verdict) 23 = .ok (.iconst 0, 1) := by decide +kernel
theorem d_Law_verdict_24 : decode (mb M_Law_verdict) 24 = .ok (.ireturn, 1) := by decide +kernel
theorem d_Law_law_0 : decode (mb M_Law_law) 0 = .ok (.new 8, 3) := by decide +kernel
theorem d_Law_law_3 : decode (mb M_Law_law) 3 = .ok (.dup, 1) := by decide +kernel
theorem d_Law_law_4 : decode (mb M_Law_law) 4 = .ok (.invokespecial 128, 3) := by decide +kernel
theorem d_Law_law_7 : decode (mb M_Law_law) 7 = .ok (.astore_n 1, 1) := by decide +kernel
theorem d_Law_law_8 : decode (mb M_Law_law) 8 = .ok (.new 129, 3) := by decide +kernel
theorem d_Law_law_11 : decode (mb M_Law_law) 11 = .ok (.dup, 1) := by decide +kernel
theorem d_Law_law_12 : decode (mb M_Law_law) 12 = .ok (.invokespecial 131, 3) := by decide +kernel
theorem d_Law_law_15 : decode (mb M_Law_law) 15 = .ok (.astore_n 2, 1) := by decide +kernel
theorem d_Law_law_16 : decode (mb M_Law_law) 16 = .ok (.iconst 1, 1) := by decide +kernel
theorem d_Law_law_17 : decode (mb M_Law_law) 17 = .ok (.newarray .long, 2) := by decide +kernel
theorem d_Law_law_19 : decode (mb M_Law_law) 19 = .ok (.astore_n 3, 1) := by decide +kernel
theorem d_Law_law_20 : decode (mb M_Law_law) 20 = .ok (.iconst 0, 1) := by decide +kernel
theorem d_Law_law_21 : decode (mb M_Law_law) 21 = .ok (.istore 4, 2) := by decide +kernel
theorem d_Law_law_23 : decode (mb M_Law_law) 23 = .ok (.iload 4, 2) := by decide +kernel
theorem d_Law_law_25 : decode (mb M_Law_law) 25 = .ok (.aload_n 0, 1) := by decide +kernel
theorem d_Law_law_26 : decode (mb M_Law_law) 26 = .ok (.arraylength, 1) := by decide +kernel
theorem d_Law_law_27 : decode (mb M_Law_law) 27 = .ok (.iconst 5, 1) := by decide +kernel
theorem d_Law_law_28 : decode (mb M_Law_law) 28 = .ok (.isub, 1) := by decide +kernel
theorem d_Law_law_29 : decode (mb M_Law_law) 29 = .ok (.if_icmp .gt 2588, 3) := by decide +kernel
theorem d_Law_law_32 : decode (mb M_Law_law) 32 = .ok (.aload_n 0, 1) := by decide +kernel
theorem d_Law_law_33 : decode (mb M_Law_law) 33 = .ok (.iload 4, 2) := by decide +kernel
theorem d_Law_law_35 : decode (mb M_Law_law) 35 = .ok (.iaload, 1) := by decide +kernel
theorem d_Law_law_36 : decode (mb M_Law_law) 36 = .ok (.bipush 63, 2) := by decide +kernel
theorem d_Law_law_38 : decode (mb M_Law_law) 38 = .ok (.iand, 1) := by decide +kernel
theorem d_Law_law_39 : decode (mb M_Law_law) 39 = .ok (.tableswitch 2572 0 36 #[161, 229, 329, 385, 485, 533, 577, 621, 634, 689, 702, 758, 825, 892, 960, 1028, 1103, 1199, 1255, 1311, 1443, 1511, 1579, 1659, 1672, 1740, 1808, 1888, 1944, 2024, 2092, 2160, 2228, 2296, 2392, 2460, 2516], 161) := by decide +kernel
theorem d_Law_law_200 : decode (mb M_Law_law) 200 = .ok (.aload_n 1, 1) := by decide +kernel
theorem d_Law_law_201 : decode (mb M_Law_law) 201 = .ok (.aload_n 0, 1) := by decide +kernel
theorem d_Law_law_202 : decode (mb M_Law_law) 202 = .ok (.iload 4, 2) := by decide +kernel
theorem d_Law_law_204 : decode (mb M_Law_law) 204 = .ok (.iconst 1, 1) := by decide +kernel
theorem d_Law_law_205 : decode (mb M_Law_law) 205 = .ok (.iadd, 1) := by decide +kernel
theorem d_Law_law_206 : decode (mb M_Law_law) 206 = .ok (.iaload, 1) := by decide +kernel
theorem d_Law_law_207 : decode (mb M_Law_law) 207 = .ok (.aload_n 0, 1) := by decide +kernel
theorem d_Law_law_208 : decode (mb M_Law_law) 208 = .ok (.iload 4, 2) := by decide +kernel
theorem d_Law_law_210 : decode (mb M_Law_law) 210 = .ok (.iconst 2, 1) := by decide +kernel
theorem d_Law_law_211 : decode (mb M_Law_law) 211 = .ok (.iadd, 1) := by decide +kernel
theorem d_Law_law_212 : decode (mb M_Law_law) 212 = .ok (.iaload, 1) := by decide +kernel
theorem d_Law_law_213 : decode (mb M_Law_law) 213 = .ok (.aload_n 3, 1) := by decide +kernel
theorem d_Law_law_214 : decode (mb M_Law_law) 214 = .ok (.invokestatic 132, 3) := by decide +kernel
theorem d_Law_law_217 : decode (mb M_Law_law) 217 = .ok (.istore 5, 2) := by decide +kernel
theorem d_Law_law_219 : decode (mb M_Law_law) 219 = .ok (.aload_n 2, 1) := by decide +kernel
theorem d_Law_law_220 : decode (mb M_Law_law) 220 = .ok (.aload_n 0, 1) := by decide +kernel
theorem d_Law_law_221 : decode (mb M_Law_law) 221 = .ok (.iload 4, 2) := by decide +kernel
theorem d_Law_law_223 : decode (mb M_Law_law) 223 = .ok (.iconst 1, 1) := by decide +kernel
theorem d_Law_law_224 : decode (mb M_Law_law) 224 = .ok (.iadd, 1) := by decide +kernel
theorem d_Law_law_225 : decode (mb M_Law_law) 225 = .ok (.iaload, 1) := by decide +kernel
theorem d_Law_law_226 : decode (mb M_Law_law) 226 = .ok (.aload_n 0, 1) := by decide +kernel
theorem d_Law_law_227 : decode (mb M_Law_law) 227 = .ok (.iload 4, 2) := by decide +kernel
theorem d_Law_law_229 : decode (mb M_Law_law) 229 = .ok (.iconst 2, 1) := by decide +kernel
theorem d_Law_law_230 : decode (mb M_Law_law) 230 = .ok (.iadd, 1) := by decide +kernel
theorem d_Law_law_231 : decode (mb M_Law_law) 231 = .ok (.iaload, 1) := by decide +kernel
theorem d_Law_law_232 : decode (mb M_Law_law) 232 = .ok (.invokevirtual 137, 3) := by decide +kernel
theorem d_Law_law_235 : decode (mb M_Law_law) 235 = .ok (.istore 6, 2) := by decide +kernel
theorem d_Law_law_237 : decode (mb M_Law_law) 237 = .ok (.aload_n 2, 1) := by decide +kernel
theorem d_Law_law_238 : decode (mb M_Law_law) 238 = .ok (.invokevirtual 138, 3) := by decide +kernel
theorem d_Law_law_241 : decode (mb M_Law_law) 241 = .ok (.iload 5, 2) := by decide +kernel
theorem d_Law_law_243 : decode (mb M_Law_law) 243 = .ok (.if_icmp .eq 5, 3) := by decide +kernel
theorem d_Law_law_246 : decode (mb M_Law_law) 246 = .ok (.iconst 0, 1) := by decide +kernel
theorem d_Law_law_247 : decode (mb M_Law_law) 247 = .ok (.ireturn, 1) := by decide +kernel
theorem d_Law_law_248 : decode (mb M_Law_law) 248 = .ok (.iload 5, 2) := by decide +kernel
theorem d_Law_law_250 : decode (mb M_Law_law) 250 = .ok (.ifCond .ne 15, 3) := by decide +kernel
theorem d_Law_law_253 : decode (mb M_Law_law) 253 = .ok (.aload_n 3, 1) := by decide +kernel
theorem d_Law_law_254 : decode (mb M_Law_law) 254 = .ok (.iconst 0, 1) := by decide +kernel
theorem d_Law_law_255 : decode (mb M_Law_law) 255 = .ok (.laload, 1) := by decide +kernel
theorem d_Law_law_256 : decode (mb M_Law_law) 256 = .ok (.iload 6, 2) := by decide +kernel
theorem d_Law_law_258 : decode (mb M_Law_law) 258 = .ok (.i2l, 1) := by decide +kernel
theorem d_Law_law_259 : decode (mb M_Law_law) 259 = .ok (.lcmp, 1) := by decide +kernel
theorem d_Law_law_260 : decode (mb M_Law_law) 260 = .ok (.ifCond .eq 5, 3) := by decide +kernel
theorem d_Law_law_263 : decode (mb M_Law_law) 263 = .ok (.iconst 0, 1) := by decide +kernel
theorem d_Law_law_264 : decode (mb M_Law_law) 264 = .ok (.ireturn, 1) := by decide +kernel
theorem d_Law_law_265 : decode (mb M_Law_law) 265 = .ok (.goto 2346, 3) := by decide +kernel
theorem d_Law_law_268 : decode (mb M_Law_law) 268 = .ok (.aload_n 1, 1) := by decide +kernel
theorem d_Law_law_269 : decode (mb M_Law_law) 269 = .ok (.aload_n 0, 1) := by decide +kernel
theorem d_Law_law_270 : decode (mb M_Law_law) 270 = .ok (.iload 4, 2) := by decide +kernel
theorem d_Law_law_272 : decode (mb M_Law_law) 272 = .ok (.iconst 1, 1) := by decide +kernel
theorem d_Law_law_273 : decode (mb M_Law_law) 273 = .ok (.iadd, 1) := by decide +kernel
theorem d_Law_law_274 : decode (mb M_Law_law) 274 = .ok (.iaload, 1) := by decide +kernel
theorem d_Law_law_275 : decode (mb M_Law_law) 275 = .ok (.aload_n 0, 1) := by decide +kernel
theorem d_Law_law_276 : decode (mb M_Law_law) 276 = .ok (.iload 4, 2) := by decide +kernel
theorem d_Law_law_278 : decode (mb M_Law_law) 278 = .ok (.iconst 2, 1) := by decide +kernel
theorem d_Law_law_279 : decode (mb M_Law_law) 279 = .ok (.iadd, 1) := by decide +kernel
theorem d_Law_law_280 : decode (mb M_Law_law) 280 = .ok (.iaload, 1) := by decide +kernel
theorem d_Law_law_281 : decode (mb M_Law_law) 281 = .ok (.i2l, 1) := by decide +kernel
theorem d_Law_law_282 : decode (mb M_Law_law) 282 = .ok (.bipush 32, 2) := by decide +kernel
theorem d_Law_law_284 : decode (mb M_Law_law) 284 = .ok (.lshl, 1) := by decide +kernel
theorem d_Law_law_285 : decode (mb M_Law_law) 285 = .ok (.aload_n 0, 1) := by decide +kernel
theorem d_Law_law_286 : decode (mb M_Law_law) 286 = .ok (.iload 4, 2) := by decide +kernel
theorem d_Law_law_288 : decode (mb M_Law_law) 288 = .ok (.iconst 3, 1) := by decide +kernel
theorem d_Law_law_289 : decode (mb M_Law_law) 289 = .ok (.iadd, 1) := by decide +kernel
theorem d_Law_law_290 : decode (mb M_Law_law) 290 = .ok (.iaload, 1) := by decide +kernel
theorem d_Law_law_291 : decode (mb M_Law_law) 291 = .ok (.i2l, 1) := by decide +kernel
theorem d_Law_law_292 : decode (mb M_Law_law) 292 = .ok (.ldc2_w 141, 3) := by decide +kernel
theorem d_Law_law_295 : decode (mb M_Law_law) 295 = .ok (.land, 1) := by decide +kernel
theorem d_Law_law_296 : decode (mb M_Law_law) 296 = .ok (.lor, 1) := by decide +kernel
theorem d_Law_law_297 : decode (mb M_Law_law) 297 = .ok (.aload_n 3, 1) := by decide +kernel
theorem d_Law_law_298 : decode (mb M_Law_law) 298 = .ok (.invokestatic 143, 3) := by decide +kernel
theorem d_Law_law_301 : decode (mb M_Law_law) 301 = .ok (.istore 5, 2) := by decide +kernel
theorem d_Law_law_303 : decode (mb M_Law_law) 303 = .ok (.aload_n 2, 1) := by decide +kernel
theorem d_Law_law_304 : decode (mb M_Law_law) 304 = .ok (.aload_n 0, 1) := by decide +kernel
theorem d_Law_law_305 : decode (mb M_Law_law) 305 = .ok (.iload 4, 2) := by decide +kernel
theorem d_Law_law_307 : decode (mb M_Law_law) 307 = .ok (.iconst 1, 1) := by decide +kernel
theorem d_Law_law_308 : decode (mb M_Law_law) 308 = .ok (.iadd, 1) := by decide +kernel
theorem d_Law_law_309 : decode (mb M_Law_law) 309 = .ok (.iaload, 1) := by decide +kernel
theorem d_Law_law_310 : decode (mb M_Law_law) 310 = .ok (.aload_n 0, 1) := by decide +kernel
theorem d_Law_law_311 : decode (mb M_Law_law) 311 = .ok (.iload 4, 2) := by decide +kernel
theorem d_Law_law_313 : decode (mb M_Law_law) 313 = .ok (.iconst 2, 1) := by decide +kernel
theorem d_Law_law_314 : decode (mb M_Law_law) 314 = .ok (.iadd, 1) := by decide +kernel
theorem d_Law_law_315 : decode (mb M_Law_law) 315 = .ok (.iaload, 1) := by decide +kernel
theorem d_Law_law_316 : decode (mb M_Law_law) 316 = .ok (.i2l, 1) := by decide +kernel
theorem d_Law_law_317 : decode (mb M_Law_law) 317 = .ok (.bipush 32, 2) := by decide +kernel
theorem d_Law_law_319 : decode (mb M_Law_law) 319 = .ok (.lshl, 1) := by decide +kernel
theorem d_Law_law_320 : decode (mb M_Law_law) 320 = .ok (.aload_n 0, 1) := by decide +kernel
theorem d_Law_law_321 : decode (mb M_Law_law) 321 = .ok (.iload 4, 2) := by decide +kernel
theorem d_Law_law_323 : decode (mb M_Law_law) 323 = .ok (.iconst 3, 1) := by decide +kernel
theorem d_Law_law_324 : decode (mb M_Law_law) 324 = .ok (.iadd, 1) := by decide +kernel
theorem d_Law_law_325 : decode (mb M_Law_law) 325 = .ok (.iaload, 1) := by decide +kernel
theorem d_Law_law_326 : decode (mb M_Law_law) 326 = .ok (.i2l, 1) := by decide +kernel
theorem d_Law_law_327 : decode (mb M_Law_law) 327 = .ok (.ldc2_w 141, 3) := by decide +kernel
theorem d_Law_law_330 : decode (mb M_Law_law) 330 = .ok (.land, 1) := by decide +kernel
theorem d_Law_law_331 : decode (mb M_Law_law) 331 = .ok (.lor, 1) := by decide +kernel
theorem d_Law_law_332 : decode (mb M_Law_law) 332 = .ok (.invokevirtual 146, 3) := by decide +kernel
theorem d_Law_law_335 : decode (mb M_Law_law) 335 = .ok (.istore 6, 2) := by decide +kernel
theorem d_Law_law_337 : decode (mb M_Law_law) 337 = .ok (.aload_n 2, 1) := by decide +kernel
theorem d_Law_law_338 : decode (mb M_Law_law) 338 = .ok (.invokevirtual 138, 3) := by decide +kernel
theorem d_Law_law_341 : decode (mb M_Law_law) 341 = .ok (.iload 5, 2) := by decide +kernel
theorem d_Law_law_343 : decode (mb M_Law_law) 343 = .ok (.if_icmp .eq 5, 3) := by decide +kernel
theorem d_Law_law_346 : decode (mb M_Law_law) 346 = .ok (.iconst 0, 1) := by decide +kernel
theorem d_Law_law_347 : decode (mb M_Law_law) 347 = .ok (.ireturn, 1) := by decide +kernel
theorem d_Law_law_348 : decode (mb M_Law_law) 348 = .ok (.iload 5, 2) := by decide +kernel
theorem d_Law_law_350 : decode (mb M_Law_law) 350 = .ok (.ifCond .ne 15, 3) := by decide +kernel
theorem d_Law_law_353 : decode (mb M_Law_law) 353 = .ok (.aload_n 3, 1) := by decide +kernel
theorem d_Law_law_354 : decode (mb M_Law_law) 354 = .ok (.iconst 0, 1) := by decide +kernel
theorem d_Law_law_355 : decode (mb M_Law_law) 355 = .ok (.laload, 1) := by decide +kernel
theorem d_Law_law_356 : decode (mb M_Law_law) 356 = .ok (.iload 6, 2) := by decide +kernel
theorem d_Law_law_358 : decode (mb M_Law_law) 358 = .ok (.i2l, 1) := by decide +kernel
theorem d_Law_law_359 : decode (mb M_Law_law) 359 = .ok (.lcmp, 1) := by decide +kernel
theorem d_Law_law_360 : decode (mb M_Law_law) 360 = .ok (.ifCond .eq 5, 3) := by decide +kernel
theorem d_Law_law_363 : decode (mb M_Law_law) 363 = .ok (.iconst 0, 1) := by decide +kernel
theorem d_Law_law_364 : decode (mb M_Law_law) 364 = .ok (.ireturn, 1) := by decide +kernel
theorem d_Law_law_365 : decode (mb M_Law_law) 365 = .ok (.goto 2246, 3) := by decide +kernel
theorem d_Law_law_368 : decode (mb M_Law_law) 368 = .ok (.aload_n 1, 1) := by decide +kernel
theorem d_Law_law_369 : decode (mb M_Law_law) 369 = .ok (.aload_n 0, 1) := by decide +kernel
theorem d_Law_law_370 : decode (mb M_Law_law) 370 = .ok (.iload 4, 2) := by decide +kernel
theorem d_Law_law_372 : decode (mb M_Law_law) 372 = .ok (.iconst 1, 1) := by decide +kernel
theorem d_Law_law_373 : decode (mb M_Law_law) 373 = .ok (.iadd, 1) := by decide +kernel
theorem d_Law_law_374 : decode (mb M_Law_law) 374 = .ok (.iaload, 1) := by decide +kernel
theorem d_Law_law_375 : decode (mb M_Law_law) 375 = .ok (.aload_n 3, 1) := by decide +kernel
theorem d_Law_law_376 : decode (mb M_Law_law) 376 = .ok (.invokestatic 147, 3) := by decide +kernel
theorem d_Law_law_379 : decode (mb M_Law_law) 379 = .ok (.istore 5, 2) := by decide +kernel
theorem d_Law_law_381 : decode (mb M_Law_law) 381 = .ok (.aload_n 2, 1) := by decide +kernel
theorem d_Law_law_382 : decode (mb M_Law_law) 382 = .ok (.aload_n 0, 1) := by decide +kernel
theorem d_Law_law_383 : decode (mb M_Law_law) 383 = .ok (.iload 4, 2) := by decide +kernel
theorem d_Law_law_385 : decode (mb M_Law_law) 385 = .ok (.iconst 1, 1) := by decide +kernel
theorem d_Law_law_386 : decode (mb M_Law_law) 386 = .ok (.iadd, 1) := by decide +kernel
theorem d_Law_law_387 : decode (mb M_Law_law) 387 = .ok (.iaload, 1) := by decide +kernel
theorem d_Law_law_388 : decode (mb M_Law_law) 388 = .ok (.invokevirtual 150, 3) := by decide +kernel
theorem d_Law_law_391 : decode (mb M_Law_law) 391 = .ok (.istore 6, 2) := by decide +kernel
theorem d_Law_law_393 : decode (mb M_Law_law) 393 = .ok (.aload_n 2, 1) := by decide +kernel
theorem d_Law_law_394 : decode (mb M_Law_law) 394 = .ok (.invokevirtual 138, 3) := by decide +kernel
theorem d_Law_law_397 : decode (mb M_Law_law) 397 = .ok (.iload 5, 2) := by decide +kernel
theorem d_Law_law_399 : decode (mb M_Law_law) 399 = .ok (.if_icmp .eq 5, 3) := by decide +kernel
theorem d_Law_law_402 : decode (mb M_Law_law) 402 = .ok (.iconst 0, 1) := by decide +kernel
theorem d_Law_law_403 : decode (mb M_Law_law) 403 = .ok (.ireturn, 1) := by decide +kernel
theorem d_Law_law_404 : decode (mb M_Law_law) 404 = .ok (.iload 5, 2) := by decide +kernel
theorem d_Law_law_406 : decode (mb M_Law_law) 406 = .ok (.ifCond .ne 15, 3) := by decide +kernel
theorem d_Law_law_409 : decode (mb M_Law_law) 409 = .ok (.aload_n 3, 1) := by decide +kernel
theorem d_Law_law_410 : decode (mb M_Law_law) 410 = .ok (.iconst 0, 1) := by decide +kernel
theorem d_Law_law_411 : decode (mb M_Law_law) 411 = .ok (.laload, 1) := by decide +kernel
theorem d_Law_law_412 : decode (mb M_Law_law) 412 = .ok (.iload 6, 2) := by decide +kernel
theorem d_Law_law_414 : decode (mb M_Law_law) 414 = .ok (.i2l, 1) := by decide +kernel
theorem d_Law_law_415 : decode (mb M_Law_law) 415 = .ok (.lcmp, 1) := by decide +kernel
theorem d_Law_law_416 : decode (mb M_Law_law) 416 = .ok (.ifCond .eq 5, 3) := by decide +kernel
theorem d_Law_law_419 : decode (mb M_Law_law) 419 = .ok (.iconst 0, 1) := by decide +kernel
theorem d_Law_law_420 : decode (mb M_Law_law) 420 = .ok (.ireturn, 1) := by decide +kernel
theorem d_Law_law_421 : decode (mb M_Law_law) 421 = .ok (.goto 2190, 3) := by decide +kernel
theorem d_Law_law_424 : decode (mb M_Law_law) 424 = .ok (.aload_n 1, 1) := by decide +kernel
theorem d_Law_law_425 : decode (mb M_Law_law) 425 = .ok (.aload_n 0, 1) := by decide +kernel
theorem d_Law_law_426 : decode (mb M_Law_law) 426 = .ok (.iload 4, 2) := by decide +kernel
theorem d_Law_law_428 : decode (mb M_Law_law) 428 = .ok (.iconst 1, 1) := by decide +kernel
theorem d_Law_law_429 : decode (mb M_Law_law) 429 = .ok (.iadd, 1) := by decide +kernel
theorem d_Law_law_430 : decode (mb M_Law_law) 430 = .ok (.iaload, 1) := by decide +kernel
theorem d_Law_law_431 : decode (mb M_Law_law) 431 = .ok (.aload_n 0, 1) := by decide +kernel
theorem d_Law_law_432 : decode (mb M_Law_law) 432 = .ok (.iload 4, 2) := by decide +kernel
theorem d_Law_law_434 : decode (mb M_Law_law) 434 = .ok (.iconst 2, 1) := by decide +kernel
theorem d_Law_law_435 : decode (mb M_Law_law) 435 = .ok (.iadd, 1) := by decide +kernel
theorem d_Law_law_436 : decode (mb M_Law_law) 436 = .ok (.iaload, 1) := by decide +kernel
theorem d_Law_law_437 : decode (mb M_Law_law) 437 = .ok (.i2l, 1) := by decide +kernel
theorem d_Law_law_438 : decode (mb M_Law_law) 438 = .ok (.bipush 32, 2) := by decide +kernel
theorem d_Law_law_440 : decode (mb M_Law_law) 440 = .ok (.lshl, 1) := by decide +kernel
theorem d_Law_law_441 : decode (mb M_Law_law) 441 = .ok (.aload_n 0, 1) := by decide +kernel
theorem d_Law_law_442 : decode (mb M_Law_law) 442 = .ok (.iload 4, 2) := by decide +kernel
theorem d_Law_law_444 : decode (mb M_Law_law) 444 = .ok (.iconst 3, 1) := by decide +kernel
theorem d_Law_law_445 : decode (mb M_Law_law) 445 = .ok (.iadd, 1) := by decide +kernel
theorem d_Law_law_446 : decode (mb M_Law_law) 446 = .ok (.iaload, 1) := by decide +kernel
theorem d_Law_law_447 : decode (mb M_Law_law) 447 = .ok (.i2l, 1) := by decide +kernel
theorem d_Law_law_448 : decode (mb M_Law_law) 448 = .ok (.ldc2_w 141, 3) := by decide +kernel
theorem d_Law_law_451 : decode (mb M_Law_law) 451 = .ok (.land, 1) := by decide +kernel
theorem d_Law_law_452 : decode (mb M_Law_law) 452 = .ok (.lor, 1) := by decide +kernel
theorem d_Law_law_453 : decode (mb M_Law_law) 453 = .ok (.aload_n 3, 1) := by decide +kernel
theorem d_Law_law_454 : decode (mb M_Law_law) 454 = .ok (.invokestatic 151, 3) := by decide +kernel
theorem d_Law_law_457 : decode (mb M_Law_law) 457 = .ok (.istore 5, 2) := by decide +kernel
theorem d_Law_law_459 : decode (mb M_Law_law) 459 = .ok (.aload_n 2, 1) := by decide +kernel
theorem d_Law_law_460 : decode (mb M_Law_law) 460 = .ok (.aload_n 0, 1) := by decide +kernel
theorem d_Law_law_461 : decode (mb M_Law_law) 461 = .ok (.iload 4, 2) := by decide +kernel
theorem d_Law_law_463 : decode (mb M_Law_law) 463 = .ok (.iconst 1, 1) := by decide +kernel
theorem d_Law_law_464 : decode (mb M_Law_law) 464 = .ok (.iadd, 1) := by decide +kernel
theorem d_Law_law_465 : decode (mb M_Law_law) 465 = .ok (.iaload, 1) := by decide +kernel
theorem d_Law_law_466 : decode (mb M_Law_law) 466 = .ok (.aload_n 0, 1) := by decide +kernel
theorem d_Law_law_467 : decode (mb M_Law_law) 467 = .ok (.iload 4, 2) := by decide +kernel
theorem d_Law_law_469 : decode (mb M_Law_law) 469 = .ok (.iconst 2, 1) := by decide +kernel
theorem d_Law_law_470 : decode (mb M_Law_law) 470 = .ok (.iadd, 1) := by decide +kernel
theorem d_Law_law_471 : decode (mb M_Law_law) 471 = .ok (.iaload, 1) := by decide +kernel
theorem d_Law_law_472 : decode (mb M_Law_law) 472 = .ok (.i2l, 1) := by decide +kernel
theorem d_Law_law_473 : decode (mb M_Law_law) 473 = .ok (.bipush 32, 2) := by decide +kernel
theorem d_Law_law_475 : decode (mb M_Law_law) 475 = .ok (.lshl, 1) := by decide +kernel
theorem d_Law_law_476 : decode (mb M_Law_law) 476 = .ok (.aload_n 0, 1) := by decide +kernel
theorem d_Law_law_477 : decode (mb M_Law_law) 477 = .ok (.iload 4, 2) := by decide +kernel
theorem d_Law_law_479 : decode (mb M_Law_law) 479 = .ok (.iconst 3, 1) := by decide +kernel
theorem d_Law_law_480 : decode (mb M_Law_law) 480 = .ok (.iadd, 1) := by decide +kernel
theorem d_Law_law_481 : decode (mb M_Law_law) 481 = .ok (.iaload, 1) := by decide +kernel
theorem d_Law_law_482 : decode (mb M_Law_law) 482 = .ok (.i2l, 1) := by decide +kernel
theorem d_Law_law_483 : decode (mb M_Law_law) 483 = .ok (.ldc2_w 141, 3) := by decide +kernel
theorem d_Law_law_486 : decode (mb M_Law_law) 486 = .ok (.land, 1) := by decide +kernel
theorem d_Law_law_487 : decode (mb M_Law_law) 487 = .ok (.lor, 1) := by decide +kernel
theorem d_Law_law_488 : decode (mb M_Law_law) 488 = .ok (.invokevirtual 153, 3) := by decide +kernel
theorem d_Law_law_491 : decode (mb M_Law_law) 491 = .ok (.istore 6, 2) := by decide +kernel
theorem d_Law_law_493 : decode (mb M_Law_law) 493 = .ok (.aload_n 2, 1) := by decide +kernel
theorem d_Law_law_494 : decode (mb M_Law_law) 494 = .ok (.invokevirtual 138, 3) := by decide +kernel
theorem d_Law_law_497 : decode (mb M_Law_law) 497 = .ok (.iload 5, 2) := by decide +kernel
theorem d_Law_law_499 : decode (mb M_Law_law) 499 = .ok (.if_icmp .eq 5, 3) := by decide +kernel
theorem d_Law_law_502 : decode (mb M_Law_law) 502 = .ok (.iconst 0, 1) := by decide +kernel
theorem d_Law_law_503 : decode (mb M_Law_law) 503 = .ok (.ireturn, 1) := by decide +kernel
theorem d_Law_law_504 : decode (mb M_Law_law) 504 = .ok (.iload 5, 2) := by decide +kernel
theorem d_Law_law_506 : decode (mb M_Law_law) 506 = .ok (.ifCond .ne 15, 3) := by decide +kernel
theorem d_Law_law_509 : decode (mb M_Law_law) 509 = .ok (.aload_n 3, 1) := by decide +kernel
theorem d_Law_law_510 : decode (mb M_Law_law) 510 = .ok (.iconst 0, 1) := by decide +kernel
theorem d_Law_law_511 : decode (mb M_Law_law) 511 = .ok (.laload, 1) := by decide +kernel
theorem d_Law_law_512 : decode (mb M_Law_law) 512 = .ok (.iload 6, 2) := by decide +kernel
theorem d_Law_law_514 : decode (mb M_Law_law) 514 = .ok (.i2l, 1) := by decide +kernel
theorem d_Law_law_515 : decode (mb M_Law_law) 515 = .ok (.lcmp, 1) := by decide +kernel
theorem d_Law_law_516 : decode (mb M_Law_law) 516 = .ok (.ifCond .eq 5, 3) := by decide +kernel
theorem d_Law_law_519 : decode (mb M_Law_law) 519 = .ok (.iconst 0, 1) := by decide +kernel
theorem d_Law_law_520 : decode (mb M_Law_law) 520 = .ok (.ireturn, 1) := by decide +kernel
theorem d_Law_law_521 : decode (mb M_Law_law) 521 = .ok (.goto 2090, 3) := by decide +kernel
theorem d_Law_law_524 : decode (mb M_Law_law) 524 = .ok (.aload_n 1, 1) := by decide +kernel
theorem d_Law_law_525 : decode (mb M_Law_law) 525 = .ok (.aload_n 0, 1) := by decide +kernel
theorem d_Law_law_526 : decode (mb M_Law_law) 526 = .ok (.iload 4, 2) := by decide +kernel
theorem d_Law_law_528 : decode (mb M_Law_law) 528 = .ok (.iconst 1, 1) := by decide +kernel
theorem d_Law_law_529 : decode (mb M_Law_law) 529 = .ok (.iadd, 1) := by decide +kernel
theorem d_Law_law_530 : decode (mb M_Law_law) 530 = .ok (.iaload, 1) := by decide +kernel
theorem d_Law_law_531 : decode (mb M_Law_law) 531 = .ok (.aload_n 0, 1) := by decide +kernel
theorem d_Law_law_532 : decode (mb M_Law_law) 532 = .ok (.iload 4, 2) := by decide +kernel
theorem d_Law_law_534 : decode (mb M_Law_law) 534 = .ok (.iconst 2, 1) := by decide +kernel
theorem d_Law_law_535 : decode (mb M_Law_law) 535 = .ok (.iadd, 1) := by decide +kernel
theorem d_Law_law_536 : decode (mb M_Law_law) 536 = .ok (.iaload, 1) := by decide +kernel
theorem d_Law_law_537 : decode (mb M_Law_law) 537 = .ok (.invokestatic 154, 3) := by decide +kernel
theorem d_Law_law_540 : decode (mb M_Law_law) 540 = .ok (.istore 5, 2) := by decide +kernel
theorem d_Law_law_542 : decode (mb M_Law_law) 542 = .ok (.aload_n 2, 1) := by decide +kernel
theorem d_Law_law_543 : decode (mb M_Law_law) 543 = .ok (.aload_n 0, 1) := by decide +kernel
theorem d_Law_law_544 : decode (mb M_Law_law) 544 = .ok (.iload 4, 2) := by decide +kernel
theorem d_Law_law_546 : decode (mb M_Law_law) 546 = .ok (.iconst 1, 1) := by decide +kernel
theorem d_Law_law_547 : decode (mb M_Law_law) 547 = .ok (.iadd, 1) := by decide +kernel
theorem d_Law_law_548 : decode (mb M_Law_law) 548 = .ok (.iaload, 1) := by decide +kernel
theorem d_Law_law_549 : decode (mb M_Law_law) 549 = .ok (.aload_n 0, 1) := by decide +kernel
theorem d_Law_law_550 : decode (mb M_Law_law) 550 = .ok (.iload 4, 2) := by decide +kernel
theorem d_Law_law_552 : decode (mb M_Law_law) 552 = .ok (.iconst 2, 1) := by decide +kernel
theorem d_Law_law_553 : decode (mb M_Law_law) 553 = .ok (.iadd, 1) := by decide +kernel
theorem d_Law_law_554 : decode (mb M_Law_law) 554 = .ok (.iaload, 1) := by decide +kernel
theorem d_Law_law_555 : decode (mb M_Law_law) 555 = .ok (.invokevirtual 157, 3) := by decide +kernel
theorem d_Law_law_558 : decode (mb M_Law_law) 558 = .ok (.aload_n 2, 1) := by decide +kernel
theorem d_Law_law_559 : decode (mb M_Law_law) 559 = .ok (.invokevirtual 138, 3) := by decide +kernel
theorem d_Law_law_562 : decode (mb M_Law_law) 562 = .ok (.iload 5, 2) := by decide +kernel
theorem d_Law_law_564 : decode (mb M_Law_law) 564 = .ok (.if_icmp .eq 5, 3) := by decide +kernel
theorem d_Law_law_567 : decode (mb M_Law_law) 567 = .ok (.iconst 0, 1) := by decide +kernel
theorem d_Law_law_568 : decode (mb M_Law_law) 568 = .ok (.ireturn, 1) := by decide +kernel
theorem d_Law_law_569 : decode (mb M_Law_law) 569 = .ok (.goto 2042, 3) := by decide +kernel
theorem d_Law_law_572 : decode (mb M_Law_law) 572 = .ok (.aload_n 1, 1) := by decide +kernel
theorem d_Law_law_573 : decode (mb M_Law_law) 573 = .ok (.aload_n 3, 1) := by decide +kernel
theorem d_Law_law_574 : decode (mb M_Law_law) 574 = .ok (.invokestatic 158, 3) := by decide +kernel
theorem d_Law_law_577 : decode (mb M_Law_law) 577 = .ok (.istore 5, 2) := by decide +kernel
theorem d_Law_law_579 : decode (mb M_Law_law) 579 = .ok (.aload_n 2, 1) := by decide +kernel
theorem d_Law_law_580 : decode (mb M_Law_law) 580 = .ok (.invokevirtual 161, 3) := by decide +kernel
theorem d_Law_law_583 : decode (mb M_Law_law) 583 = .ok (.istore 6, 2) := by decide +kernel
theorem d_Law_law_585 : decode (mb M_Law_law) 585 = .ok (.aload_n 2, 1) := by decide +kernel
theorem d_Law_law_586 : decode (mb M_Law_law) 586 = .ok (.invokevirtual 138, 3) := by decide +kernel
theorem d_Law_law_589 : decode (mb M_Law_law) 589 = .ok (.iload 5, 2) := by decide +kernel
theorem d_Law_law_591 : decode (mb M_Law_law) 591 = .ok (.if_icmp .eq 5, 3) := by decide +kernel
theorem d_Law_law_594 : decode (mb M_Law_law) 594 = .ok (.iconst 0, 1) := by decide +kernel
theorem d_Law_law_595 : decode (mb M_Law_law) 595 = .ok (.ireturn, 1) := by decide +kernel
theorem d_Law_law_596 : decode (mb M_Law_law) 596 = .ok (.iload 5, 2) := by decide +kernel
theorem d_Law_law_598 : decode (mb M_Law_law) 598 = .ok (.ifCond .ne 15, 3) := by decide +kernel
theorem d_Law_law_601 : decode (mb M_Law_law) 601 = .ok (.aload_n 3, 1) := by decide +kernel
theorem d_Law_law_602 : decode (mb M_Law_law) 602 = .ok (.iconst 0, 1) := by decide +kernel
theorem d_Law_law_603 : decode (mb M_Law_law) 603 = .ok (.laload, 1) := by decide +kernel
theorem d_Law_law_604 : decode (mb M_Law_law) 604 = .ok (.iload 6, 2) := by decide +kernel
theorem d_Law_law_606 : decode (mb M_Law_law) 606 = .ok (.i2l, 1) := by decide +kernel
theorem d_Law_law_607 : decode (mb M_Law_law) 607 = .ok (.lcmp, 1) := by decide +kernel
theorem d_Law_law_608 : decode (mb M_Law_law) 608 = .ok (.ifCond .eq 5, 3) := by decide +kernel
theorem d_Law_law_611 : decode (mb M_Law_law) 611 = .ok (.iconst 0, 1) := by decide +kernel
theorem d_Law_law_612 : decode (mb M_Law_law) 612 = .ok (.ireturn, 1) := by decide +kernel
theorem d_Law_law_613 : decode (mb M_Law_law) 613 = .ok (.goto 1998, 3) := by decide +kernel
theorem d_Law_law_616 : decode (mb M_Law_law) 616 = .ok (.aload_n 1, 1) := by decide +kernel
theorem d_Law_law_617 : decode (mb M_Law_law) 617 = .ok (.aload_n 3, 1) := by decide +kernel
theorem d_Law_law_618 : decode (mb M_Law_law) 618 = .ok (.invokestatic 162, 3) := by decide +kernel
theorem d_Law_law_621 : decode (mb M_Law_law) 621 = .ok (.istore 5, 2) := by decide +kernel
theorem d_Law_law_623 : decode (mb M_Law_law) 623 = .ok (.aload_n 2, 1) := by decide +kernel
theorem d_Law_law_624 : decode (mb M_Law_law) 624 = .ok (.invokevirtual 164, 3) := by decide +kernel
theorem d_Law_law_627 : decode (mb M_Law_law) 627 = .ok (.istore 6, 2) := by decide +kernel
theorem d_Law_law_629 : decode (mb M_Law_law) 629 = .ok (.aload_n 2, 1) := by decide +kernel
theorem d_Law_law_630 : decode (mb M_Law_law) 630 = .ok (.invokevirtual 138, 3) := by decide +kernel
theorem d_Law_law_633 : decode (mb M_Law_law) 633 = .ok (.iload 5, 2) := by decide +kernel
theorem d_Law_law_635 : decode (mb M_Law_law) 635 = .ok (.if_icmp .eq 5, 3) := by decide +kernel
theorem d_Law_law_638 : decode (mb M_Law_law) 638 = .ok (.iconst 0, 1) := by decide +kernel
theorem d_Law_law_639 : decode (mb M_Law_law) 639 = .ok (.ireturn, 1) := by decide +kernel
theorem d_Law_law_640 : decode (mb M_Law_law) 640 = .ok (.iload 5, 2) := by decide +kernel
theorem d_Law_law_642 : decode (mb M_Law_law) 642 = .ok (.ifCond .ne 15, 3) := by decide +kernel
theorem d_Law_law_645 : decode (mb M_Law_law) 645 = .ok (.aload_n 3, 1) := by decide +kernel
theorem d_Law_law_646 : decode (mb M_Law_law) 646 = .ok (.iconst 0, 1) := by decide +kernel
theorem d_Law_law_647 : decode (mb M_Law_law) 647 = .ok (.laload, 1) := by decide +kernel
theorem d_Law_law_648 : decode (mb M_Law_law) 648 = .ok (.iload 6, 2) := by decide +kernel
theorem d_Law_law_650 : decode (mb M_Law_law) 650 = .ok (.i2l, 1) := by decide +kernel
theorem d_Law_law_651 : decode (mb M_Law_law) 651 = .ok (.lcmp, 1) := by decide +kernel
theorem d_Law_law_652 : decode (mb M_Law_law) 652 = .ok (.ifCond .eq 5, 3) := by decide +kernel
theorem d_Law_law_655 : decode (mb M_Law_law) 655 = .ok (.iconst 0, 1) := by decide +kernel
theorem d_Law_law_656 : decode (mb M_Law_law) 656 = .ok (.ireturn, 1) := by decide +kernel
theorem d_Law_law_657 : decode (mb M_Law_law) 657 = .ok (.goto 1954, 3) := by decide +kernel
theorem d_Law_law_660 : decode (mb M_Law_law) 660 = .ok (.aload_n 1, 1) := by decide +kernel
theorem d_Law_law_661 : decode (mb M_Law_law) 661 = .ok (.invokevirtual 165, 3) := by decide +kernel
theorem d_Law_law_664 : decode (mb M_Law_law) 664 = .ok (.aload_n 2, 1) := by decide +kernel
theorem d_Law_law_665 : decode (mb M_Law_law) 665 = .ok (.invokevirtual 168, 3) := by decide +kernel
theorem d_Law_law_668 : decode (mb M_Law_law) 668 = .ok (.if_icmp .eq 1943, 3) := by decide +kernel
theorem d_Law_law_671 : decode (mb M_Law_law) 671 = .ok (.iconst 0, 1) := by decide +kernel
theorem d_Law_law_672 : decode (mb M_Law_law) 672 = .ok (.ireturn, 1) := by decide +kernel
theorem d_Law_law_673 : decode (mb M_Law_law) 673 = .ok (.aload_n 1, 1) := by decide +kernel
theorem d_Law_law_674 : decode (mb M_Law_law) 674 = .ok (.aload_n 0, 1) := by decide +kernel
theorem d_Law_law_675 : decode (mb M_Law_law) 675 = .ok (.iload 4, 2) := by decide +kernel
theorem d_Law_law_677 : decode (mb M_Law_law) 677 = .ok (.iconst 1, 1) := by decide +kernel
theorem d_Law_law_678 : decode (mb M_Law_law) 678 = .ok (.iadd, 1) := by decide +kernel
theorem d_Law_law_679 : decode (mb M_Law_law) 679 = .ok (.iaload, 1) := by decide +kernel
theorem d_Law_law_680 : decode (mb M_Law_law) 680 = .ok (.aload_n 3, 1) := by decide +kernel
theorem d_Law_law_681 : decode (mb M_Law_law) 681 = .ok (.invokestatic 169, 3) := by decide +kernel
theorem d_Law_law_684 : decode (mb M_Law_law) 684 = .ok (.istore 5, 2) := by decide +kernel
theorem d_Law_law_686 : decode (mb M_Law_law) 686 = .ok (.aload_n 2, 1) := by decide +kernel
theorem d_Law_law_687 : decode (mb M_Law_law) 687 = .ok (.aload_n 0, 1) := by decide +kernel
theorem d_Law_law_688 : decode (mb M_Law_law) 688 = .ok (.iload 4, 2) := by decide +kernel
theorem d_Law_law_690 : decode (mb M_Law_law) 690 = .ok (.iconst 1, 1) := by decide +kernel
theorem d_Law_law_691 : decode (mb M_Law_law) 691 = .ok (.iadd, 1) := by decide +kernel
theorem d_Law_law_692 : decode (mb M_Law_law) 692 = .ok (.iaload, 1) := by decide +kernel
theorem d_Law_law_693 : decode (mb M_Law_law) 693 = .ok (.invokevirtual 171, 3) := by decide +kernel
theorem d_Law_law_696 : decode (mb M_Law_law) 696 = .ok (.lstore 6, 2) := by decide +kernel
theorem d_Law_law_698 : decode (mb M_Law_law) 698 = .ok (.aload_n 2, 1) := by decide +kernel
theorem d_Law_law_699 : decode (mb M_Law_law) 699 = .ok (.invokevirtual 138, 3) := by decide +kernel
theorem d_Law_law_702 : decode (mb M_Law_law) 702 = .ok (.iload 5, 2) := by decide +kernel
theorem d_Law_law_704 : decode (mb M_Law_law) 704 = .ok (.if_icmp .eq 5, 3) := by decide +kernel
theorem d_Law_law_707 : decode (mb M_Law_law) 707 = .ok (.iconst 0, 1) := by decide +kernel
theorem d_Law_law_708 : decode (mb M_Law_law) 708 = .ok (.ireturn, 1) := by decide +kernel
theorem d_Law_law_709 : decode (mb M_Law_law) 709 = .ok (.iload 5, 2) := by decide +kernel
theorem d_Law_law_711 : decode (mb M_Law_law) 711 = .ok (.ifCond .ne 14, 3) := by decide +kernel
theorem d_Law_law_714 : decode (mb M_Law_law) 714 = .ok (.aload_n 3, 1) := by decide +kernel
theorem d_Law_law_715 : decode (mb M_Law_law) 715 = .ok (.iconst 0, 1) := by decide +kernel
theorem d_Law_law_716 : decode (mb M_Law_law) 716 = .ok (.laload, 1) := by decide +kernel
theorem d_Law_law_717 : decode (mb M_Law_law) 717 = .ok (.lload 6, 2) := by decide +kernel
theorem d_Law_law_719 : decode (mb M_Law_law) 719 = .ok (.lcmp, 1) := by decide +kernel
theorem d_Law_law_720 : decode (mb M_Law_law) 720 = .ok (.ifCond .eq 5, 3) := by decide +kernel
theorem d_Law_law_723 : decode (mb M_Law_law) 723 = .ok (.iconst 0, 1) := by decide +kernel
theorem d_Law_law_724 : decode (mb M_Law_law) 724 = .ok (.ireturn, 1) := by decide +kernel
theorem d_Law_law_725 : decode (mb M_Law_law) 725 = .ok (.goto 1886, 3) := by decide +kernel
theorem d_Law_law_728 : decode (mb M_Law_law) 728 = .ok (.aload_n 1, 1) := by decide +kernel
theorem d_Law_law_729 : decode (mb M_Law_law) 729 = .ok (.invokevirtual 172, 3) := by decide +kernel
theorem d_Law_law_732 : decode (mb M_Law_law) 732 = .ok (.aload_n 2, 1) := by decide +kernel
theorem d_Law_law_733 : decode (mb M_Law_law) 733 = .ok (.invokevirtual 175, 3) := by decide +kernel
theorem d_Law_law_736 : decode (mb M_Law_law) 736 = .ok (.if_icmp .eq 1875, 3) := by decide +kernel
theorem d_Law_law_739 : decode (mb M_Law_law) 739 = .ok (.iconst 0, 1) := by decide +kernel
theorem d_Law_law_740 : decode (mb M_Law_law) 740 = .ok (.ireturn, 1) := by decide +kernel
theorem d_Law_law_741 : decode (mb M_Law_law) 741 = .ok (.aload_n 1, 1) := by decide +kernel
theorem d_Law_law_742 : decode (mb M_Law_law) 742 = .ok (.aload_n 0, 1) := by decide +kernel
theorem d_Law_law_743 : decode (mb M_Law_law) 743 = .ok (.iload 4, 2) := by decide +kernel
theorem d_Law_law_745 : decode (mb M_Law_law) 745 = .ok (.iconst 1, 1) := by decide +kernel
theorem d_Law_law_746 : decode (mb M_Law_law) 746 = .ok (.iadd, 1) := by decide +kernel
theorem d_Law_law_747 : decode (mb M_Law_law) 747 = .ok (.iaload, 1) := by decide +kernel
theorem d_Law_law_748 : decode (mb M_Law_law) 748 = .ok (.aload_n 3, 1) := by decide +kernel
theorem d_Law_law_749 : decode (mb M_Law_law) 749 = .ok (.invokestatic 176, 3) := by decide +kernel
theorem d_Law_law_752 : decode (mb M_Law_law) 752 = .ok (.istore 5, 2) := by decide +kernel
theorem d_Law_law_754 : decode (mb M_Law_law) 754 = .ok (.aload_n 2, 1) := by decide +kernel
theorem d_Law_law_755 : decode (mb M_Law_law) 755 = .ok (.aload_n 0, 1) := by decide +kernel
theorem d_Law_law_756 : decode (mb M_Law_law) 756 = .ok (.iload 4, 2) := by decide +kernel
theorem d_Law_law_758 : decode (mb M_Law_law) 758 = .ok (.iconst 1, 1) := by decide +kernel
theorem d_Law_law_759 : decode (mb M_Law_law) 759 = .ok (.iadd, 1) := by decide +kernel
theorem d_Law_law_760 : decode (mb M_Law_law) 760 = .ok (.iaload, 1) := by decide +kernel
theorem d_Law_law_761 : decode (mb M_Law_law) 761 = .ok (.invokevirtual 178, 3) := by decide +kernel
theorem d_Law_law_764 : decode (mb M_Law_law) 764 = .ok (.istore 6, 2) := by decide +kernel
theorem d_Law_law_766 : decode (mb M_Law_law) 766 = .ok (.aload_n 2, 1) := by decide +kernel
theorem d_Law_law_767 : decode (mb M_Law_law) 767 = .ok (.invokevirtual 138, 3) := by decide +kernel
theorem d_Law_law_770 : decode (mb M_Law_law) 770 = .ok (.iload 5, 2) := by decide +kernel
theorem d_Law_law_772 : decode (mb M_Law_law) 772 = .ok (.if_icmp .eq 5, 3) := by decide +kernel
theorem d_Law_law_775 : decode (mb M_Law_law) 775 = .ok (.iconst 0, 1) := by decide +kernel
theorem d_Law_law_776 : decode (mb M_Law_law) 776 = .ok (.ireturn, 1) := by decide +kernel
theorem d_Law_law_777 : decode (mb M_Law_law) 777 = .ok (.iload 5, 2) := by decide +kernel
theorem d_Law_law_779 : decode (mb M_Law_law) 779 = .ok (.ifCond .ne 15, 3) := by decide +kernel
theorem d_Law_law_782 : decode (mb M_Law_law) 782 = .ok (.aload_n 3, 1) := by decide +kernel
theorem d_Law_law_783 : decode (mb M_Law_law) 783 = .ok (.iconst 0, 1) := by decide +kernel
theorem d_Law_law_784 : decode (mb M_Law_law) 784 = .ok (.laload, 1) := by decide +kernel
theorem d_Law_law_785 : decode (mb M_Law_law) 785 = .ok (.iload 6, 2) := by decide +kernel
theorem d_Law_law_787 : decode (mb M_Law_law) 787 = .ok (.i2l, 1) := by decide +kernel
theorem d_Law_law_788 : decode (mb M_Law_law) 788 = .ok (.lcmp, 1) := by decide +kernel
theorem d_Law_law_789 : decode (mb M_Law_law) 789 = .ok (.ifCond .eq 5, 3) := by decide +kernel
theorem d_Law_law_792 : decode (mb M_Law_law) 792 = .ok (.iconst 0, 1) := by decide +kernel
theorem d_Law_law_793 : decode (mb M_Law_law) 793 = .ok (.ireturn, 1) := by decide +kernel
theorem d_Law_law_794 : decode (mb M_Law_law) 794 = .ok (.goto 1817, 3) := by decide +kernel
theorem d_Law_law_797 : decode (mb M_Law_law) 797 = .ok (.aload_n 1, 1) := by decide +kernel
theorem d_Law_law_798 : decode (mb M_Law_law) 798 = .ok (.aload_n 0, 1) := by decide +kernel
theorem d_Law_law_799 : decode (mb M_Law_law) 799 = .ok (.iload 4, 2) := by decide +kernel
theorem d_Law_law_801 : decode (mb M_Law_law) 801 = .ok (.iconst 1, 1) := by decide +kernel
theorem d_Law_law_802 : decode (mb M_Law_law) 802 = .ok (.iadd, 1) := by decide +kernel
theorem d_Law_law_803 : decode (mb M_Law_law) 803 = .ok (.iaload, 1) := by decide +kernel
theorem d_Law_law_804 : decode (mb M_Law_law) 804 = .ok (.aload_n 0, 1) := by decide +kernel
theorem d_Law_law_805 : decode (mb M_Law_law) 805 = .ok (.iload 4, 2) := by decide +kernel
theorem d_Law_law_807 : decode (mb M_Law_law) 807 = .ok (.iconst 2, 1) := by decide +kernel
theorem d_Law_law_808 : decode (mb M_Law_law) 808 = .ok (.iadd, 1) := by decide +kernel
theorem d_Law_law_809 : decode (mb M_Law_law) 809 = .ok (.iaload, 1) := by decide +kernel
theorem d_Law_law_810 : decode (mb M_Law_law) 810 = .ok (.aload_n 3, 1) := by decide +kernel
theorem d_Law_law_811 : decode (mb M_Law_law) 811 = .ok (.invokestatic 179, 3) := by decide +kernel
theorem d_Law_law_814 : decode (mb M_Law_law) 814 = .ok (.istore 5, 2) := by decide +kernel
theorem d_Law_law_816 : decode (mb M_Law_law) 816 = .ok (.aload_n 2, 1) := by decide +kernel
theorem d_Law_law_817 : decode (mb M_Law_law) 817 = .ok (.aload_n 0, 1) := by decide +kernel
theorem d_Law_law_818 : decode (mb M_Law_law) 818 = .ok (.iload 4, 2) := by decide +kernel
theorem d_Law_law_820 : decode (mb M_Law_law) 820 = .ok (.iconst 1, 1) := by decide +kernel
theorem d_Law_law_821 : decode (mb M_Law_law) 821 = .ok (.iadd, 1) := by decide +kernel
theorem d_Law_law_822 : decode (mb M_Law_law) 822 = .ok (.iaload, 1) := by decide +kernel
theorem d_Law_law_823 : decode (mb M_Law_law) 823 = .ok (.aload_n 0, 1) := by decide +kernel
theorem d_Law_law_824 : decode (mb M_Law_law) 824 = .ok (.iload 4, 2) := by decide +kernel
theorem d_Law_law_826 : decode (mb M_Law_law) 826 = .ok (.iconst 2, 1) := by decide +kernel
theorem d_Law_law_827 : decode (mb M_Law_law) 827 = .ok (.iadd, 1) := by decide +kernel
theorem d_Law_law_828 : decode (mb M_Law_law) 828 = .ok (.iaload, 1) := by decide +kernel
theorem d_Law_law_829 : decode (mb M_Law_law) 829 = .ok (.invokevirtual 181, 3) := by decide +kernel
theorem d_Law_law_832 : decode (mb M_Law_law) 832 = .ok (.lstore 6, 2) := by decide +kernel
theorem d_Law_law_834 : decode (mb M_Law_law) 834 = .ok (.aload_n 2, 1) := by decide +kernel
theorem d_Law_law_835 : decode (mb M_Law_law) 835 = .ok (.invokevirtual 138, 3) := by decide +kernel
theorem d_Law_law_838 : decode (mb M_Law_law) 838 = .ok (.iload 5, 2) := by decide +kernel
theorem d_Law_law_840 : decode (mb M_Law_law) 840 = .ok (.if_icmp .eq 5, 3) := by decide +kernel
theorem d_Law_law_843 : decode (mb M_Law_law) 843 = .ok (.iconst 0, 1) := by decide +kernel
theorem d_Law_law_844 : decode (mb M_Law_law) 844 = .ok (.ireturn, 1) := by decide +kernel
theorem d_Law_law_845 : decode (mb M_Law_law) 845 = .ok (.iload 5, 2) := by decide +kernel
theorem d_Law_law_847 : decode (mb M_Law_law) 847 = .ok (.ifCond .ne 14, 3) := by decide +kernel
theorem d_Law_law_850 : decode (mb M_Law_law) 850 = .ok (.aload_n 3, 1) := by decide +kernel
theorem d_Law_law_851 : decode (mb M_Law_law) 851 = .ok (.iconst 0, 1) := by decide +kernel
theorem d_Law_law_852 : decode (mb M_Law_law) 852 = .ok (.laload, 1) := by decide +kernel
theorem d_Law_law_853 : decode (mb M_Law_law) 853 = .ok (.lload 6, 2) := by decide +kernel
theorem d_Law_law_855 : decode (mb M_Law_law) 855 = .ok (.lcmp, 1) := by decide +kernel
theorem d_Law_law_856 : decode (mb M_Law_law) 856 = .ok (.ifCond .eq 5, 3) := by decide +kernel
theorem d_Law_law_859 : decode (mb M_Law_law) 859 = .ok (.iconst 0, 1) := by decide +kernel
theorem d_Law_law_860 : decode (mb M_Law_law) 860 = .ok (.ireturn, 1) := by decide +kernel
theorem d_Law_law_861 : decode (mb M_Law_law) 861 = .ok (.goto 1750, 3) := by decide +kernel
theorem d_Law_law_864 : decode (mb M_Law_law) 864 = .ok (.aload_n 1, 1) := by decide +kernel
theorem d_Law_law_865 : decode (mb M_Law_law) 865 = .ok (.aload_n 0, 1) := by decide +kernel
theorem d_Law_law_866 : decode (mb M_Law_law) 866 = .ok (.iload 4, 2) := by decide +kernel
theorem d_Law_law_868 : decode (mb M_Law_law) 868 = .ok (.iconst 1, 1) := by decide +kernel
theorem d_Law_law_869 : decode (mb M_Law_law) 869 = .ok (.iadd, 1) := by decide +kernel
theorem d_Law_law_870 : decode (mb M_Law_law) 870 = .ok (.iaload, 1) := by decide +kernel
theorem d_Law_law_871 : decode (mb M_Law_law) 871 = .ok (.aload_n 0, 1) := by decide +kernel
theorem d_Law_law_872 : decode (mb M_Law_law) 872 = .ok (.iload 4, 2) := by decide +kernel
theorem d_Law_law_874 : decode (mb M_Law_law) 874 = .ok (.iconst 2, 1) := by decide +kernel
theorem d_Law_law_875 : decode (mb M_Law_law) 875 = .ok (.iadd, 1) := by decide +kernel
theorem d_Law_law_876 : decode (mb M_Law_law) 876 = .ok (.iaload, 1) := by decide +kernel
theorem d_Law_law_877 : decode (mb M_Law_law) 877 = .ok (.aload_n 3, 1) := by decide +kernel
theorem d_Law_law_878 : decode (mb M_Law_law) 878 = .ok (.invokestatic 182, 3) := by decide +kernel
theorem d_Law_law_881 : decode (mb M_Law_law) 881 = .ok (.istore 5, 2) := by decide +kernel
theorem d_Law_law_883 : decode (mb M_Law_law) 883 = .ok (.aload_n 2, 1) := by decide +kernel
theorem d_Law_law_884 : decode (mb M_Law_law) 884 = .ok (.aload_n 0, 1) := by decide +kernel
theorem d_Law_law_885 : decode (mb M_Law_law) 885 = .ok (.iload 4, 2) := by decide +kernel
theorem d_Law_law_887 : decode (mb M_Law_law) 887 = .ok (.iconst 1, 1) := by decide +kernel
theorem d_Law_law_888 : decode (mb M_Law_law) 888 = .ok (.iadd, 1) := by decide +kernel
theorem d_Law_law_889 : decode (mb M_Law_law) 889 = .ok (.iaload, 1) := by decide +kernel
theorem d_Law_law_890 : decode (mb M_Law_law) 890 = .ok (.aload_n 0, 1) := by decide +kernel
theorem d_Law_law_891 : decode (mb M_Law_law) 891 = .ok (.iload 4, 2) := by decide +kernel
theorem d_Law_law_893 : decode (mb M_Law_law) 893 = .ok (.iconst 2, 1) := by decide +kernel
theorem d_Law_law_894 : decode (mb M_Law_law) 894 = .ok (.iadd, 1) := by decide +kernel
theorem d_Law_law_895 : decode (mb M_Law_law) 895 = .ok (.iaload, 1) := by decide +kernel
theorem d_Law_law_896 : decode (mb M_Law_law) 896 = .ok (.invokevirtual 184, 3) := by decide +kernel
theorem d_Law_law_899 : decode (mb M_Law_law) 899 = .ok (.lstore 6, 2) := by decide +kernel
theorem d_Law_law_901 : decode (mb M_Law_law) 901 = .ok (.aload_n 2, 1) := by decide +kernel
theorem d_Law_law_902 : decode (mb M_Law_law) 902 = .ok (.invokevirtual 138, 3) := by decide +kernel
theorem d_Law_law_905 : decode (mb M_Law_law) 905 = .ok (.iload 5, 2) := by decide +kernel
theorem d_Law_law_907 : decode (mb M_Law_law) 907 = .ok (.if_icmp .eq 5, 3) := by decide +kernel
theorem d_Law_law_910 : decode (mb M_Law_law) 910 = .ok (.iconst 0, 1) := by decide +kernel
theorem d_Law_law_911 : decode (mb M_Law_law) 911 = .ok (.ireturn, 1) := by decide +kernel
theorem d_Law_law_912 : decode (mb M_Law_law) 912 = .ok (.iload 5, 2) := by decide +kernel
theorem d_Law_law_914 : decode (mb M_Law_law) 914 = .ok (.ifCond .ne 14, 3) := by decide +kernel
theorem d_Law_law_917 : decode (mb M_Law_law) 917 = .ok (.aload_n 3, 1) := by decide +kernel
theorem d_Law_law_918 : decode (mb M_Law_law) 918 = .ok (.iconst 0, 1) := by decide +kernel
theorem d_Law_law_919 : decode (mb M_Law_law) 919 = .ok (.laload, 1) := by decide +kernel
theorem d_Law_law_920 : decode (mb M_Law_law) 920 = .ok (.lload 6, 2) := by decide +kernel
theorem d_Law_law_922 : decode (mb M_Law_law) 922 = .ok (.lcmp, 1) := by decide +kernel
theorem d_Law_law_923 : decode (mb M_Law_law) 923 = .ok (.ifCond .eq 5, 3) := by decide +kernel
theorem d_Law_law_926 : decode (mb M_Law_law) 926 = .ok (.iconst 0, 1) := by decide +kernel
theorem d_Law_law_927 : decode (mb M_Law_law) 927 = .ok (.ireturn, 1) := by decide +kernel
theorem d_Law_law_928 : decode (mb M_Law_law) 928 = .ok (.goto 1683, 3) := by decide +kernel
theorem d_Law_law_931 : decode (mb M_Law_law) 931 = .ok (.aload_n 1, 1) := by decide +kernel
theorem d_Law_law_932 : decode (mb M_Law_law) 932 = .ok (.aload_n 0, 1) := by decide +kernel
theorem d_Law_law_933 : decode (mb M_Law_law) 933 = .ok (.iload 4, 2) := by decide +kernel
theorem d_Law_law_935 : decode (mb M_Law_law) 935 = .ok (.iconst 1, 1) := by decide +kernel
theorem d_Law_law_936 : decode (mb M_Law_law) 936 = .ok (.iadd, 1) := by decide +kernel
theorem d_Law_law_937 : decode (mb M_Law_law) 937 = .ok (.iaload, 1) := by decide +kernel
theorem d_Law_law_938 : decode (mb M_Law_law) 938 = .ok (.aload_n 0, 1) := by decide +kernel
theorem d_Law_law_939 : decode (mb M_Law_law) 939 = .ok (.iload 4, 2) := by decide +kernel
theorem d_Law_law_941 : decode (mb M_Law_law) 941 = .ok (.iconst 2, 1) := by decide +kernel
theorem d_Law_law_942 : decode (mb M_Law_law) 942 = .ok (.iadd, 1) := by decide +kernel
theorem d_Law_law_943 : decode (mb M_Law_law) 943 = .ok (.iaload, 1) := by decide +kernel
theorem d_Law_law_944 : decode (mb M_Law_law) 944 = .ok (.aload_n 3, 1) := by decide +kernel
theorem d_Law_law_945 : decode (mb M_Law_law) 945 = .ok (.invokestatic 185, 3) := by decide +kernel
theorem d_Law_law_948 : decode (mb M_Law_law) 948 = .ok (.istore 5, 2) := by decide +kernel
theorem d_Law_law_950 : decode (mb M_Law_law) 950 = .ok (.aload_n 2, 1) := by decide +kernel
theorem d_Law_law_951 : decode (mb M_Law_law) 951 = .ok (.aload_n 0, 1) := by decide +kernel
theorem d_Law_law_952 : decode (mb M_Law_law) 952 = .ok (.iload 4, 2) := by decide +kernel
theorem d_Law_law_954 : decode (mb M_Law_law) 954 = .ok (.iconst 1, 1) := by decide +kernel
theorem d_Law_law_955 : decode (mb M_Law_law) 955 = .ok (.iadd, 1) := by decide +kernel
theorem d_Law_law_956 : decode (mb M_Law_law) 956 = .ok (.iaload, 1) := by decide +kernel
theorem d_Law_law_957 : decode (mb M_Law_law) 957 = .ok (.aload_n 0, 1) := by decide +kernel
theorem d_Law_law_958 : decode (mb M_Law_law) 958 = .ok (.iload 4, 2) := by decide +kernel
theorem d_Law_law_960 : decode (mb M_Law_law) 960 = .ok (.iconst 2, 1) := by decide +kernel
theorem d_Law_law_961 : decode (mb M_Law_law) 961 = .ok (.iadd, 1) := by decide +kernel
theorem d_Law_law_962 : decode (mb M_Law_law) 962 = .ok (.iaload, 1) := by decide +kernel
theorem d_Law_law_963 : decode (mb M_Law_law) 963 = .ok (.invokevirtual 187, 3) := by decide +kernel
theorem d_Law_law_966 : decode (mb M_Law_law) 966 = .ok (.istore 6, 2) := by decide +kernel
theorem d_Law_law_968 : decode (mb M_Law_law) 968 = .ok (.aload_n 2, 1) := by decide +kernel
theorem d_Law_law_969 : decode (mb M_Law_law) 969 = .ok (.invokevirtual 138, 3) := by decide +kernel
theorem d_Law_law_972 : decode (mb M_Law_law) 972 = .ok (.iload 5, 2) := by decide +kernel
theorem d_Law_law_974 : decode (mb M_Law_law) 974 = .ok (.if_icmp .eq 5, 3) := by decide +kernel
theorem d_Law_law_977 : decode (mb M_Law_law) 977 = .ok (.iconst 0, 1) := by decide +kernel
theorem d_Law_law_978 : decode (mb M_Law_law) 978 = .ok (.ireturn, 1) := by decide +kernel
theorem d_Law_law_979 : decode (mb M_Law_law) 979 = .ok (.iload 5, 2) := by decide +kernel
theorem d_Law_law_981 : decode (mb M_Law_law) 981 = .ok (.ifCond .ne 15, 3) := by decide +kernel
theorem d_Law_law_984 : decode (mb M_Law_law) 984 = .ok (.aload_n 3, 1) := by decide +kernel
theorem d_Law_law_985 : decode (mb M_Law_law) 985 = .ok (.iconst 0, 1) := by decide +kernel
theorem d_Law_law_986 : decode (mb M_Law_law) 986 = .ok (.laload, 1) := by decide +kernel
theorem d_Law_law_987 : decode (mb M_Law_law) 987 = .ok (.iload 6, 2) := by decide +kernel
theorem d_Law_law_989 : decode (mb M_Law_law) 989 = .ok (.i2l, 1) := by decide +kernel
theorem d_Law_law_990 : decode (mb M_Law_law) 990 = .ok (.lcmp, 1) := by decide +kernel
theorem d_Law_law_991 : decode (mb M_Law_law) 991 = .ok (.ifCond .eq 5, 3) := by decide +kernel
theorem d_Law_law_994 : decode (mb M_Law_law) 994 = .ok (.iconst 0, 1) := by decide +kernel
theorem d_Law_law_995 : decode (mb M_Law_law) 995 = .ok (.ireturn, 1) := by decide +kernel
theorem d_Law_law_996 : decode (mb M_Law_law) 996 = .ok (.goto 1615, 3) := by decide +kernel
theorem d_Law_law_999 : decode (mb M_Law_law) 999 = .ok (.aload_n 1, 1) := by decide +kernel
theorem d_Law_law_1000 : decode (mb M_Law_law) 1000 = .ok (.aload_n 0, 1) := by decide +kernel
theorem d_Law_law_1001 : decode (mb M_Law_law) 1001 = .ok (.iload 4, 2) := by decide +kernel
theorem d_Law_law_1003 : decode (mb M_Law_law) 1003 = .ok (.iconst 1, 1) := by decide +kernel
theorem d_Law_law_1004 : decode (mb M_Law_law) 1004 = .ok (.iadd, 1) := by decide +kernel
theorem d_Law_law_1005 : decode (mb M_Law_law) 1005 = .ok (.iaload, 1) := by decide +kernel
theorem d_Law_law_1006 : decode (mb M_Law_law) 1006 = .ok (.aload_n 0, 1) := by decide +kernel
theorem d_Law_law_1007 : decode (mb M_Law_law) 1007 = .ok (.iload 4, 2) := by decide +kernel
theorem d_Law_law_1009 : decode (mb M_Law_law) 1009 = .ok (.iconst 2, 1) := by decide +kernel
theorem d_Law_law_1010 : decode (mb M_Law_law) 1010 = .ok (.iadd, 1) := by decide +kernel
theorem d_Law_law_1011 : decode (mb M_Law_law) 1011 = .ok (.iaload, 1) := by decide +kernel
theorem d_Law_law_1012 : decode (mb M_Law_law) 1012 = .ok (.aload_n 3, 1) := by decide +kernel
theorem d_Law_law_1013 : decode (mb M_Law_law) 1013 = .ok (.invokestatic 188, 3) := by decide +kernel
theorem d_Law_law_1016 : decode (mb M_Law_law) 1016 = .ok (.istore 5, 2) := by decide +kernel
theorem d_Law_law_1018 : decode (mb M_Law_law) 1018 = .ok (.aload_n 2, 1) := by decide +kernel
theorem d_Law_law_1019 : decode (mb M_Law_law) 1019 = .ok (.aload_n 0, 1) := by decide +kernel
theorem d_Law_law_1020 : decode (mb M_Law_law) 1020 = .ok (.iload 4, 2) := by decide +kernel
theorem d_Law_law_1022 : decode (mb M_Law_law) 1022 = .ok (.iconst 1, 1) := by decide +kernel
theorem d_Law_law_1023 : decode (mb M_Law_law) 1023 = .ok (.iadd, 1) := by decide +kernel
theorem d_Law_law_1024 : decode (mb M_Law_law) 1024 = .ok (.iaload, 1) := by decide +kernel
theorem d_Law_law_1025 : decode (mb M_Law_law) 1025 = .ok (.aload_n 0, 1) := by decide +kernel
theorem d_Law_law_1026 : decode (mb M_Law_law) 1026 = .ok (.iload 4, 2) := by decide +kernel
theorem d_Law_law_1028 : decode (mb M_Law_law) 1028 = .ok (.iconst 2, 1) := by decide +kernel
theorem d_Law_law_1029 : decode (mb M_Law_law) 1029 = .ok (.iadd, 1) := by decide +kernel
theorem d_Law_law_1030 : decode (mb M_Law_law) 1030 = .ok (.iaload, 1) := by decide +kernel
theorem d_Law_law_1031 : decode (mb M_Law_law) 1031 = .ok (.invokevirtual 190, 3) := by decide +kernel
theorem d_Law_law_1034 : decode (mb M_Law_law) 1034 = .ok (.istore 6, 2) := by decide +kernel
theorem d_Law_law_1036 : decode (mb M_Law_law) 1036 = .ok (.aload_n 2, 1) := by decide +kernel
theorem d_Law_law_1037 : decode (mb M_Law_law) 1037 = .ok (.invokevirtual 138, 3) := by decide +kernel
theorem d_Law_law_1040 : decode (mb M_Law_law) 1040 = .ok (.iload 5, 2) := by decide +kernel
theorem d_Law_law_1042 : decode (mb M_Law_law) 1042 = .ok (.if_icmp .eq 5, 3) := by decide +kernel
theorem d_Law_law_1045 : decode (mb M_Law_law) 1045 = .ok (.iconst 0, 1) := by decide +kernel
theorem d_Law_law_1046 : decode (mb M_Law_law) 1046 = .ok (.ireturn, 1) := by decide +kernel
theorem d_Law_law_1047 : decode (mb M_Law_law) 1047 = .ok (.iload 5, 2) := by decide +kernel
theorem d_Law_law_1049 : decode (mb M_Law_law) 1049 = .ok (.ifCond .ne 15, 3) := by decide +kernel
theorem d_Law_law_1052 : decode (mb M_Law_law) 1052 = .ok (.aload_n 3, 1) := by decide +kernel
theorem d_Law_law_1053 : decode (mb M_Law_law) 1053 = .ok (.iconst 0, 1) := by decide +kernel
theorem d_Law_law_1054 : decode (mb M_Law_law) 1054 = .ok (.laload, 1) := by decide +kernel
theorem d_Law_law_1055 : decode (mb M_Law_law) 1055 = .ok (.iload 6, 2) := by decide +kernel
theorem d_Law_law_1057 : decode (mb M_Law_law) 1057 = .ok (.i2l, 1) := by decide +kernel
theorem d_Law_law_1058 : decode (mb M_Law_law) 1058 = .ok (.lcmp, 1) := by decide +kernel
theorem d_Law_law_1059 : decode (mb M_Law_law) 1059 = .ok (.ifCond .eq 5, 3) := by decide +kernel
theorem d_Law_law_1062 : decode (mb M_Law_law) 1062 = .ok (.iconst 0, 1) := by decide +kernel
theorem d_Law_law_1063 : decode (mb M_Law_law) 1063 = .ok (.ireturn, 1) := by decide +kernel
theorem d_Law_law_1064 : decode (mb M_Law_law) 1064 = .ok (.goto 1547, 3) := by decide +kernel
theorem d_Law_law_1067 : decode (mb M_Law_law) 1067 = .ok (.aload_n 1, 1) := by decide +kernel
theorem d_Law_law_1068 : decode (mb M_Law_law) 1068 = .ok (.aload_n 0, 1) := by decide +kernel
theorem d_Law_law_1069 : decode (mb M_Law_law) 1069 = .ok (.iload 4, 2) := by decide +kernel
theorem d_Law_law_1071 : decode (mb M_Law_law) 1071 = .ok (.iconst 1, 1) := by decide +kernel
theorem d_Law_law_1072 : decode (mb M_Law_law) 1072 = .ok (.iadd, 1) := by decide +kernel
theorem d_Law_law_1073 : decode (mb M_Law_law) 1073 = .ok (.iaload, 1) := by decide +kernel
theorem d_Law_law_1074 : decode (mb M_Law_law) 1074 = .ok (.aload_n 0, 1) := by decide +kernel
theorem d_Law_law_1075 : decode (mb M_Law_law) 1075 = .ok (.iload 4, 2) := by decide +kernel
theorem d_Law_law_1077 : decode (mb M_Law_law) 1077 = .ok (.iconst 2, 1) := by decide +kernel
theorem d_Law_law_1078 : decode (mb M_Law_law) 1078 = .ok (.iadd, 1) := by decide +kernel
theorem d_Law_law_1079 : decode (mb M_Law_law) 1079 = .ok (.iaload, 1) := by decide +kernel
theorem d_Law_law_1080 : decode (mb M_Law_law) 1080 = .ok (.aload_n 3, 1) := by decide +kernel
theorem d_Law_law_1081 : decode (mb M_Law_law) 1081 = .ok (.invokestatic 191, 3) := by decide +kernel
theorem d_Law_law_1084 : decode (mb M_Law_law) 1084 = .ok (.istore 5, 2) := by decide +kernel
theorem d_Law_law_1086 : decode (mb M_Law_law) 1086 = .ok (.aload_n 2, 1) := by decide +kernel
theorem d_Law_law_1087 : decode (mb M_Law_law) 1087 = .ok (.aload_n 0, 1) := by decide +kernel
theorem d_Law_law_1088 : decode (mb M_Law_law) 1088 = .ok (.iload 4, 2) := by decide +kernel
theorem d_Law_law_1090 : decode (mb M_Law_law) 1090 = .ok (.iconst 1, 1) := by decide +kernel
theorem d_Law_law_1091 : decode (mb M_Law_law) 1091 = .ok (.iadd, 1) := by decide +kernel
theorem d_Law_law_1092 : decode (mb M_Law_law) 1092 = .ok (.iaload, 1) := by decide +kernel
theorem d_Law_law_1093 : decode (mb M_Law_law) 1093 = .ok (.aload_n 0, 1) := by decide +kernel
theorem d_Law_law_1094 : decode (mb M_Law_law) 1094 = .ok (.iload 4, 2) := by decide +kernel
theorem d_Law_law_1096 : decode (mb M_Law_law) 1096 = .ok (.iconst 2, 1) := by decide +kernel
theorem d_Law_law_1097 : decode (mb M_Law_law) 1097 = .ok (.iadd, 1) := by decide +kernel
theorem d_Law_law_1098 : decode (mb M_Law_law) 1098 = .ok (.iaload, 1) := by decide +kernel
theorem d_Law_law_1099 : decode (mb M_Law_law) 1099 = .ok (.invokevirtual 193, 3) := by decide +kernel
theorem d_Law_law_1102 : decode (mb M_Law_law) 1102 = .ok (.istore 6, 2) := by decide +kernel
theorem d_Law_law_1104 : decode (mb M_Law_law) 1104 = .ok (.aload_n 2, 1) := by decide +kernel
theorem d_Law_law_1105 : decode (mb M_Law_law) 1105 = .ok (.invokevirtual 138, 3) := by decide +kernel
theorem d_Law_law_1108 : decode (mb M_Law_law) 1108 = .ok (.iload 5, 2) := by decide +kernel
theorem d_Law_law_1110 : decode (mb M_Law_law) 1110 = .ok (.if_icmp .eq 5, 3) := by decide +kernel
theorem d_Law_law_1113 : decode (mb M_Law_law) 1113 = .ok (.iconst 0, 1) := by decide +kernel
theorem d_Law_law_1114 : decode (mb M_Law_law) 1114 = .ok (.ireturn, 1) := by decide +kernel
theorem d_Law_law_1115 : decode (mb M_Law_law) 1115 = .ok (.iload 5, 2) := by decide +kernel
theorem d_Law_law_1117 : decode (mb M_Law_law) 1117 = .ok (.ifCond .ne 22, 3) := by decide +kernel
theorem d_Law_law_1120 : decode (mb M_Law_law) 1120 = .ok (.aload_n 3, 1) := by decide +kernel
theorem d_Law_law_1121 : decode (mb M_Law_law) 1121 = .ok (.iconst 0, 1) := by decide +kernel
theorem d_Law_law_1122 : decode (mb M_Law_law) 1122 = .ok (.laload, 1) := by decide +kernel
theorem d_Law_law_1123 : decode (mb M_Law_law) 1123 = .ok (.iload 6, 2) := by decide +kernel
theorem d_Law_law_1125 : decode (mb M_Law_law) 1125 = .ok (.ifCond .eq 7, 3) := by decide +kernel
theorem d_Law_law_1128 : decode (mb M_Law_law) 1128 = .ok (.lconst 1, 1) := by decide +kernel
theorem d_Law_law_1129 : decode (mb M_Law_law) 1129 = .ok (.goto 4, 3) := by decide +kernel
theorem d_Law_law_1132 : decode (mb M_Law_law) 1132 = .ok (.lconst 0, 1) := by decide +kernel
theorem d_Law_law_1133 : decode (mb M_Law_law) 1133 = .ok (.lcmp, 1) := by decide +kernel
theorem d_Law_law_1134 : decode (mb M_Law_law) 1134 = .ok (.ifCond .eq 5, 3) := by decide +kernel
theorem d_Law_law_1137 : decode (mb M_Law_law) 1137 = .ok (.iconst 0, 1) := by decide +kernel
theorem d_Law_law_1138 : decode (mb M_Law_law) 1138 = .ok (.ireturn, 1) := by decide +kernel
theorem d_Law_law_1139 : decode (mb M_Law_law) 1139 = .ok (.goto 1472, 3) := by decide +kernel
theorem d_Law_law_1142 : decode (mb M_Law_law) 1142 = .ok (.aload_n 1, 1) := by decide +kernel
theorem d_Law_law_1143 : decode (mb M_Law_law) 1143 = .ok (.aload_n 0, 1) := by decide +kernel
theorem d_Law_law_1144 : decode (mb M_Law_law) 1144 = .ok (.iload 4, 2) := by decide +kernel
theorem d_Law_law_1146 : decode (mb M_Law_law) 1146 = .ok (.iconst 1, 1) := by decide +kernel
theorem d_Law_law_1147 : decode (mb M_Law_law) 1147 = .ok (.iadd, 1) := by decide +kernel
theorem d_Law_law_1148 : decode (mb M_Law_law) 1148 = .ok (.iaload, 1) := by decide +kernel
theorem d_Law_law_1149 : decode (mb M_Law_law) 1149 = .ok (.aload_n 0, 1) := by decide +kernel
theorem d_Law_law_1150 : decode (mb M_Law_law) 1150 = .ok (.iload 4, 2) := by decide +kernel
theorem d_Law_law_1152 : decode (mb M_Law_law) 1152 = .ok (.iconst 2, 1) := by decide +kernel
theorem d_Law_law_1153 : decode (mb M_Law_law) 1153 = .ok (.iadd, 1) := by decide +kernel
theorem d_Law_law_1154 : decode (mb M_Law_law) 1154 = .ok (.iaload, 1) := by decide +kernel
theorem d_Law_law_1155 : decode (mb M_Law_law) 1155 = .ok (.aload_n 0, 1) := by decide +kernel
theorem d_Law_law_1156 : decode (mb M_Law_law) 1156 = .ok (.iload 4, 2) := by decide +kernel
theorem d_Law_law_1158 : decode (mb M_Law_law) 1158 = .ok (.iconst 3, 1) := by decide +kernel
theorem d_Law_law_1159 : decode (mb M_Law_law) 1159 = .ok (.iadd, 1) := by decide +kernel
theorem d_Law_law_1160 : decode (mb M_Law_law) 1160 = .ok (.iaload, 1) := by decide +kernel
theorem d_Law_law_1161 : decode (mb M_Law_law) 1161 = .ok (.ifCond .eq 7, 3) := by decide +kernel
theorem d_Law_law_1164 : decode (mb M_Law_law) 1164 = .ok (.iconst 1, 1) := by decide +kernel
theorem d_Law_law_1165 : decode (mb M_Law_law) 1165 = .ok (.goto 4, 3) := by decide +kernel
theorem d_Law_law_1168 : decode (mb M_Law_law) 1168 = .ok (.iconst 0, 1) := by decide +kernel
theorem d_Law_law_1169 : decode (mb M_Law_law) 1169 = .ok (.aload_n 3, 1) := by decide +kernel
theorem d_Law_law_1170 : decode (mb M_Law_law) 1170 = .ok (.invokestatic 194, 3) := by decide +kernel
theorem d_Law_law_1173 : decode (mb M_Law_law) 1173 = .ok (.istore 5, 2) := by decide +kernel
theorem d_Law_law_1175 : decode (mb M_Law_law) 1175 = .ok (.aload_n 2, 1) := by decide +kernel
theorem d_Law_law_1176 : decode (mb M_Law_law) 1176 = .ok (.aload_n 0, 1) := by decide +kernel
theorem d_Law_law_1177 : decode (mb M_Law_law) 1177 = .ok (.iload 4, 2) := by decide +kernel
theorem d_Law_law_1179 : decode (mb M_Law_law) 1179 = .ok (.iconst 1, 1) := by decide +kernel
theorem d_Law_law_1180 : decode (mb M_Law_law) 1180 = .ok (.iadd, 1) := by decide +kernel
theorem d_Law_law_1181 : decode (mb M_Law_law) 1181 = .ok (.iaload, 1) := by decide +kernel
theorem d_Law_law_1182 : decode (mb M_Law_law) 1182 = .ok (.aload_n 0, 1) := by decide +kernel
theorem d_Law_law_1183 : decode (mb M_Law_law) 1183 = .ok (.iload 4, 2) := by decide +kernel
theorem d_Law_law_1185 : decode (mb M_Law_law) 1185 = .ok (.iconst 2, 1) := by decide +kernel
theorem d_Law_law_1186 : decode (mb M_Law_law) 1186 = .ok (.iadd, 1) := by decide +kernel
theorem d_Law_law_1187 : decode (mb M_Law_law) 1187 = .ok (.iaload, 1) := by decide +kernel
theorem d_Law_law_1188 : decode (mb M_Law_law) 1188 = .ok (.aload_n 0, 1) := by decide +kernel
theorem d_Law_law_1189 : decode (mb M_Law_law) 1189 = .ok (.iload 4, 2) := by decide +kernel
theorem d_Law_law_1191 : decode (mb M_Law_law) 1191 = .ok (.iconst 3, 1) := by decide +kernel
theorem d_Law_law_1192 : decode (mb M_Law_law) 1192 = .ok (.iadd, 1) := by decide +kernel
theorem d_Law_law_1193 : decode (mb M_Law_law) 1193 = .ok (.iaload, 1) := by decide +kernel
theorem d_Law_law_1194 : decode (mb M_Law_law) 1194 = .ok (.ifCond .eq 7, 3) := by decide +kernel
theorem d_Law_law_1197 : decode (mb M_Law_law) 1197 = .ok (.iconst 1, 1) := by decide +kernel
theorem d_Law_law_1198 : decode (mb M_Law_law) 1198 = .ok (.goto 4, 3) := by decide +kernel
theorem d_Law_law_1201 : decode (mb M_Law_law) 1201 = .ok (.iconst 0, 1) := by decide +kernel
theorem d_Law_law_1202 : decode (mb M_Law_law) 1202 = .ok (.invokevirtual 197, 3) := by decide +kernel
theorem d_Law_law_1205 : decode (mb M_Law_law) 1205 = .ok (.istore 6, 2) := by decide +kernel
theorem d_Law_law_1207 : decode (mb M_Law_law) 1207 = .ok (.aload_n 2, 1) := by decide +kernel
theorem d_Law_law_1208 : decode (mb M_Law_law) 1208 = .ok (.invokevirtual 138, 3) := by decide +kernel
theorem d_Law_law_1211 : decode (mb M_Law_law) 1211 = .ok (.iload 5, 2) := by decide +kernel
theorem d_Law_law_1213 : decode (mb M_Law_law) 1213 = .ok (.if_icmp .eq 5, 3) := by decide +kernel
theorem d_Law_law_1216 : decode (mb M_Law_law) 1216 = .ok (.iconst 0, 1) := by decide +kernel
theorem d_Law_law_1217 : decode (mb M_Law_law) 1217 = .ok (.ireturn, 1) := by decide +kernel
theorem d_Law_law_1218 : decode (mb M_Law_law) 1218 = .ok (.iload 5, 2) := by decide +kernel
theorem d_Law_law_1220 : decode (mb M_Law_law) 1220 = .ok (.ifCond .ne 15, 3) := by decide +kernel
theorem d_Law_law_1223 : decode (mb M_Law_law) 1223 = .ok (.aload_n 3, 1) := by decide +kernel
theorem d_Law_law_1224 : decode (mb M_Law_law) 1224 = .ok (.iconst 0, 1) := by decide +kernel
theorem d_Law_law_1225 : decode (mb M_Law_law) 1225 = .ok (.laload, 1) := by decide +kernel
theorem d_Law_law_1226 : decode (mb M_Law_law) 1226 = .ok (.iload 6, 2) := by decide +kernel
theorem d_Law_law_1228 : decode (mb M_Law_law) 1228 = .ok (.i2l, 1) := by decide +kernel
theorem d_Law_law_1229 : decode (mb M_Law_law) 1229 = .ok (.lcmp, 1) := by decide +kernel
theorem d_Law_law_1230 : decode (mb M_Law_law) 1230 = .ok (.ifCond .eq 5, 3) := by decide +kernel
theorem d_Law_law_1233 : decode (mb M_Law_law) 1233 = .ok (.iconst 0, 1) := by decide +kernel
theorem d_Law_law_1234 : decode (mb M_Law_law) 1234 = .ok (.ireturn, 1) := by decide +kernel
theorem d_Law_law_1235 : decode (mb M_Law_law) 1235 = .ok (.goto 1376, 3) := by decide +kernel
theorem d_Law_law_1238 : decode (mb M_Law_law) 1238 = .ok (.aload_n 1, 1) := by decide +kernel
theorem d_Law_law_1239 : decode (mb M_Law_law) 1239 = .ok (.aload_n 0, 1) := by decide +kernel
theorem d_Law_law_1240 : decode (mb M_Law_law) 1240 = .ok (.iload 4, 2) := by decide +kernel
theorem d_Law_law_1242 : decode (mb M_Law_law) 1242 = .ok (.iconst 1, 1) := by decide +kernel
theorem d_Law_law_1243 : decode (mb M_Law_law) 1243 = .ok (.iadd, 1) := by decide +kernel
theorem d_Law_law_1244 : decode (mb M_Law_law) 1244 = .ok (.iaload, 1) := by decide +kernel
theorem d_Law_law_1245 : decode (mb M_Law_law) 1245 = .ok (.aload_n 3, 1) := by decide +kernel
theorem d_Law_law_1246 : decode (mb M_Law_law) 1246 = .ok (.invokestatic 198, 3) := by decide +kernel
theorem d_Law_law_1249 : decode (mb M_Law_law) 1249 = .ok (.istore 5, 2) := by decide +kernel
theorem d_Law_law_1251 : decode (mb M_Law_law) 1251 = .ok (.aload_n 2, 1) := by decide +kernel
theorem d_Law_law_1252 : decode (mb M_Law_law) 1252 = .ok (.aload_n 0, 1) := by decide +kernel
theorem d_Law_law_1253 : decode (mb M_Law_law) 1253 = .ok (.iload 4, 2) := by decide +kernel
theorem d_Law_law_1255 : decode (mb M_Law_law) 1255 = .ok (.iconst 1, 1) := by decide +kernel
theorem d_Law_law_1256 : decode (mb M_Law_law) 1256 = .ok (.iadd, 1) := by decide +kernel
theorem d_Law_law_1257 : decode (mb M_Law_law) 1257 = .ok (.iaload, 1) := by decide +kernel
theorem d_Law_law_1258 : decode (mb M_Law_law) 1258 = .ok (.invokevirtual 200, 3) := by decide +kernel
theorem d_Law_law_1261 : decode (mb M_Law_law) 1261 = .ok (.istore 6, 2) := by decide +kernel
theorem d_Law_law_1263 : decode (mb M_Law_law) 1263 = .ok (.aload_n 2, 1) := by decide +kernel
theorem d_Law_law_1264 : decode (mb M_Law_law) 1264 = .ok (.invokevirtual 138, 3) := by decide +kernel
theorem d_Law_law_1267 : decode (mb M_Law_law) 1267 = .ok (.iload 5, 2) := by decide +kernel
theorem d_Law_law_1269 : decode (mb M_Law_law) 1269 = .ok (.if_icmp .eq 5, 3) := by decide +kernel
theorem d_Law_law_1272 : decode (mb M_Law_law) 1272 = .ok (.iconst 0, 1) := by decide +kernel
theorem d_Law_law_1273 : decode (mb M_Law_law) 1273 = .ok (.ireturn, 1) := by decide +kernel
theorem d_Law_law_1274 : decode (mb M_Law_law) 1274 = .ok (.iload 5, 2) := by decide +kernel
theorem d_Law_law_1276 : decode (mb M_Law_law) 1276 = .ok (.ifCond .ne 15, 3) := by decide +kernel
theorem d_Law_law_1279 : decode (mb M_Law_law) 1279 = .ok (.aload_n 3, 1) := by decide +kernel
theorem d_Law_law_1280 : decode (mb M_Law_law) 1280 = .ok (.iconst 0, 1) := by decide +kernel
theorem d_Law_law_1281 : decode (mb M_Law_law) 1281 = .ok (.laload, 1) := by decide +kernel
theorem d_Law_law_1282 : decode (mb M_Law_law) 1282 = .ok (.iload 6, 2) := by decide +kernel
theorem d_Law_law_1284 : decode (mb M_Law_law) 1284 = .ok (.i2l, 1) := by decide +kernel
theorem d_Law_law_1285 : decode (mb M_Law_law) 1285 = .ok (.lcmp, 1) := by decide +kernel
theorem d_Law_law_1286 : decode (mb M_Law_law) 1286 = .ok (.ifCond .eq 5, 3) := by decide +kernel
theorem d_Law_law_1289 : decode (mb M_Law_law) 1289 = .ok (.iconst 0, 1) := by decide +kernel
theorem d_Law_law_1290 : decode (mb M_Law_law) 1290 = .ok (.ireturn, 1) := by decide +kernel
theorem d_Law_law_1291 : decode (mb M_Law_law) 1291 = .ok (.goto 1320, 3) := by decide +kernel
theorem d_Law_law_1294 : decode (mb M_Law_law) 1294 = .ok (.aload_n 1, 1) := by decide +kernel
theorem d_Law_law_1295 : decode (mb M_Law_law) 1295 = .ok (.aload_n 0, 1) := by decide +kernel
theorem d_Law_law_1296 : decode (mb M_Law_law) 1296 = .ok (.iload 4, 2) := by decide +kernel
theorem d_Law_law_1298 : decode (mb M_Law_law) 1298 = .ok (.iconst 1, 1) := by decide +kernel
theorem d_Law_law_1299 : decode (mb M_Law_law) 1299 = .ok (.iadd, 1) := by decide +kernel
theorem d_Law_law_1300 : decode (mb M_Law_law) 1300 = .ok (.iaload, 1) := by decide +kernel
theorem d_Law_law_1301 : decode (mb M_Law_law) 1301 = .ok (.aload_n 3, 1) := by decide +kernel
theorem d_Law_law_1302 : decode (mb M_Law_law) 1302 = .ok (.invokestatic 201, 3) := by decide +kernel
theorem d_Law_law_1305 : decode (mb M_Law_law) 1305 = .ok (.istore 5, 2) := by decide +kernel
theorem d_Law_law_1307 : decode (mb M_Law_law) 1307 = .ok (.aload_n 2, 1) := by decide +kernel
theorem d_Law_law_1308 : decode (mb M_Law_law) 1308 = .ok (.aload_n 0, 1) := by decide +kernel
theorem d_Law_law_1309 : decode (mb M_Law_law) 1309 = .ok (.iload 4, 2) := by decide +kernel
theorem d_Law_law_1311 : decode (mb M_Law_law) 1311 = .ok (.iconst 1, 1) := by decide +kernel
theorem d_Law_law_1312 : decode (mb M_Law_law) 1312 = .ok (.iadd, 1) := by decide +kernel
theorem d_Law_law_1313 : decode (mb M_Law_law) 1313 = .ok (.iaload, 1) := by decide +kernel
theorem d_Law_law_1314 : decode (mb M_Law_law) 1314 = .ok (.invokevirtual 203, 3) := by decide +kernel
theorem d_Law_law_1317 : decode (mb M_Law_law) 1317 = .ok (.istore 6, 2) := by decide +kernel
theorem d_Law_law_1319 : decode (mb M_Law_law) 1319 = .ok (.aload_n 2, 1) := by decide +kernel
theorem d_Law_law_1320 : decode (mb M_Law_law) 1320 = .ok (.invokevirtual 138, 3) := by decide +kernel
theorem d_Law_law_1323 : decode (mb M_Law_law) 1323 = .ok (.iload 5, 2) := by decide +kernel
theorem d_Law_law_1325 : decode (mb M_Law_law) 1325 = .ok (.if_icmp .eq 5, 3) := by decide +kernel
theorem d_Law_law_1328 : decode (mb M_Law_law) 1328 = .ok (.iconst 0, 1) := by decide +kernel
theorem d_Law_law_1329 : decode (mb M_Law_law) 1329 = .ok (.ireturn, 1) := by decide +kernel
theorem d_Law_law_1330 : decode (mb M_Law_law) 1330 = .ok (.iload 5, 2) := by decide +kernel
theorem d_Law_law_1332 : decode (mb M_Law_law) 1332 = .ok (.ifCond .ne 15, 3) := by decide +kernel
theorem d_Law_law_1335 : decode (mb M_Law_law) 1335 = .ok (.aload_n 3, 1) := by decide +kernel
theorem d_Law_law_1336 : decode (mb M_Law_law) 1336 = .ok (.iconst 0, 1) := by decide +kernel
theorem d_Law_law_1337 : decode (mb M_Law_law) 1337 = .ok (.laload, 1) := by decide +kernel
theorem d_Law_law_1338 : decode (mb M_Law_law) 1338 = .ok (.iload 6, 2) := by decide +kernel
theorem d_Law_law_1340 : decode (mb M_Law_law) 1340 = .ok (.i2l, 1) := by decide +kernel
theorem d_Law_law_1341 : decode (mb M_Law_law) 1341 = .ok (.lcmp, 1) := by decide +kernel
theorem d_Law_law_1342 : decode (mb M_Law_law) 1342 = .ok (.ifCond .eq 5, 3) := by decide +kernel
theorem d_Law_law_1345 : decode (mb M_Law_law) 1345 = .ok (.iconst 0, 1) := by decide +kernel
theorem d_Law_law_1346 : decode (mb M_Law_law) 1346 = .ok (.ireturn, 1) := by decide +kernel
theorem d_Law_law_1347 : decode (mb M_Law_law) 1347 = .ok (.goto 1264, 3) := by decide +kernel
theorem d_Law_law_1350 : decode (mb M_Law_law) 1350 = .ok (.aload_n 1, 1) := by decide +kernel
theorem d_Law_law_1351 : decode (mb M_Law_law) 1351 = .ok (.aload_n 0, 1) := by decide +kernel
theorem d_Law_law_1352 : decode (mb M_Law_law) 1352 = .ok (.iload 4, 2) := by decide +kernel
theorem d_Law_law_1354 : decode (mb M_Law_law) 1354 = .ok (.iconst 1, 1) := by decide +kernel
theorem d_Law_law_1355 : decode (mb M_Law_law) 1355 = .ok (.iadd, 1) := by decide +kernel
theorem d_Law_law_1356 : decode (mb M_Law_law) 1356 = .ok (.iaload, 1) := by decide +kernel
theorem d_Law_law_1357 : decode (mb M_Law_law) 1357 = .ok (.i2l, 1) := by decide +kernel
theorem d_Law_law_1358 : decode (mb M_Law_law) 1358 = .ok (.bipush 32, 2) := by decide +kernel
theorem d_Law_law_1360 : decode (mb M_Law_law) 1360 = .ok (.lshl, 1) := by decide +kernel
theorem d_Law_law_1361 : decode (mb M_Law_law) 1361 = .ok (.aload_n 0, 1) := by decide +kernel
theorem d_Law_law_1362 : decode (mb M_Law_law) 1362 = .ok (.iload 4, 2) := by decide +kernel
theorem d_Law_law_1364 : decode (mb M_Law_law) 1364 = .ok (.iconst 2, 1) := by decide +kernel
theorem d_Law_law_1365 : decode (mb M_Law_law) 1365 = .ok (.iadd, 1) := by decide +kernel
theorem d_Law_law_1366 : decode (mb M_Law_law) 1366 = .ok (.iaload, 1) := by decide +kernel
theorem d_Law_law_1367 : decode (mb M_Law_law) 1367 = .ok (.i2l, 1) := by decide +kernel
theorem d_Law_law_1368 : decode (mb M_Law_law) 1368 = .ok (.ldc2_w 141, 3) := by decide +kernel
theorem d_Law_law_1371 : decode (mb M_Law_law) 1371 = .ok (.land, 1) := by decide +kernel
theorem d_Law_law_1372 : decode (mb M_Law_law) 1372 = .ok (.lor, 1) := by decide +kernel
theorem d_Law_law_1373 : decode (mb M_Law_law) 1373 = .ok (.aload_n 0, 1) := by decide +kernel
theorem d_Law_law_1374 : decode (mb M_Law_law) 1374 = .ok (.iload 4, 2) := by decide +kernel
theorem d_Law_law_1376 : decode (mb M_Law_law) 1376 = .ok (.iconst 3, 1) := by decide +kernel
theorem d_Law_law_1377 : decode (mb M_Law_law) 1377 = .ok (.iadd, 1) := by decide +kernel
theorem d_Law_law_1378 : decode (mb M_Law_law) 1378 = .ok (.iaload, 1) := by decide +kernel
theorem d_Law_law_1379 : decode (mb M_Law_law) 1379 = .ok (.i2l, 1) := by decide +kernel
theorem d_Law_law_1380 : decode (mb M_Law_law) 1380 = .ok (.bipush 32, 2) := by decide +kernel
theorem d_Law_law_1382 : decode (mb M_Law_law) 1382 = .ok (.lshl, 1) := by decide +kernel
theorem d_Law_law_1383 : decode (mb M_Law_law) 1383 = .ok (.aload_n 0, 1) := by decide +kernel
theorem d_Law_law_1384 : decode (mb M_Law_law) 1384 = .ok (.iload 4, 2) := by decide +kernel
theorem d_Law_law_1386 : decode (mb M_Law_law) 1386 = .ok (.iconst 4, 1) := by decide +kernel
theorem d_Law_law_1387 : decode (mb M_Law_law) 1387 = .ok (.iadd, 1) := by decide +kernel
theorem d_Law_law_1388 : decode (mb M_Law_law) 1388 = .ok (.iaload, 1) := by decide +kernel
theorem d_Law_law_1389 : decode (mb M_Law_law) 1389 = .ok (.i2l, 1) := by decide +kernel
theorem d_Law_law_1390 : decode (mb M_Law_law) 1390 = .ok (.ldc2_w 141, 3) := by decide +kernel
theorem d_Law_law_1393 : decode (mb M_Law_law) 1393 = .ok (.land, 1) := by decide +kernel
theorem d_Law_law_1394 : decode (mb M_Law_law) 1394 = .ok (.lor, 1) := by decide +kernel
theorem d_Law_law_1395 : decode (mb M_Law_law) 1395 = .ok (.aload_n 3, 1) := by decide +kernel
theorem d_Law_law_1396 : decode (mb M_Law_law) 1396 = .ok (.invokestatic 204, 3) := by decide +kernel
theorem d_Law_law_1399 : decode (mb M_Law_law) 1399 = .ok (.istore 5, 2) := by decide +kernel
theorem d_Law_law_1401 : decode (mb M_Law_law) 1401 = .ok (.aload_n 2, 1) := by decide +kernel
theorem d_Law_law_1402 : decode (mb M_Law_law) 1402 = .ok (.aload_n 0, 1) := by decide +kernel
theorem d_Law_law_1403 : decode (mb M_Law_law) 1403 = .ok (.iload 4, 2) := by decide +kernel
theorem d_Law_law_1405 : decode (mb M_Law_law) 1405 = .ok (.iconst 1, 1) := by decide +kernel
theorem d_Law_law_1406 : decode (mb M_Law_law) 1406 = .ok (.iadd, 1) := by decide +kernel
theorem d_Law_law_1407 : decode (mb M_Law_law) 1407 = .ok (.iaload, 1) := by decide +kernel
theorem d_Law_law_1408 : decode (mb M_Law_law) 1408 = .ok (.i2l, 1) := by decide +kernel
theorem d_Law_law_1409 : decode (mb M_Law_law) 1409 = .ok (.bipush 32, 2) := by decide +kernel
theorem d_Law_law_1411 : decode (mb M_Law_law) 1411 = .ok (.lshl, 1) := by decide +kernel
theorem d_Law_law_1412 : decode (mb M_Law_law) 1412 = .ok (.aload_n 0, 1) := by decide +kernel
theorem d_Law_law_1413 : decode (mb M_Law_law) 1413 = .ok (.iload 4, 2) := by decide +kernel
theorem d_Law_law_1415 : decode (mb M_Law_law) 1415 = .ok (.iconst 2, 1) := by decide +kernel
theorem d_Law_law_1416 : decode (mb M_Law_law) 1416 = .ok (.iadd, 1) := by decide +kernel
theorem d_Law_law_1417 : decode (mb M_Law_law) 1417 = .ok (.iaload, 1) := by decide +kernel
theorem d_Law_law_1418 : decode (mb M_Law_law) 1418 = .ok (.i2l, 1) := by decide +kernel
theorem d_Law_law_1419 : decode (mb M_Law_law) 1419 = .ok (.ldc2_w 141, 3) := by decide +kernel
theorem d_Law_law_1422 : decode (mb M_Law_law) 1422 = .ok (.land, 1) := by decide +kernel
theorem d_Law_law_1423 : decode (mb M_Law_law) 1423 = .ok (.lor, 1) := by decide +kernel
theorem d_Law_law_1424 : decode (mb M_Law_law) 1424 = .ok (.aload_n 0, 1) := by decide +kernel
theorem d_Law_law_1425 : decode (mb M_Law_law) 1425 = .ok (.iload 4, 2) := by decide +kernel
theorem d_Law_law_1427 : decode (mb M_Law_law) 1427 = .ok (.iconst 3, 1) := by decide +kernel
theorem d_Law_law_1428 : decode (mb M_Law_law) 1428 = .ok (.iadd, 1) := by decide +kernel
theorem d_Law_law_1429 : decode (mb M_Law_law) 1429 = .ok (.iaload, 1) := by decide +kernel
theorem d_Law_law_1430 : decode (mb M_Law_law) 1430 = .ok (.i2l, 1) := by decide +kernel
theorem d_Law_law_1431 : decode (mb M_Law_law) 1431 = .ok (.bipush 32, 2) := by decide +kernel
theorem d_Law_law_1433 : decode (mb M_Law_law) 1433 = .ok (.lshl, 1) := by decide +kernel
theorem d_Law_law_1434 : decode (mb M_Law_law) 1434 = .ok (.aload_n 0, 1) := by decide +kernel
theorem d_Law_law_1435 : decode (mb M_Law_law) 1435 = .ok (.iload 4, 2) := by decide +kernel
theorem d_Law_law_1437 : decode (mb M_Law_law) 1437 = .ok (.iconst 4, 1) := by decide +kernel
theorem d_Law_law_1438 : decode (mb M_Law_law) 1438 = .ok (.iadd, 1) := by decide +kernel
theorem d_Law_law_1439 : decode (mb M_Law_law) 1439 = .ok (.iaload, 1) := by decide +kernel
theorem d_Law_law_1440 : decode (mb M_Law_law) 1440 = .ok (.i2l, 1) := by decide +kernel
theorem d_Law_law_1441 : decode (mb M_Law_law) 1441 = .ok (.ldc2_w 141, 3) := by decide +kernel
theorem d_Law_law_1444 : decode (mb M_Law_law) 1444 = .ok (.land, 1) := by decide +kernel
theorem d_Law_law_1445 : decode (mb M_Law_law) 1445 = .ok (.lor, 1) := by decide +kernel
theorem d_Law_law_1446 : decode (mb M_Law_law) 1446 = .ok (.invokevirtual 207, 3) := by decide +kernel
theorem d_Law_law_1449 : decode (mb M_Law_law) 1449 = .ok (.istore 6, 2) := by decide +kernel
theorem d_Law_law_1451 : decode (mb M_Law_law) 1451 = .ok (.aload_n 2, 1) := by decide +kernel
theorem d_Law_law_1452 : decode (mb M_Law_law) 1452 = .ok (.invokevirtual 138, 3) := by decide +kernel
theorem d_Law_law_1455 : decode (mb M_Law_law) 1455 = .ok (.iload 5, 2) := by decide +kernel
theorem d_Law_law_1457 : decode (mb M_Law_law) 1457 = .ok (.if_icmp .eq 5, 3) := by decide +kernel
theorem d_Law_law_1460 : decode (mb M_Law_law) 1460 = .ok (.iconst 0, 1) := by decide +kernel
theorem d_Law_law_1461 : decode (mb M_Law_law) 1461 = .ok (.ireturn, 1) := by decide +kernel
theorem d_Law_law_1462 : decode (mb M_Law_law) 1462 = .ok (.iload 5, 2) := by decide +kernel
theorem d_Law_law_1464 : decode (mb M_Law_law) 1464 = .ok (.ifCond .ne 15, 3) := by decide +kernel
theorem d_Law_law_1467 : decode (mb M_Law_law) 1467 = .ok (.aload_n 3, 1) := by decide +kernel
theorem d_Law_law_1468 : decode (mb M_Law_law) 1468 = .ok (.iconst 0, 1) := by decide +kernel
theorem d_Law_law_1469 : decode (mb M_Law_law) 1469 = .ok (.laload, 1) := by decide +kernel
theorem d_Law_law_1470 : decode (mb M_Law_law) 1470 = .ok (.iload 6, 2) := by decide +kernel
theorem d_Law_law_1472 : decode (mb M_Law_law) 1472 = .ok (.i2l, 1) := by decide +kernel
theorem d_Law_law_1473 : decode (mb M_Law_law) 1473 = .ok (.lcmp, 1) := by decide +kernel
theorem d_Law_law_1474 : decode (mb M_Law_law) 1474 = .ok (.ifCond .eq 5, 3) := by decide +kernel
theorem d_Law_law_1477 : decode (mb M_Law_law) 1477 = .ok (.iconst 0, 1) := by decide +kernel
theorem d_Law_law_1478 : decode (mb M_Law_law) 1478 = .ok (.ireturn, 1) := by decide +kernel
theorem d_Law_law_1479 : decode (mb M_Law_law) 1479 = .ok (.goto 1132, 3) := by decide +kernel
theorem d_Law_law_1482 : decode (mb M_Law_law) 1482 = .ok (.aload_n 1, 1) := by decide +kernel
theorem d_Law_law_1483 : decode (mb M_Law_law) 1483 = .ok (.aload_n 0, 1) := by decide +kernel
theorem d_Law_law_1484 : decode (mb M_Law_law) 1484 = .ok (.iload 4, 2) := by decide +kernel
theorem d_Law_law_1486 : decode (mb M_Law_law) 1486 = .ok (.iconst 1, 1) := by decide +kernel
theorem d_Law_law_1487 : decode (mb M_Law_law) 1487 = .ok (.iadd, 1) := by decide +kernel
theorem d_Law_law_1488 : decode (mb M_Law_law) 1488 = .ok (.iaload, 1) := by decide +kernel
theorem d_Law_law_1489 : decode (mb M_Law_law) 1489 = .ok (.aload_n 0, 1) := by decide +kernel
theorem d_Law_law_1490 : decode (mb M_Law_law) 1490 = .ok (.iload 4, 2) := by decide +kernel
theorem d_Law_law_1492 : decode (mb M_Law_law) 1492 = .ok (.iconst 2, 1) := by decide +kernel
theorem d_Law_law_1493 : decode (mb M_Law_law) 1493 = .ok (.iadd, 1) := by decide +kernel
theorem d_Law_law_1494 : decode (mb M_Law_law) 1494 = .ok (.iaload, 1) := by decide +kernel
theorem d_Law_law_1495 : decode (mb M_Law_law) 1495 = .ok (.aload_n 3, 1) := by decide +kernel
theorem d_Law_law_1496 : decode (mb M_Law_law) 1496 = .ok (.invokestatic 208, 3) := by decide +kernel
theorem d_Law_law_1499 : decode (mb M_Law_law) 1499 = .ok (.istore 5, 2) := by decide +kernel
theorem d_Law_law_1501 : decode (mb M_Law_law) 1501 = .ok (.aload_n 2, 1) := by decide +kernel
theorem d_Law_law_1502 : decode (mb M_Law_law) 1502 = .ok (.aload_n 0, 1) := by decide +kernel
theorem d_Law_law_1503 : decode (mb M_Law_law) 1503 = .ok (.iload 4, 2) := by decide +kernel
theorem d_Law_law_1505 : decode (mb M_Law_law) 1505 = .ok (.iconst 1, 1) := by decide +kernel
theorem d_Law_law_1506 : decode (mb M_Law_law) 1506 = .ok (.iadd, 1) := by decide +kernel
theorem d_Law_law_1507 : decode (mb M_Law_law) 1507 = .ok (.iaload, 1) := by decide +kernel
theorem d_Law_law_1508 : decode (mb M_Law_law) 1508 = .ok (.aload_n 0, 1) := by decide +kernel
theorem d_Law_law_1509 : decode (mb M_Law_law) 1509 = .ok (.iload 4, 2) := by decide +kernel
theorem d_Law_law_1511 : decode (mb M_Law_law) 1511 = .ok (.iconst 2, 1) := by decide +kernel
theorem d_Law_law_1512 : decode (mb M_Law_law) 1512 = .ok (.iadd, 1) := by decide +kernel
theorem d_Law_law_1513 : decode (mb M_Law_law) 1513 = .ok (.iaload, 1) := by decide +kernel
theorem d_Law_law_1514 : decode (mb M_Law_law) 1514 = .ok (.invokevirtual 210, 3) := by decide +kernel
theorem d_Law_law_1517 : decode (mb M_Law_law) 1517 = .ok (.istore 6, 2) := by decide +kernel
theorem d_Law_law_1519 : decode (mb M_Law_law) 1519 = .ok (.aload_n 2, 1) := by decide +kernel
theorem d_Law_law_1520 : decode (mb M_Law_law) 1520 = .ok (.invokevirtual 138, 3) := by decide +kernel
theorem d_Law_law_1523 : decode (mb M_Law_law) 1523 = .ok (.iload 5, 2) := by decide +kernel
theorem d_Law_law_1525 : decode (mb M_Law_law) 1525 = .ok (.if_icmp .eq 5, 3) := by decide +kernel
theorem d_Law_law_1528 : decode (mb M_Law_law) 1528 = .ok (.iconst 0, 1) := by decide +kernel
theorem d_Law_law_1529 : decode (mb M_Law_law) 1529 = .ok (.ireturn, 1) := by decide +kernel
theorem d_Law_law_1530 : decode (mb M_Law_law) 1530 = .ok (.iload 5, 2) := by decide +kernel
theorem d_Law_law_1532 : decode (mb M_Law_law) 1532 = .ok (.ifCond .ne 15, 3) := by decide +kernel
theorem d_Law_law_1535 : decode (mb M_Law_law) 1535 = .ok (.aload_n 3, 1) := by decide +kernel
theorem d_Law_law_1536 : decode (mb M_Law_law) 1536 = .ok (.iconst 0, 1) := by decide +kernel
theorem d_Law_law_1537 : decode (mb M_Law_law) 1537 = .ok (.laload, 1) := by decide +kernel
theorem d_Law_law_1538 : decode (mb M_Law_law) 1538 = .ok (.iload 6, 2) := by decide +kernel
theorem d_Law_law_1540 : decode (mb M_Law_law) 1540 = .ok (.i2l, 1) := by decide +kernel
theorem d_Law_law_1541 : decode (mb M_Law_law) 1541 = .ok (.lcmp, 1) := by decide +kernel
theorem d_Law_law_1542 : decode (mb M_Law_law) 1542 = .ok (.ifCond .eq 5, 3) := by decide +kernel
theorem d_Law_law_1545 : decode (mb M_Law_law) 1545 = .ok (.iconst 0, 1) := by decide +kernel
theorem d_Law_law_1546 : decode (mb M_Law_law) 1546 = .ok (.ireturn, 1) := by decide +kernel
theorem d_Law_law_1547 : decode (mb M_Law_law) 1547 = .ok (.goto 1064, 3) := by decide +kernel
theorem d_Law_law_1550 : decode (mb M_Law_law) 1550 = .ok (.aload_n 1, 1) := by decide +kernel
theorem d_Law_law_1551 : decode (mb M_Law_law) 1551 = .ok (.aload_n 0, 1) := by decide +kernel
theorem d_Law_law_1552 : decode (mb M_Law_law) 1552 = .ok (.iload 4, 2) := by decide +kernel
theorem d_Law_law_1554 : decode (mb M_Law_law) 1554 = .ok (.iconst 1, 1) := by decide +kernel
theorem d_Law_law_1555 : decode (mb M_Law_law) 1555 = .ok (.iadd, 1) := by decide +kernel
theorem d_Law_law_1556 : decode (mb M_Law_law) 1556 = .ok (.iaload, 1) := by decide +kernel
theorem d_Law_law_1557 : decode (mb M_Law_law) 1557 = .ok (.aload_n 0, 1) := by decide +kernel
theorem d_Law_law_1558 : decode (mb M_Law_law) 1558 = .ok (.iload 4, 2) := by decide +kernel
theorem d_Law_law_1560 : decode (mb M_Law_law) 1560 = .ok (.iconst 2, 1) := by decide +kernel
theorem d_Law_law_1561 : decode (mb M_Law_law) 1561 = .ok (.iadd, 1) := by decide +kernel
theorem d_Law_law_1562 : decode (mb M_Law_law) 1562 = .ok (.iaload, 1) := by decide +kernel
theorem d_Law_law_1563 : decode (mb M_Law_law) 1563 = .ok (.aload_n 3, 1) := by decide +kernel
theorem d_Law_law_1564 : decode (mb M_Law_law) 1564 = .ok (.invokestatic 211, 3) := by decide +kernel
theorem d_Law_law_1567 : decode (mb M_Law_law) 1567 = .ok (.istore 5, 2) := by decide +kernel
theorem d_Law_law_1569 : decode (mb M_Law_law) 1569 = .ok (.aload_n 2, 1) := by decide +kernel
theorem d_Law_law_1570 : decode (mb M_Law_law) 1570 = .ok (.aload_n 0, 1) := by decide +kernel
theorem d_Law_law_1571 : decode (mb M_Law_law) 1571 = .ok (.iload 4, 2) := by decide +kernel
theorem d_Law_law_1573 : decode (mb M_Law_law) 1573 = .ok (.iconst 1, 1) := by decide +kernel
theorem d_Law_law_1574 : decode (mb M_Law_law) 1574 = .ok (.iadd, 1) := by decide +kernel
theorem d_Law_law_1575 : decode (mb M_Law_law) 1575 = .ok (.iaload, 1) := by decide +kernel
theorem d_Law_law_1576 : decode (mb M_Law_law) 1576 = .ok (.aload_n 0, 1) := by decide +kernel
theorem d_Law_law_1577 : decode (mb M_Law_law) 1577 = .ok (.iload 4, 2) := by decide +kernel
theorem d_Law_law_1579 : decode (mb M_Law_law) 1579 = .ok (.iconst 2, 1) := by decide +kernel
theorem d_Law_law_1580 : decode (mb M_Law_law) 1580 = .ok (.iadd, 1) := by decide +kernel
theorem d_Law_law_1581 : decode (mb M_Law_law) 1581 = .ok (.iaload, 1) := by decide +kernel
theorem d_Law_law_1582 : decode (mb M_Law_law) 1582 = .ok (.invokevirtual 213, 3) := by decide +kernel
theorem d_Law_law_1585 : decode (mb M_Law_law) 1585 = .ok (.istore 6, 2) := by decide +kernel
theorem d_Law_law_1587 : decode (mb M_Law_law) 1587 = .ok (.aload_n 2, 1) := by decide +kernel
theorem d_Law_law_1588 : decode (mb M_Law_law) 1588 = .ok (.invokevirtual 138, 3) := by decide +kernel
theorem d_Law_law_1591 : decode (mb M_Law_law) 1591 = .ok (.iload 5, 2) := by decide +kernel
theorem d_Law_law_1593 : decode (mb M_Law_law) 1593 = .ok (.if_icmp .eq 5, 3) := by decide +kernel
theorem d_Law_law_1596 : decode (mb M_Law_law) 1596 = .ok (.iconst 0, 1) := by decide +kernel
theorem d_Law_law_1597 : decode (mb M_Law_law) 1597 = .ok (.ireturn, 1) := by decide +kernel
theorem d_Law_law_1598 : decode (mb M_Law_law) 1598 = .ok (.iload 5, 2) := by decide +kernel
theorem d_Law_law_1600 : decode (mb M_Law_law) 1600 = .ok (.ifCond .ne 15, 3) := by decide +kernel
theorem d_Law_law_1603 : decode (mb M_Law_law) 1603 = .ok (.aload_n 3, 1) := by decide +kernel
theorem d_Law_law_1604 : decode (mb M_Law_law) 1604 = .ok (.iconst 0, 1) := by decide +kernel
theorem d_Law_law_1605 : decode (mb M_Law_law) 1605 = .ok (.laload, 1) := by decide +kernel
theorem d_Law_law_1606 : decode (mb M_Law_law) 1606 = .ok (.iload 6, 2) := by decide +kernel
theorem d_Law_law_1608 : decode (mb M_Law_law) 1608 = .ok (.i2l, 1) := by decide +kernel
theorem d_Law_law_1609 : decode (mb M_Law_law) 1609 = .ok (.lcmp, 1) := by decide +kernel
theorem d_Law_law_1610 : decode (mb M_Law_law) 1610 = .ok (.ifCond .eq 5, 3) := by decide +kernel
theorem d_Law_law_1613 : decode (mb M_Law_law) 1613 = .ok (.iconst 0, 1) := by decide +kernel
theorem d_Law_law_1614 : decode (mb M_Law_law) 1614 = .ok (.ireturn, 1) := by decide +kernel
theorem d_Law_law_1615 : decode (mb M_Law_law) 1615 = .ok (.goto 996, 3) := by decide +kernel
theorem d_Law_law_1618 : decode (mb M_Law_law) 1618 = .ok (.aload_n 1, 1) := by decide +kernel
theorem d_Law_law_1619 : decode (mb M_Law_law) 1619 = .ok (.aload_n 0, 1) := by decide +kernel
theorem d_Law_law_1620 : decode (mb M_Law_law) 1620 = .ok (.iload 4, 2) := by decide +kernel
theorem d_Law_law_1622 : decode (mb M_Law_law) 1622 = .ok (.iconst 1, 1) := by decide +kernel
theorem d_Law_law_1623 : decode (mb M_Law_law) 1623 = .ok (.iadd, 1) := by decide +kernel
theorem d_Law_law_1624 : decode (mb M_Law_law) 1624 = .ok (.iaload, 1) := by decide +kernel
theorem d_Law_law_1625 : decode (mb M_Law_law) 1625 = .ok (.aload_n 0, 1) := by decide +kernel
theorem d_Law_law_1626 : decode (mb M_Law_law) 1626 = .ok (.iload 4, 2) := by decide +kernel
theorem d_Law_law_1628 : decode (mb M_Law_law) 1628 = .ok (.iconst 2, 1) := by decide +kernel
theorem d_Law_law_1629 : decode (mb M_Law_law) 1629 = .ok (.iadd, 1) := by decide +kernel
theorem d_Law_law_1630 : decode (mb M_Law_law) 1630 = .ok (.iaload, 1) := by decide +kernel
theorem d_Law_law_1631 : decode (mb M_Law_law) 1631 = .ok (.aload_n 0, 1) := by decide +kernel
theorem d_Law_law_1632 : decode (mb M_Law_law) 1632 = .ok (.iload 4, 2) := by decide +kernel
theorem d_Law_law_1634 : decode (mb M_Law_law) 1634 = .ok (.iconst 3, 1) := by decide +kernel
theorem d_Law_law_1635 : decode (mb M_Law_law) 1635 = .ok (.iadd, 1) := by decide +kernel
theorem d_Law_law_1636 : decode (mb M_Law_law) 1636 = .ok (.iaload, 1) := by decide +kernel
theorem d_Law_law_1637 : decode (mb M_Law_law) 1637 = .ok (.aload_n 3, 1) := by decide +kernel
theorem d_Law_law_1638 : decode (mb M_Law_law) 1638 = .ok (.invokestatic 214, 3) := by decide +kernel
theorem d_Law_law_1641 : decode (mb M_Law_law) 1641 = .ok (.istore 5, 2) := by decide +kernel
theorem d_Law_law_1643 : decode (mb M_Law_law) 1643 = .ok (.aload_n 2, 1) := by decide +kernel
theorem d_Law_law_1644 : decode (mb M_Law_law) 1644 = .ok (.aload_n 0, 1) := by decide +kernel
theorem d_Law_law_1645 : decode (mb M_Law_law) 1645 = .ok (.iload 4, 2) := by decide +kernel
theorem d_Law_law_1647 : decode (mb M_Law_law) 1647 = .ok (.iconst 1, 1) := by decide +kernel
theorem d_Law_law_1648 : decode (mb M_Law_law) 1648 = .ok (.iadd, 1) := by decide +kernel
theorem d_Law_law_1649 : decode (mb M_Law_law) 1649 = .ok (.iaload, 1) := by decide +kernel
theorem d_Law_law_1650 : decode (mb M_Law_law) 1650 = .ok (.aload_n 0, 1) := by decide +kernel
theorem d_Law_law_1651 : decode (mb M_Law_law) 1651 = .ok (.iload 4, 2) := by decide +kernel
theorem d_Law_law_1653 : decode (mb M_Law_law) 1653 = .ok (.iconst 2, 1) := by decide +kernel
theorem d_Law_law_1654 : decode (mb M_Law_law) 1654 = .ok (.iadd, 1) := by decide +kernel
theorem d_Law_law_1655 : decode (mb M_Law_law) 1655 = .ok (.iaload, 1) := by decide +kernel
theorem d_Law_law_1656 : decode (mb M_Law_law) 1656 = .ok (.aload_n 0, 1) := by decide +kernel
theorem d_Law_law_1657 : decode (mb M_Law_law) 1657 = .ok (.iload 4, 2) := by decide +kernel
theorem d_Law_law_1659 : decode (mb M_Law_law) 1659 = .ok (.iconst 3, 1) := by decide +kernel
theorem d_Law_law_1660 : decode (mb M_Law_law) 1660 = .ok (.iadd, 1) := by decide +kernel
theorem d_Law_law_1661 : decode (mb M_Law_law) 1661 = .ok (.iaload, 1) := by decide +kernel
theorem d_Law_law_1662 : decode (mb M_Law_law) 1662 = .ok (.invokevirtual 217, 3) := by decide +kernel
theorem d_Law_law_1665 : decode (mb M_Law_law) 1665 = .ok (.istore 6, 2) := by decide +kernel
theorem d_Law_law_1667 : decode (mb M_Law_law) 1667 = .ok (.aload_n 2, 1) := by decide +kernel
theorem d_Law_law_1668 : decode (mb M_Law_law) 1668 = .ok (.invokevirtual 138, 3) := by decide +kernel
theorem d_Law_law_1671 : decode (mb M_Law_law) 1671 = .ok (.iload 5, 2) := by decide +kernel
theorem d_Law_law_1673 : decode (mb M_Law_law) 1673 = .ok (.if_icmp .eq 5, 3) := by decide +kernel
theorem d_Law_law_1676 : decode (mb M_Law_law) 1676 = .ok (.iconst 0, 1) := by decide +kernel
theorem d_Law_law_1677 : decode (mb M_Law_law) 1677 = .ok (.ireturn, 1) := by decide +kernel
theorem d_Law_law_1678 : decode (mb M_Law_law) 1678 = .ok (.iload 5, 2) := by decide +kernel
theorem d_Law_law_1680 : decode (mb M_Law_law) 1680 = .ok (.ifCond .ne 15, 3) := by decide +kernel
theorem d_Law_law_1683 : decode (mb M_Law_law) 1683 = .ok (.aload_n 3, 1) := by decide +kernel
theorem d_Law_law_1684 : decode (mb M_Law_law) 1684 = .ok (.iconst 0, 1) := by decide +kernel
theorem d_Law_law_1685 : decode (mb M_Law_law) 1685 = .ok (.laload, 1) := by decide +kernel
theorem d_Law_law_1686 : decode (mb M_Law_law) 1686 = .ok (.iload 6, 2) := by decide +kernel
theorem d_Law_law_1688 : decode (mb M_Law_law) 1688 = .ok (.i2l, 1) := by decide +kernel
theorem d_Law_law_1689 : decode (mb M_Law_law) 1689 = .ok (.lcmp, 1) := by decide +kernel
theorem d_Law_law_1690 : decode (mb M_Law_law) 1690 = .ok (.ifCond .eq 5, 3) := by decide +kernel
theorem d_Law_law_1693 : decode (mb M_Law_law) 1693 = .ok (.iconst 0, 1) := by decide +kernel
theorem d_Law_law_1694 : decode (mb M_Law_law) 1694 = .ok (.ireturn, 1) := by decide +kernel
theorem d_Law_law_1695 : decode (mb M_Law_law) 1695 = .ok (.goto 916, 3) := by decide +kernel
theorem d_Law_law_1698 : decode (mb M_Law_law) 1698 = .ok (.aload_n 1, 1) := by decide +kernel
theorem d_Law_law_1699 : decode (mb M_Law_law) 1699 = .ok (.invokevirtual 218, 3) := by decide +kernel
theorem d_Law_law_1702 : decode (mb M_Law_law) 1702 = .ok (.aload_n 2, 1) := by decide +kernel
theorem d_Law_law_1703 : decode (mb M_Law_law) 1703 = .ok (.invokevirtual 221, 3) := by decide +kernel
theorem d_Law_law_1706 : decode (mb M_Law_law) 1706 = .ok (.if_icmp .eq 905, 3) := by decide +kernel
theorem d_Law_law_1709 : decode (mb M_Law_law) 1709 = .ok (.iconst 0, 1) := by decide +kernel
theorem d_Law_law_1710 : decode (mb M_Law_law) 1710 = .ok (.ireturn, 1) := by decide +kernel
theorem d_Law_law_1711 : decode (mb M_Law_law) 1711 = .ok (.aload_n 1, 1) := by decide +kernel
theorem d_Law_law_1712 : decode (mb M_Law_law) 1712 = .ok (.aload_n 0, 1) := by decide +kernel
theorem d_Law_law_1713 : decode (mb M_Law_law) 1713 = .ok (.iload 4, 2) := by decide +kernel
theorem d_Law_law_1715 : decode (mb M_Law_law) 1715 = .ok (.iconst 1, 1) := by decide +kernel
theorem d_Law_law_1716 : decode (mb M_Law_law) 1716 = .ok (.iadd, 1) := by decide +kernel
theorem d_Law_law_1717 : decode (mb M_Law_law) 1717 = .ok (.iaload, 1) := by decide +kernel
theorem d_Law_law_1718 : decode (mb M_Law_law) 1718 = .ok (.aload_n 0, 1) := by decide +kernel
theorem d_Law_law_1719 : decode (mb M_Law_law) 1719 = .ok (.iload 4, 2) := by decide +kernel
theorem d_Law_law_1721 : decode (mb M_Law_law) 1721 = .ok (.iconst 2, 1) := by decide +kernel
theorem d_Law_law_1722 : decode (mb M_Law_law) 1722 = .ok (.iadd, 1) := by decide +kernel
theorem d_Law_law_1723 : decode (mb M_Law_law) 1723 = .ok (.iaload, 1) := by decide +kernel
theorem d_Law_law_1724 : decode (mb M_Law_law) 1724 = .ok (.aload_n 3, 1) := by decide +kernel
theorem d_Law_law_1725 : decode (mb M_Law_law) 1725 = .ok (.invokestatic 222, 3) := by decide +kernel
theorem d_Law_law_1728 : decode (mb M_Law_law) 1728 = .ok (.istore 5, 2) := by decide +kernel
theorem d_Law_law_1730 : decode (mb M_Law_law) 1730 = .ok (.aload_n 2, 1) := by decide +kernel
theorem d_Law_law_1731 : decode (mb M_Law_law) 1731 = .ok (.aload_n 0, 1) := by decide +kernel
theorem d_Law_law_1732 : decode (mb M_Law_law) 1732 = .ok (.iload 4, 2) := by decide +kernel
theorem d_Law_law_1734 : decode (mb M_Law_law) 1734 = .ok (.iconst 1, 1) := by decide +kernel
theorem d_Law_law_1735 : decode (mb M_Law_law) 1735 = .ok (.iadd, 1) := by decide +kernel
theorem d_Law_law_1736 : decode (mb M_Law_law) 1736 = .ok (.iaload, 1) := by decide +kernel
theorem d_Law_law_1737 : decode (mb M_Law_law) 1737 = .ok (.aload_n 0, 1) := by decide +kernel
theorem d_Law_law_1738 : decode (mb M_Law_law) 1738 = .ok (.iload 4, 2) := by decide +kernel
theorem d_Law_law_1740 : decode (mb M_Law_law) 1740 = .ok (.iconst 2, 1) := by decide +kernel
theorem d_Law_law_1741 : decode (mb M_Law_law) 1741 = .ok (.iadd, 1) := by decide +kernel
theorem d_Law_law_1742 : decode (mb M_Law_law) 1742 = .ok (.iaload, 1) := by decide +kernel
theorem d_Law_law_1743 : decode (mb M_Law_law) 1743 = .ok (.invokevirtual 224, 3) := by decide +kernel
theorem d_Law_law_1746 : decode (mb M_Law_law) 1746 = .ok (.istore 6, 2) := by decide +kernel
theorem d_Law_law_1748 : decode (mb M_Law_law) 1748 = .ok (.aload_n 2, 1) := by decide +kernel
theorem d_Law_law_1749 : decode (mb M_Law_law) 1749 = .ok (.invokevirtual 138, 3) := by decide +kernel
theorem d_Law_law_1752 : decode (mb M_Law_law) 1752 = .ok (.iload 5, 2) := by decide +kernel
theorem d_Law_law_1754 : decode (mb M_Law_law) 1754 = .ok (.if_icmp .eq 5, 3) := by decide +kernel
theorem d_Law_law_1757 : decode (mb M_Law_law) 1757 = .ok (.iconst 0, 1) := by decide +kernel
theorem d_Law_law_1758 : decode (mb M_Law_law) 1758 = .ok (.ireturn, 1) := by decide +kernel
theorem d_Law_law_1759 : decode (mb M_Law_law) 1759 = .ok (.iload 5, 2) := by decide +kernel
theorem d_Law_law_1761 : decode (mb M_Law_law) 1761 = .ok (.ifCond .ne 15, 3) := by decide +kernel
theorem d_Law_law_1764 : decode (mb M_Law_law) 1764 = .ok (.aload_n 3, 1) := by decide +kernel
theorem d_Law_law_1765 : decode (mb M_Law_law) 1765 = .ok (.iconst 0, 1) := by decide +kernel
theorem d_Law_law_1766 : decode (mb M_Law_law) 1766 = .ok (.laload, 1) := by decide +kernel
theorem d_Law_law_1767 : decode (mb M_Law_law) 1767 = .ok (.iload 6, 2) := by decide +kernel
theorem d_Law_law_1769 : decode (mb M_Law_law) 1769 = .ok (.i2l, 1) := by decide +kernel
theorem d_Law_law_1770 : decode (mb M_Law_law) 1770 = .ok (.lcmp, 1) := by decide +kernel
theorem d_Law_law_1771 : decode (mb M_Law_law) 1771 = .ok (.ifCond .eq 5, 3) := by decide +kernel
theorem d_Law_law_1774 : decode (mb M_Law_law) 1774 = .ok (.iconst 0, 1) := by decide +kernel
theorem d_Law_law_1775 : decode (mb M_Law_law) 1775 = .ok (.ireturn, 1) := by decide +kernel
theorem d_Law_law_1776 : decode (mb M_Law_law) 1776 = .ok (.goto 835, 3) := by decide +kernel
theorem d_Law_law_1779 : decode (mb M_Law_law) 1779 = .ok (.aload_n 1, 1) := by decide +kernel
theorem d_Law_law_1780 : decode (mb M_Law_law) 1780 = .ok (.aload_n 0, 1) := by decide +kernel
theorem d_Law_law_1781 : decode (mb M_Law_law) 1781 = .ok (.iload 4, 2) := by decide +kernel
theorem d_Law_law_1783 : decode (mb M_Law_law) 1783 = .ok (.iconst 1, 1) := by decide +kernel
theorem d_Law_law_1784 : decode (mb M_Law_law) 1784 = .ok (.iadd, 1) := by decide +kernel
theorem d_Law_law_1785 : decode (mb M_Law_law) 1785 = .ok (.iaload, 1) := by decide +kernel
theorem d_Law_law_1786 : decode (mb M_Law_law) 1786 = .ok (.aload_n 0, 1) := by decide +kernel
theorem d_Law_law_1787 : decode (mb M_Law_law) 1787 = .ok (.iload 4, 2) := by decide +kernel
theorem d_Law_law_1789 : decode (mb M_Law_law) 1789 = .ok (.iconst 2, 1) := by decide +kernel
theorem d_Law_law_1790 : decode (mb M_Law_law) 1790 = .ok (.iadd, 1) := by decide +kernel
theorem d_Law_law_1791 : decode (mb M_Law_law) 1791 = .ok (.iaload, 1) := by decide +kernel
theorem d_Law_law_1792 : decode (mb M_Law_law) 1792 = .ok (.aload_n 3, 1) := by decide +kernel
theorem d_Law_law_1793 : decode (mb M_Law_law) 1793 = .ok (.invokestatic 225, 3) := by decide +kernel
theorem d_Law_law_1796 : decode (mb M_Law_law) 1796 = .ok (.istore 5, 2) := by decide +kernel
theorem d_Law_law_1798 : decode (mb M_Law_law) 1798 = .ok (.aload_n 2, 1) := by decide +kernel
theorem d_Law_law_1799 : decode (mb M_Law_law) 1799 = .ok (.aload_n 0, 1) := by decide +kernel
theorem d_Law_law_1800 : decode (mb M_Law_law) 1800 = .ok (.iload 4, 2) := by decide +kernel
theorem d_Law_law_1802 : decode (mb M_Law_law) 1802 = .ok (.iconst 1, 1) := by decide +kernel
theorem d_Law_law_1803 : decode (mb M_Law_law) 1803 = .ok (.iadd, 1) := by decide +kernel
theorem d_Law_law_1804 : decode (mb M_Law_law) 1804 = .ok (.iaload, 1) := by decide +kernel
theorem d_Law_law_1805 : decode (mb M_Law_law) 1805 = .ok (.aload_n 0, 1) := by decide +kernel
theorem d_Law_law_1806 : decode (mb M_Law_law) 1806 = .ok (.iload 4, 2) := by decide +kernel
theorem d_Law_law_1808 : decode (mb M_Law_law) 1808 = .ok (.iconst 2, 1) := by decide +kernel
theorem d_Law_law_1809 : decode (mb M_Law_law) 1809 = .ok (.iadd, 1) := by decide +kernel
theorem d_Law_law_1810 : decode (mb M_Law_law) 1810 = .ok (.iaload, 1) := by decide +kernel
theorem d_Law_law_1811 : decode (mb M_Law_law) 1811 = .ok (.invokevirtual 227, 3) := by decide +kernel
theorem d_Law_law_1814 : decode (mb M_Law_law) 1814 = .ok (.istore 6, 2) := by decide +kernel
theorem d_Law_law_1816 : decode (mb M_Law_law) 1816 = .ok (.aload_n 2, 1) := by decide +kernel
theorem d_Law_law_1817 : decode (mb M_Law_law) 1817 = .ok (.invokevirtual 138, 3) := by decide +kernel
theorem d_Law_law_1820 : decode (mb M_Law_law) 1820 = .ok (.iload 5, 2) := by decide +kernel
theorem d_Law_law_1822 : decode (mb M_Law_law) 1822 = .ok (.if_icmp .eq 5, 3) := by decide +kernel
theorem d_Law_law_1825 : decode (mb M_Law_law) 1825 = .ok (.iconst 0, 1) := by decide +kernel
theorem d_Law_law_1826 : decode (mb M_Law_law) 1826 = .ok (.ireturn, 1) := by decide +kernel
theorem d_Law_law_1827 : decode (mb M_Law_law) 1827 = .ok (.iload 5, 2) := by decide +kernel
theorem d_Law_law_1829 : decode (mb M_Law_law) 1829 = .ok (.ifCond .ne 15, 3) := by decide +kernel
theorem d_Law_law_1832 : decode (mb M_Law_law) 1832 = .ok (.aload_n 3, 1) := by decide +kernel
theorem d_Law_law_1833 : decode (mb M_Law_law) 1833 = .ok (.iconst 0, 1) := by decide +kernel
theorem d_Law_law_1834 : decode (mb M_Law_law) 1834 = .ok (.laload, 1) := by decide +kernel
theorem d_Law_law_1835 : decode (mb M_Law_law) 1835 = .ok (.iload 6, 2) := by decide +kernel
theorem d_Law_law_1837 : decode (mb M_Law_law) 1837 = .ok (.i2l, 1) := by decide +kernel
theorem d_Law_law_1838 : decode (mb M_Law_law) 1838 = .ok (.lcmp, 1) := by decide +kernel
theorem d_Law_law_1839 : decode (mb M_Law_law) 1839 = .ok (.ifCond .eq 5, 3) := by decide +kernel
theorem d_Law_law_1842 : decode (mb M_Law_law) 1842 = .ok (.iconst 0, 1) := by decide +kernel
theorem d_Law_law_1843 : decode (mb M_Law_law) 1843 = .ok (.ireturn, 1) := by decide +kernel
theorem d_Law_law_1844 : decode (mb M_Law_law) 1844 = .ok (.goto 767, 3) := by decide +kernel
theorem d_Law_law_1847 : decode (mb M_Law_law) 1847 = .ok (.aload_n 1, 1) := by decide +kernel
theorem d_Law_law_1848 : decode (mb M_Law_law) 1848 = .ok (.aload_n 0, 1) := by decide +kernel
theorem d_Law_law_1849 : decode (mb M_Law_law) 1849 = .ok (.iload 4, 2) := by decide +kernel
theorem d_Law_law_1851 : decode (mb M_Law_law) 1851 = .ok (.iconst 1, 1) := by decide +kernel
theorem d_Law_law_1852 : decode (mb M_Law_law) 1852 = .ok (.iadd, 1) := by decide +kernel
theorem d_Law_law_1853 : decode (mb M_Law_law) 1853 = .ok (.iaload, 1) := by decide +kernel
theorem d_Law_law_1854 : decode (mb M_Law_law) 1854 = .ok (.aload_n 0, 1) := by decide +kernel
theorem d_Law_law_1855 : decode (mb M_Law_law) 1855 = .ok (.iload 4, 2) := by decide +kernel
theorem d_Law_law_1857 : decode (mb M_Law_law) 1857 = .ok (.iconst 2, 1) := by decide +kernel
theorem d_Law_law_1858 : decode (mb M_Law_law) 1858 = .ok (.iadd, 1) := by decide +kernel
theorem d_Law_law_1859 : decode (mb M_Law_law) 1859 = .ok (.iaload, 1) := by decide +kernel
theorem d_Law_law_1860 : decode (mb M_Law_law) 1860 = .ok (.aload_n 0, 1) := by decide +kernel
theorem d_Law_law_1861 : decode (mb M_Law_law) 1861 = .ok (.iload 4, 2) := by decide +kernel
theorem d_Law_law_1863 : decode (mb M_Law_law) 1863 = .ok (.iconst 3, 1) := by decide +kernel
theorem d_Law_law_1864 : decode (mb M_Law_law) 1864 = .ok (.iadd, 1) := by decide +kernel
theorem d_Law_law_1865 : decode (mb M_Law_law) 1865 = .ok (.iaload, 1) := by decide +kernel
theorem d_Law_law_1866 : decode (mb M_Law_law) 1866 = .ok (.aload_n 3, 1) := by decide +kernel
theorem d_Law_law_1867 : decode (mb M_Law_law) 1867 = .ok (.invokestatic 228, 3) := by decide +kernel
theorem d_Law_law_1870 : decode (mb M_Law_law) 1870 = .ok (.istore 5, 2) := by decide +kernel
theorem d_Law_law_1872 : decode (mb M_Law_law) 1872 = .ok (.aload_n 2, 1) := by decide +kernel
theorem d_Law_law_1873 : decode (mb M_Law_law) 1873 = .ok (.aload_n 0, 1) := by decide +kernel
theorem d_Law_law_1874 : decode (mb M_Law_law) 1874 = .ok (.iload 4, 2) := by decide +kernel
theorem d_Law_law_1876 : decode (mb M_Law_law) 1876 = .ok (.iconst 1, 1) := by decide +kernel
theorem d_Law_law_1877 : decode (mb M_Law_law) 1877 = .ok (.iadd, 1) := by decide +kernel
theorem d_Law_law_1878 : decode (mb M_Law_law) 1878 = .ok (.iaload, 1) := by decide +kernel
theorem d_Law_law_1879 : decode (mb M_Law_law) 1879 = .ok (.aload_n 0, 1) := by decide +kernel
theorem d_Law_law_1880 : decode (mb M_Law_law) 1880 = .ok (.iload 4, 2) := by decide +kernel
theorem d_Law_law_1882 : decode (mb M_Law_law) 1882 = .ok (.iconst 2, 1) := by decide +kernel
theorem d_Law_law_1883 : decode (mb M_Law_law) 1883 = .ok (.iadd, 1) := by decide +kernel
theorem d_Law_law_1884 : decode (mb M_Law_law) 1884 = .ok (.iaload, 1) := by decide +kernel
theorem d_Law_law_1885 : decode (mb M_Law_law) 1885 = .ok (.aload_n 0, 1) := by decide +kernel
theorem d_Law_law_1886 : decode (mb M_Law_law) 1886 = .ok (.iload 4, 2) := by decide +kernel
theorem d_Law_law_1888 : decode (mb M_Law_law) 1888 = .ok (.iconst 3, 1) := by decide +kernel
theorem d_Law_law_1889 : decode (mb M_Law_law) 1889 = .ok (.iadd, 1) := by decide +kernel
theorem d_Law_law_1890 : decode (mb M_Law_law) 1890 = .ok (.iaload, 1) := by decide +kernel
theorem d_Law_law_1891 : decode (mb M_Law_law) 1891 = .ok (.invokevirtual 230, 3) := by decide +kernel
theorem d_Law_law_1894 : decode (mb M_Law_law) 1894 = .ok (.istore 6, 2) := by decide +kernel
theorem d_Law_law_1896 : decode (mb M_Law_law) 1896 = .ok (.aload_n 2, 1) := by decide +kernel
theorem d_Law_law_1897 : decode (mb M_Law_law) 1897 = .ok (.invokevirtual 138, 3) := by decide +kernel
theorem d_Law_law_1900 : decode (mb M_Law_law) 1900 = .ok (.iload 5, 2) := by decide +kernel
theorem d_Law_law_1902 : decode (mb M_Law_law) 1902 = .ok (.if_icmp .eq 5, 3) := by decide +kernel
theorem d_Law_law_1905 : decode (mb M_Law_law) 1905 = .ok (.iconst 0, 1) := by decide +kernel
theorem d_Law_law_1906 : decode (mb M_Law_law) 1906 = .ok (.ireturn, 1) := by decide +kernel
theorem d_Law_law_1907 : decode (mb M_Law_law) 1907 = .ok (.iload 5, 2) := by decide +kernel
theorem d_Law_law_1909 : decode (mb M_Law_law) 1909 = .ok (.ifCond .ne 15, 3) := by decide +kernel
theorem d_Law_law_1912 : decode (mb M_Law_law) 1912 = .ok (.aload_n 3, 1) := by decide +kernel
theorem d_Law_law_1913 : decode (mb M_Law_law) 1913 = .ok (.iconst 0, 1) := by decide +kernel
theorem d_Law_law_1914 : decode (mb M_Law_law) 1914 = .ok (.laload, 1) := by decide +kernel
theorem d_Law_law_1915 : decode (mb M_Law_law) 1915 = .ok (.iload 6, 2) := by decide +kernel
theorem d_Law_law_1917 : decode (mb M_Law_law) 1917 = .ok (.i2l, 1) := by decide +kernel
theorem d_Law_law_1918 : decode (mb M_Law_law) 1918 = .ok (.lcmp, 1) := by decide +kernel
theorem d_Law_law_1919 : decode (mb M_Law_law) 1919 = .ok (.ifCond .eq 5, 3) := by decide +kernel
theorem d_Law_law_1922 : decode (mb M_Law_law) 1922 = .ok (.iconst 0, 1) := by decide +kernel
theorem d_Law_law_1923 : decode (mb M_Law_law) 1923 = .ok (.ireturn, 1) := by decide +kernel
theorem d_Law_law_1924 : decode (mb M_Law_law) 1924 = .ok (.goto 687, 3) := by decide +kernel
theorem d_Law_law_1927 : decode (mb M_Law_law) 1927 = .ok (.aload_n 1, 1) := by decide +kernel
theorem d_Law_law_1928 : decode (mb M_Law_law) 1928 = .ok (.aload_n 0, 1) := by decide +kernel
theorem d_Law_law_1929 : decode (mb M_Law_law) 1929 = .ok (.iload 4, 2) := by decide +kernel
theorem d_Law_law_1931 : decode (mb M_Law_law) 1931 = .ok (.iconst 1, 1) := by decide +kernel
theorem d_Law_law_1932 : decode (mb M_Law_law) 1932 = .ok (.iadd, 1) := by decide +kernel
theorem d_Law_law_1933 : decode (mb M_Law_law) 1933 = .ok (.iaload, 1) := by decide +kernel
theorem d_Law_law_1934 : decode (mb M_Law_law) 1934 = .ok (.aload_n 3, 1) := by decide +kernel
theorem d_Law_law_1935 : decode (mb M_Law_law) 1935 = .ok (.invokestatic 231, 3) := by decide +kernel
theorem d_Law_law_1938 : decode (mb M_Law_law) 1938 = .ok (.istore 5, 2) := by decide +kernel
theorem d_Law_law_1940 : decode (mb M_Law_law) 1940 = .ok (.aload_n 2, 1) := by decide +kernel
theorem d_Law_law_1941 : decode (mb M_Law_law) 1941 = .ok (.aload_n 0, 1) := by decide +kernel
theorem d_Law_law_1942 : decode (mb M_Law_law) 1942 = .ok (.iload 4, 2) := by decide +kernel
theorem d_Law_law_1944 : decode (mb M_Law_law) 1944 = .ok (.iconst 1, 1) := by decide +kernel
theorem d_Law_law_1945 : decode (mb M_Law_law) 1945 = .ok (.iadd, 1) := by decide +kernel
theorem d_Law_law_1946 : decode (mb M_Law_law) 1946 = .ok (.iaload, 1) := by decide +kernel
theorem d_Law_law_1947 : decode (mb M_Law_law) 1947 = .ok (.invokevirtual 233, 3) := by decide +kernel
theorem d_Law_law_1950 : decode (mb M_Law_law) 1950 = .ok (.istore 6, 2) := by decide +kernel
theorem d_Law_law_1952 : decode (mb M_Law_law) 1952 = .ok (.aload_n 2, 1) := by decide +kernel
theorem d_Law_law_1953 : decode (mb M_Law_law) 1953 = .ok (.invokevirtual 138, 3) := by decide +kernel
theorem d_Law_law_1956 : decode (mb M_Law_law) 1956 = .ok (.iload 5, 2) := by decide +kernel
theorem d_Law_law_1958 : decode (mb M_Law_law) 1958 = .ok (.if_icmp .eq 5, 3) := by decide +kernel
theorem d_Law_law_1961 : decode (mb M_Law_law) 1961 = .ok (.iconst 0, 1) := by decide +kernel
theorem d_Law_law_1962 : decode (mb M_Law_law) 1962 = .ok (.ireturn, 1) := by decide +kernel
theorem d_Law_law_1963 : decode (mb M_Law_law) 1963 = .ok (.iload 5, 2) := by decide +kernel
theorem d_Law_law_1965 : decode (mb M_Law_law) 1965 = .ok (.ifCond .ne 15, 3) := by decide +kernel
theorem d_Law_law_1968 : decode (mb M_Law_law) 1968 = .ok (.aload_n 3, 1) := by decide +kernel
theorem d_Law_law_1969 : decode (mb M_Law_law) 1969 = .ok (.iconst 0, 1) := by decide +kernel
theorem d_Law_law_1970 : decode (mb M_Law_law) 1970 = .ok (.laload, 1) := by decide +kernel
theorem d_Law_law_1971 : decode (mb M_Law_law) 1971 = .ok (.iload 6, 2) := by decide +kernel
theorem d_Law_law_1973 : decode (mb M_Law_law) 1973 = .ok (.i2l, 1) := by decide +kernel
theorem d_Law_law_1974 : decode (mb M_Law_law) 1974 = .ok (.lcmp, 1) := by decide +kernel
theorem d_Law_law_1975 : decode (mb M_Law_law) 1975 = .ok (.ifCond .eq 5, 3) := by decide +kernel
theorem d_Law_law_1978 : decode (mb M_Law_law) 1978 = .ok (.iconst 0, 1) := by decide +kernel
theorem d_Law_law_1979 : decode (mb M_Law_law) 1979 = .ok (.ireturn, 1) := by decide +kernel
theorem d_Law_law_1980 : decode (mb M_Law_law) 1980 = .ok (.goto 631, 3) := by decide +kernel
theorem d_Law_law_1983 : decode (mb M_Law_law) 1983 = .ok (.aload_n 1, 1) := by decide +kernel
theorem d_Law_law_1984 : decode (mb M_Law_law) 1984 = .ok (.aload_n 0, 1) := by decide +kernel
theorem d_Law_law_1985 : decode (mb M_Law_law) 1985 = .ok (.iload 4, 2) := by decide +kernel
theorem d_Law_law_1987 : decode (mb M_Law_law) 1987 = .ok (.iconst 1, 1) := by decide +kernel
theorem d_Law_law_1988 : decode (mb M_Law_law) 1988 = .ok (.iadd, 1) := by decide +kernel
theorem d_Law_law_1989 : decode (mb M_Law_law) 1989 = .ok (.iaload, 1) := by decide +kernel
theorem d_Law_law_1990 : decode (mb M_Law_law) 1990 = .ok (.aload_n 0, 1) := by decide +kernel
theorem d_Law_law_1991 : decode (mb M_Law_law) 1991 = .ok (.iload 4, 2) := by decide +kernel
theorem d_Law_law_1993 : decode (mb M_Law_law) 1993 = .ok (.iconst 2, 1) := by decide +kernel
theorem d_Law_law_1994 : decode (mb M_Law_law) 1994 = .ok (.iadd, 1) := by decide +kernel
theorem d_Law_law_1995 : decode (mb M_Law_law) 1995 = .ok (.iaload, 1) := by decide +kernel
theorem d_Law_law_1996 : decode (mb M_Law_law) 1996 = .ok (.aload_n 0, 1) := by decide +kernel
theorem d_Law_law_1997 : decode (mb M_Law_law) 1997 = .ok (.iload 4, 2) := by decide +kernel
theorem d_Law_law_1999 : decode (mb M_Law_law) 1999 = .ok (.iconst 3, 1) := by decide +kernel
theorem d_Law_law_2000 : decode (mb M_Law_law) 2000 = .ok (.iadd, 1) := by decide +kernel
theorem d_Law_law_2001 : decode (mb M_Law_law) 2001 = .ok (.iaload, 1) := by decide +kernel
theorem d_Law_law_2002 : decode (mb M_Law_law) 2002 = .ok (.aload_n 3, 1) := by decide +kernel
theorem d_Law_law_2003 : decode (mb M_Law_law) 2003 = .ok (.invokestatic 234, 3) := by decide +kernel
theorem d_Law_law_2006 : decode (mb M_Law_law) 2006 = .ok (.istore 5, 2) := by decide +kernel
theorem d_Law_law_2008 : decode (mb M_Law_law) 2008 = .ok (.aload_n 2, 1) := by decide +kernel
theorem d_Law_law_2009 : decode (mb M_Law_law) 2009 = .ok (.aload_n 0, 1) := by decide +kernel
theorem d_Law_law_2010 : decode (mb M_Law_law) 2010 = .ok (.iload 4, 2) := by decide +kernel
theorem d_Law_law_2012 : decode (mb M_Law_law) 2012 = .ok (.iconst 1, 1) := by decide +kernel
theorem d_Law_law_2013 : decode (mb M_Law_law) 2013 = .ok (.iadd, 1) := by decide +kernel
theorem d_Law_law_2014 : decode (mb M_Law_law) 2014 = .ok (.iaload, 1) := by decide +kernel
theorem d_Law_law_2015 : decode (mb M_Law_law) 2015 = .ok (.aload_n 0, 1) := by decide +kernel
theorem d_Law_law_2016 : decode (mb M_Law_law) 2016 = .ok (.iload 4, 2) := by decide +kernel
theorem d_Law_law_2018 : decode (mb M_Law_law) 2018 = .ok (.iconst 2, 1) := by decide +kernel
theorem d_Law_law_2019 : decode (mb M_Law_law) 2019 = .ok (.iadd, 1) := by decide +kernel
theorem d_Law_law_2020 : decode (mb M_Law_law) 2020 = .ok (.iaload, 1) := by decide +kernel
theorem d_Law_law_2021 : decode (mb M_Law_law) 2021 = .ok (.aload_n 0, 1) := by decide +kernel
theorem d_Law_law_2022 : decode (mb M_Law_law) 2022 = .ok (.iload 4, 2) := by decide +kernel
theorem d_Law_law_2024 : decode (mb M_Law_law) 2024 = .ok (.iconst 3, 1) := by decide +kernel
theorem d_Law_law_2025 : decode (mb M_Law_law) 2025 = .ok (.iadd, 1) := by decide +kernel
theorem d_Law_law_2026 : decode (mb M_Law_law) 2026 = .ok (.iaload, 1) := by decide +kernel
theorem d_Law_law_2027 : decode (mb M_Law_law) 2027 = .ok (.invokevirtual 236, 3) := by decide +kernel
theorem d_Law_law_2030 : decode (mb M_Law_law) 2030 = .ok (.istore 6, 2) := by decide +kernel
theorem d_Law_law_2032 : decode (mb M_Law_law) 2032 = .ok (.aload_n 2, 1) := by decide +kernel
theorem d_Law_law_2033 : decode (mb M_Law_law) 2033 = .ok (.invokevirtual 138, 3) := by decide +kernel
theorem d_Law_law_2036 : decode (mb M_Law_law) 2036 = .ok (.iload 5, 2) := by decide +kernel
theorem d_Law_law_2038 : decode (mb M_Law_law) 2038 = .ok (.if_icmp .eq 5, 3) := by decide +kernel
theorem d_Law_law_2041 : decode (mb M_Law_law) 2041 = .ok (.iconst 0, 1) := by decide +kernel
theorem d_Law_law_2042 : decode (mb M_Law_law) 2042 = .ok (.ireturn, 1) := by decide +kernel
theorem d_Law_law_2043 : decode (mb M_Law_law) 2043 = .ok (.iload 5, 2) := by decide +kernel
theorem d_Law_law_2045 : decode (mb M_Law_law) 2045 = .ok (.ifCond .ne 15, 3) := by decide +kernel
theorem d_Law_law_2048 : decode (mb M_Law_law) 2048 = .ok (.aload_n 3, 1) := by decide +kernel
theorem d_Law_law_2049 : decode (mb M_Law_law) 2049 = .ok (.iconst 0, 1) := by decide +kernel
theorem d_Law_law_2050 : decode (mb M_Law_law) 2050 = .ok (.laload, 1) := by decide +kernel
theorem d_Law_law_2051 : decode (mb M_Law_law) 2051 = .ok (.iload 6, 2) := by decide +kernel
theorem d_Law_law_2053 : decode (mb M_Law_law) 2053 = .ok (.i2l, 1) := by decide +kernel
theorem d_Law_law_2054 : decode (mb M_Law_law) 2054 = .ok (.lcmp, 1) := by decide +kernel
theorem d_Law_law_2055 : decode (mb M_Law_law) 2055 = .ok (.ifCond .eq 5, 3) := by decide +kernel
theorem d_Law_law_2058 : decode (mb M_Law_law) 2058 = .ok (.iconst 0, 1) := by decide +kernel
theorem d_Law_law_2059 : decode (mb M_Law_law) 2059 = .ok (.ireturn, 1) := by decide +kernel
theorem d_Law_law_2060 : decode (mb M_Law_law) 2060 = .ok (.goto 551, 3) := by decide +kernel
theorem d_Law_law_2063 : decode (mb M_Law_law) 2063 = .ok (.aload_n 1, 1) := by decide +kernel
theorem d_Law_law_2064 : decode (mb M_Law_law) 2064 = .ok (.aload_n 0, 1) := by decide +kernel
theorem d_Law_law_2065 : decode (mb M_Law_law) 2065 = .ok (.iload 4, 2) := by decide +kernel
theorem d_Law_law_2067 : decode (mb M_Law_law) 2067 = .ok (.iconst 1, 1) := by decide +kernel
theorem d_Law_law_2068 : decode (mb M_Law_law) 2068 = .ok (.iadd, 1) := by decide +kernel
theorem d_Law_law_2069 : decode (mb M_Law_law) 2069 = .ok (.iaload, 1) := by decide +kernel
theorem d_Law_law_2070 : decode (mb M_Law_law) 2070 = .ok (.aload_n 0, 1) := by decide +kernel
theorem d_Law_law_2071 : decode (mb M_Law_law) 2071 = .ok (.iload 4, 2) := by decide +kernel
theorem d_Law_law_2073 : decode (mb M_Law_law) 2073 = .ok (.iconst 2, 1) := by decide +kernel
theorem d_Law_law_2074 : decode (mb M_Law_law) 2074 = .ok (.iadd, 1) := by decide +kernel
theorem d_Law_law_2075 : decode (mb M_Law_law) 2075 = .ok (.iaload, 1) := by decide +kernel
theorem d_Law_law_2076 : decode (mb M_Law_law) 2076 = .ok (.aload_n 3, 1) := by decide +kernel
theorem d_Law_law_2077 : decode (mb M_Law_law) 2077 = .ok (.invokestatic 237, 3) := by decide +kernel
theorem d_Law_law_2080 : decode (mb M_Law_law) 2080 = .ok (.istore 5, 2) := by decide +kernel
theorem d_Law_law_2082 : decode (mb M_Law_law) 2082 = .ok (.aload_n 2, 1) := by decide +kernel
theorem d_Law_law_2083 : decode (mb M_Law_law) 2083 = .ok (.aload_n 0, 1) := by decide +kernel
theorem d_Law_law_2084 : decode (mb M_Law_law) 2084 = .ok (.iload 4, 2) := by decide +kernel
theorem d_Law_law_2086 : decode (mb M_Law_law) 2086 = .ok (.iconst 1, 1) := by decide +kernel
theorem d_Law_law_2087 : decode (mb M_Law_law) 2087 = .ok (.iadd, 1) := by decide +kernel
theorem d_Law_law_2088 : decode (mb M_Law_law) 2088 = .ok (.iaload, 1) := by decide +kernel
theorem d_Law_law_2089 : decode (mb M_Law_law) 2089 = .ok (.aload_n 0, 1) := by decide +kernel
theorem d_Law_law_2090 : decode (mb M_Law_law) 2090 = .ok (.iload 4, 2) := by decide +kernel
theorem d_Law_law_2092 : decode (mb M_Law_law) 2092 = .ok (.iconst 2, 1) := by decide +kernel
theorem d_Law_law_2093 : decode (mb M_Law_law) 2093 = .ok (.iadd, 1) := by decide +kernel
theorem d_Law_law_2094 : decode (mb M_Law_law) 2094 = .ok (.iaload, 1) := by decide +kernel
theorem d_Law_law_2095 : decode (mb M_Law_law) 2095 = .ok (.invokevirtual 239, 3) := by decide +kernel
theorem d_Law_law_2098 : decode (mb M_Law_law) 2098 = .ok (.istore 6, 2) := by decide +kernel
theorem d_Law_law_2100 : decode (mb M_Law_law) 2100 = .ok (.aload_n 2, 1) := by decide +kernel
theorem d_Law_law_2101 : decode (mb M_Law_law) 2101 = .ok (.invokevirtual 138, 3) := by decide +kernel
theorem d_Law_law_2104 : decode (mb M_Law_law) 2104 = .ok (.iload 5, 2) := by decide +kernel
theorem d_Law_law_2106 : decode (mb M_Law_law) 2106 = .ok (.if_icmp .eq 5, 3) := by decide +kernel
theorem d_Law_law_2109 : decode (mb M_Law_law) 2109 = .ok (.iconst 0, 1) := by decide +kernel
theorem d_Law_law_2110 : decode (mb M_Law_law) 2110 = .ok (.ireturn, 1) := by decide +kernel
theorem d_Law_law_2111 : decode (mb M_Law_law) 2111 = .ok (.iload 5, 2) := by decide +kernel
theorem d_Law_law_2113 : decode (mb M_Law_law) 2113 = .ok (.ifCond .ne 15, 3) := by decide +kernel
theorem d_Law_law_2116 : decode (mb M_Law_law) 2116 = .ok (.aload_n 3, 1) := by decide +kernel
theorem d_Law_law_2117 : decode (mb M_Law_law) 2117 = .ok (.iconst 0, 1) := by decide +kernel
theorem d_Law_law_2118 : decode (mb M_Law_law) 2118 = .ok (.laload, 1) := by decide +kernel
theorem d_Law_law_2119 : decode (mb M_Law_law) 2119 = .ok (.iload 6, 2) := by decide +kernel
theorem d_Law_law_2121 : decode (mb M_Law_law) 2121 = .ok (.i2l, 1) := by decide +kernel
theorem d_Law_law_2122 : decode (mb M_Law_law) 2122 = .ok (.lcmp, 1) := by decide +kernel
theorem d_Law_law_2123 : decode (mb M_Law_law) 2123 = .ok (.ifCond .eq 5, 3) := by decide +kernel
theorem d_Law_law_2126 : decode (mb M_Law_law) 2126 = .ok (.iconst 0, 1) := by decide +kernel
theorem d_Law_law_2127 : decode (mb M_Law_law) 2127 = .ok (.ireturn, 1) := by decide +kernel
theorem d_Law_law_2128 : decode (mb M_Law_law) 2128 = .ok (.goto 483, 3) := by decide +kernel
theorem d_Law_law_2131 : decode (mb M_Law_law) 2131 = .ok (.aload_n 1, 1) := by decide +kernel
theorem d_Law_law_2132 : decode (mb M_Law_law) 2132 = .ok (.aload_n 0, 1) := by decide +kernel
theorem d_Law_law_2133 : decode (mb M_Law_law) 2133 = .ok (.iload 4, 2) := by decide +kernel
theorem d_Law_law_2135 : decode (mb M_Law_law) 2135 = .ok (.iconst 1, 1) := by decide +kernel
theorem d_Law_law_2136 : decode (mb M_Law_law) 2136 = .ok (.iadd, 1) := by decide +kernel
theorem d_Law_law_2137 : decode (mb M_Law_law) 2137 = .ok (.iaload, 1) := by decide +kernel
theorem d_Law_law_2138 : decode (mb M_Law_law) 2138 = .ok (.aload_n 0, 1) := by decide +kernel
theorem d_Law_law_2139 : decode (mb M_Law_law) 2139 = .ok (.iload 4, 2) := by decide +kernel
theorem d_Law_law_2141 : decode (mb M_Law_law) 2141 = .ok (.iconst 2, 1) := by decide +kernel
theorem d_Law_law_2142 : decode (mb M_Law_law) 2142 = .ok (.iadd, 1) := by decide +kernel
theorem d_Law_law_2143 : decode (mb M_Law_law) 2143 = .ok (.iaload, 1) := by decide +kernel
theorem d_Law_law_2144 : decode (mb M_Law_law) 2144 = .ok (.aload_n 3, 1) := by decide +kernel
theorem d_Law_law_2145 : decode (mb M_Law_law) 2145 = .ok (.invokestatic 240, 3) := by decide +kernel
theorem d_Law_law_2148 : decode (mb M_Law_law) 2148 = .ok (.istore 5, 2) := by decide +kernel
theorem d_Law_law_2150 : decode (mb M_Law_law) 2150 = .ok (.aload_n 2, 1) := by decide +kernel
theorem d_Law_law_2151 : decode (mb M_Law_law) 2151 = .ok (.aload_n 0, 1) := by decide +kernel
theorem d_Law_law_2152 : decode (mb M_Law_law) 2152 = .ok (.iload 4, 2) := by decide +kernel
theorem d_Law_law_2154 : decode (mb M_Law_law) 2154 = .ok (.iconst 1, 1) := by decide +kernel
theorem d_Law_law_2155 : decode (mb M_Law_law) 2155 = .ok (.iadd, 1) := by decide +kernel
theorem d_Law_law_2156 : decode (mb M_Law_law) 2156 = .ok (.iaload, 1) := by decide +kernel
theorem d_Law_law_2157 : decode (mb M_Law_law) 2157 = .ok (.aload_n 0, 1) := by decide +kernel
theorem d_Law_law_2158 : decode (mb M_Law_law) 2158 = .ok (.iload 4, 2) := by decide +kernel
theorem d_Law_law_2160 : decode (mb M_Law_law) 2160 = .ok (.iconst 2, 1) := by decide +kernel
theorem d_Law_law_2161 : decode (mb M_Law_law) 2161 = .ok (.iadd, 1) := by decide +kernel
theorem d_Law_law_2162 : decode (mb M_Law_law) 2162 = .ok (.iaload, 1) := by decide +kernel
theorem d_Law_law_2163 : decode (mb M_Law_law) 2163 = .ok (.invokevirtual 242, 3) := by decide +kernel
theorem d_Law_law_2166 : decode (mb M_Law_law) 2166 = .ok (.istore 6, 2) := by decide +kernel
theorem d_Law_law_2168 : decode (mb M_Law_law) 2168 = .ok (.aload_n 2, 1) := by decide +kernel
theorem d_Law_law_2169 : decode (mb M_Law_law) 2169 = .ok (.invokevirtual 138, 3) := by decide +kernel
theorem d_Law_law_2172 : decode (mb M_Law_law) 2172 = .ok (.iload 5, 2) := by decide +kernel
theorem d_Law_law_2174 : decode (mb M_Law_law) 2174 = .ok (.if_icmp .eq 5, 3) := by decide +kernel
theorem d_Law_law_2177 : decode (mb M_Law_law) 2177 = .ok (.iconst 0, 1) := by decide +kernel
theorem d_Law_law_2178 : decode (mb M_Law_law) 2178 = .ok (.ireturn, 1) := by decide +kernel
theorem d_Law_law_2179 : decode (mb M_Law_law) 2179 = .ok (.iload 5, 2) := by decide +kernel
theorem d_Law_law_2181 : decode (mb M_Law_law) 2181 = .ok (.ifCond .ne 15, 3) := by decide +kernel
theorem d_Law_law_2184 : decode (mb M_Law_law) 2184 = .ok (.aload_n 3, 1) := by decide +kernel
theorem d_Law_law_2185 : decode (mb M_Law_law) 2185 = .ok (.iconst 0, 1) := by decide +kernel
theorem d_Law_law_2186 : decode (mb M_Law_law) 2186 = .ok (.laload, 1) := by decide +kernel
theorem d_Law_law_2187 : decode (mb M_Law_law) 2187 = .ok (.iload 6, 2) := by decide +kernel
theorem d_Law_law_2189 : decode (mb M_Law_law) 2189 = .ok (.i2l, 1) := by decide +kernel
theorem d_Law_law_2190 : decode (mb M_Law_law) 2190 = .ok (.lcmp, 1) := by decide +kernel
theorem d_Law_law_2191 : decode (mb M_Law_law) 2191 = .ok (.ifCond .eq 5, 3) := by decide +kernel
theorem d_Law_law_2194 : decode (mb M_Law_law) 2194 = .ok (.iconst 0, 1) := by decide +kernel
theorem d_Law_law_2195 : decode (mb M_Law_law) 2195 = .ok (.ireturn, 1) := by decide +kernel
theorem d_Law_law_2196 : decode (mb M_Law_law) 2196 = .ok (.goto 415, 3) := by decide +kernel
theorem d_Law_law_2199 : decode (mb M_Law_law) 2199 = .ok (.aload_n 1, 1) := by decide +kernel
theorem d_Law_law_2200 : decode (mb M_Law_law) 2200 = .ok (.aload_n 0, 1) := by decide +kernel
theorem d_Law_law_2201 : decode (mb M_Law_law) 2201 = .ok (.iload 4, 2) := by decide +kernel
theorem d_Law_law_2203 : decode (mb M_Law_law) 2203 = .ok (.iconst 1, 1) := by decide +kernel
theorem d_Law_law_2204 : decode (mb M_Law_law) 2204 = .ok (.iadd, 1) := by decide +kernel
theorem d_Law_law_2205 : decode (mb M_Law_law) 2205 = .ok (.iaload, 1) := by decide +kernel
theorem d_Law_law_2206 : decode (mb M_Law_law) 2206 = .ok (.aload_n 0, 1) := by decide +kernel
theorem d_Law_law_2207 : decode (mb M_Law_law) 2207 = .ok (.iload 4, 2) := by decide +kernel
theorem d_Law_law_2209 : decode (mb M_Law_law) 2209 = .ok (.iconst 2, 1) := by decide +kernel
theorem d_Law_law_2210 : decode (mb M_Law_law) 2210 = .ok (.iadd, 1) := by decide +kernel
theorem d_Law_law_2211 : decode (mb M_Law_law) 2211 = .ok (.iaload, 1) := by decide +kernel
theorem d_Law_law_2212 : decode (mb M_Law_law) 2212 = .ok (.aload_n 3, 1) := by decide +kernel
theorem d_Law_law_2213 : decode (mb M_Law_law) 2213 = .ok (.invokestatic 243, 3) := by decide +kernel
theorem d_Law_law_2216 : decode (mb M_Law_law) 2216 = .ok (.istore 5, 2) := by decide +kernel
theorem d_Law_law_2218 : decode (mb M_Law_law) 2218 = .ok (.aload_n 2, 1) := by decide +kernel
theorem d_Law_law_2219 : decode (mb M_Law_law) 2219 = .ok (.aload_n 0, 1) := by decide +kernel
theorem d_Law_law_2220 : decode (mb M_Law_law) 2220 = .ok (.iload 4, 2) := by decide +kernel
theorem d_Law_law_2222 : decode (mb M_Law_law) 2222 = .ok (.iconst 1, 1) := by decide +kernel
theorem d_Law_law_2223 : decode (mb M_Law_law) 2223 = .ok (.iadd, 1) := by decide +kernel
theorem d_Law_law_2224 : decode (mb M_Law_law) 2224 = .ok (.iaload, 1) := by decide +kernel
theorem d_Law_law_2225 : decode (mb M_Law_law) 2225 = .ok (.aload_n 0, 1) := by decide +kernel
theorem d_Law_law_2226 : decode (mb M_Law_law) 2226 = .ok (.iload 4, 2) := by decide +kernel
theorem d_Law_law_2228 : decode (mb M_Law_law) 2228 = .ok (.iconst 2, 1) := by decide +kernel
theorem d_Law_law_2229 : decode (mb M_Law_law) 2229 = .ok (.iadd, 1) := by decide +kernel
theorem d_Law_law_2230 : decode (mb M_Law_law) 2230 = .ok (.iaload, 1) := by decide +kernel
theorem d_Law_law_2231 : decode (mb M_Law_law) 2231 = .ok (.invokevirtual 245, 3) := by decide +kernel
theorem d_Law_law_2234 : decode (mb M_Law_law) 2234 = .ok (.istore 6, 2) := by decide +kernel
theorem d_Law_law_2236 : decode (mb M_Law_law) 2236 = .ok (.aload_n 2, 1) := by decide +kernel
theorem d_Law_law_2237 : decode (mb M_Law_law) 2237 = .ok (.invokevirtual 138, 3) := by decide +kernel
theorem d_Law_law_2240 : decode (mb M_Law_law) 2240 = .ok (.iload 5, 2) := by decide +kernel
theorem d_Law_law_2242 : decode (mb M_Law_law) 2242 = .ok (.if_icmp .eq 5, 3) := by decide +kernel
theorem d_Law_law_2245 : decode (mb M_Law_law) 2245 = .ok (.iconst 0, 1) := by decide +kernel
theorem d_Law_law_2246 : decode (mb M_Law_law) 2246 = .ok (.ireturn, 1) := by decide +kernel
theorem d_Law_law_2247 : decode (mb M_Law_law) 2247 = .ok (.iload 5, 2) := by decide +kernel
theorem d_Law_law_2249 : decode (mb M_Law_law) 2249 = .ok (.ifCond .ne 15, 3) := by decide +kernel
theorem d_Law_law_2252 : decode (mb M_Law_law) 2252 = .ok (.aload_n 3, 1) := by decide +kernel
theorem d_Law_law_2253 : decode (mb M_Law_law) 2253 = .ok (.iconst 0, 1) := by decide +kernel
theorem d_Law_law_2254 : decode (mb M_Law_law) 2254 = .ok (.laload, 1) := by decide +kernel
theorem d_Law_law_2255 : decode (mb M_Law_law) 2255 = .ok (.iload 6, 2) := by decide +kernel
theorem d_Law_law_2257 : decode (mb M_Law_law) 2257 = .ok (.i2l, 1) := by decide +kernel
theorem d_Law_law_2258 : decode (mb M_Law_law) 2258 = .ok (.lcmp, 1) := by decide +kernel
theorem d_Law_law_2259 : decode (mb M_Law_law) 2259 = .ok (.ifCond .eq 5, 3) := by decide +kernel
theorem d_Law_law_2262 : decode (mb M_Law_law) 2262 = .ok (.iconst 0, 1) := by decide +kernel
theorem d_Law_law_2263 : decode (mb M_Law_law) 2263 = .ok (.ireturn, 1) := by decide +kernel
theorem d_Law_law_2264 : decode (mb M_Law_law) 2264 = .ok (.goto 347, 3) := by decide +kernel
theorem d_Law_law_2267 : decode (mb M_Law_law) 2267 = .ok (.aload_n 1, 1) := by decide +kernel
theorem d_Law_law_2268 : decode (mb M_Law_law) 2268 = .ok (.aload_n 0, 1) := by decide +kernel
theorem d_Law_law_2269 : decode (mb M_Law_law) 2269 = .ok (.iload 4, 2) := by decide +kernel
theorem d_Law_law_2271 : decode (mb M_Law_law) 2271 = .ok (.iconst 1, 1) := by decide +kernel
theorem d_Law_law_2272 : decode (mb M_Law_law) 2272 = .ok (.iadd, 1) := by decide +kernel
theorem d_Law_law_2273 : decode (mb M_Law_law) 2273 = .ok (.iaload, 1) := by decide +kernel
theorem d_Law_law_2274 : decode (mb M_Law_law) 2274 = .ok (.aload_n 0, 1) := by decide +kernel
theorem d_Law_law_2275 : decode (mb M_Law_law) 2275 = .ok (.iload 4, 2) := by decide +kernel
theorem d_Law_law_2277 : decode (mb M_Law_law) 2277 = .ok (.iconst 2, 1) := by decide +kernel
theorem d_Law_law_2278 : decode (mb M_Law_law) 2278 = .ok (.iadd, 1) := by decide +kernel
theorem d_Law_law_2279 : decode (mb M_Law_law) 2279 = .ok (.iaload, 1) := by decide +kernel
theorem d_Law_law_2280 : decode (mb M_Law_law) 2280 = .ok (.aload_n 3, 1) := by decide +kernel
theorem d_Law_law_2281 : decode (mb M_Law_law) 2281 = .ok (.invokestatic 246, 3) := by decide +kernel
theorem d_Law_law_2284 : decode (mb M_Law_law) 2284 = .ok (.istore 5, 2) := by decide +kernel
theorem d_Law_law_2286 : decode (mb M_Law_law) 2286 = .ok (.aload_n 2, 1) := by decide +kernel
theorem d_Law_law_2287 : decode (mb M_Law_law) 2287 = .ok (.aload_n 0, 1) := by decide +kernel
theorem d_Law_law_2288 : decode (mb M_Law_law) 2288 = .ok (.iload 4, 2) := by decide +kernel
theorem d_Law_law_2290 : decode (mb M_Law_law) 2290 = .ok (.iconst 1, 1) := by decide +kernel
theorem d_Law_law_2291 : decode (mb M_Law_law) 2291 = .ok (.iadd, 1) := by decide +kernel
theorem d_Law_law_2292 : decode (mb M_Law_law) 2292 = .ok (.iaload, 1) := by decide +kernel
theorem d_Law_law_2293 : decode (mb M_Law_law) 2293 = .ok (.aload_n 0, 1) := by decide +kernel
theorem d_Law_law_2294 : decode (mb M_Law_law) 2294 = .ok (.iload 4, 2) := by decide +kernel
theorem d_Law_law_2296 : decode (mb M_Law_law) 2296 = .ok (.iconst 2, 1) := by decide +kernel
theorem d_Law_law_2297 : decode (mb M_Law_law) 2297 = .ok (.iadd, 1) := by decide +kernel
theorem d_Law_law_2298 : decode (mb M_Law_law) 2298 = .ok (.iaload, 1) := by decide +kernel
theorem d_Law_law_2299 : decode (mb M_Law_law) 2299 = .ok (.invokevirtual 248, 3) := by decide +kernel
theorem d_Law_law_2302 : decode (mb M_Law_law) 2302 = .ok (.istore 6, 2) := by decide +kernel
theorem d_Law_law_2304 : decode (mb M_Law_law) 2304 = .ok (.aload_n 2, 1) := by decide +kernel
theorem d_Law_law_2305 : decode (mb M_Law_law) 2305 = .ok (.invokevirtual 138, 3) := by decide +kernel
theorem d_Law_law_2308 : decode (mb M_Law_law) 2308 = .ok (.iload 5, 2) := by decide +kernel
theorem d_Law_law_2310 : decode (mb M_Law_law) 2310 = .ok (.if_icmp .eq 5, 3) := by decide +kernel
theorem d_Law_law_2313 : decode (mb M_Law_law) 2313 = .ok (.iconst 0, 1) := by decide +kernel
theorem d_Law_law_2314 : decode (mb M_Law_law) 2314 = .ok (.ireturn, 1) := by decide +kernel
theorem d_Law_law_2315 : decode (mb M_Law_law) 2315 = .ok (.iload 5, 2) := by decide +kernel
theorem d_Law_law_2317 : decode (mb M_Law_law) 2317 = .ok (.ifCond .ne 15, 3) := by decide +kernel
theorem d_Law_law_2320 : decode (mb M_Law_law) 2320 = .ok (.aload_n 3, 1) := by decide +kernel
theorem d_Law_law_2321 : decode (mb M_Law_law) 2321 = .ok (.iconst 0, 1) := by decide +kernel
theorem d_Law_law_2322 : decode (mb M_Law_law) 2322 = .ok (.laload, 1) := by decide +kernel
theorem d_Law_law_2323 : decode (mb M_Law_law) 2323 = .ok (.iload 6, 2) := by decide +kernel
theorem d_Law_law_2325 : decode (mb M_Law_law) 2325 = .ok (.i2l, 1) := by decide +kernel
theorem d_Law_law_2326 : decode (mb M_Law_law) 2326 = .ok (.lcmp, 1) := by decide +kernel
theorem d_Law_law_2327 : decode (mb M_Law_law) 2327 = .ok (.ifCond .eq 5, 3) := by decide +kernel
theorem d_Law_law_2330 : decode (mb M_Law_law) 2330 = .ok (.iconst 0, 1) := by decide +kernel
theorem d_Law_law_2331 : decode (mb M_Law_law) 2331 = .ok (.ireturn, 1) := by decide +kernel
theorem d_Law_law_2332 : decode (mb M_Law_law) 2332 = .ok (.goto 279, 3) := by decide +kernel
theorem d_Law_law_2335 : decode (mb M_Law_law) 2335 = .ok (.aload_n 1, 1) := by decide +kernel
theorem d_Law_law_2336 : decode (mb M_Law_law) 2336 = .ok (.aload_n 0, 1) := by decide +kernel
theorem d_Law_law_2337 : decode (mb M_Law_law) 2337 = .ok (.iload 4, 2) := by decide +kernel
theorem d_Law_law_2339 : decode (mb M_Law_law) 2339 = .ok (.iconst 1, 1) := by decide +kernel
theorem d_Law_law_2340 : decode (mb M_Law_law) 2340 = .ok (.iadd, 1) := by decide +kernel
theorem d_Law_law_2341 : decode (mb M_Law_law) 2341 = .ok (.iaload, 1) := by decide +kernel
theorem d_Law_law_2342 : decode (mb M_Law_law) 2342 = .ok (.aload_n 0, 1) := by decide +kernel
theorem d_Law_law_2343 : decode (mb M_Law_law) 2343 = .ok (.iload 4, 2) := by decide +kernel
theorem d_Law_law_2345 : decode (mb M_Law_law) 2345 = .ok (.iconst 2, 1) := by decide +kernel
theorem d_Law_law_2346 : decode (mb M_Law_law) 2346 = .ok (.iadd, 1) := by decide +kernel
theorem d_Law_law_2347 : decode (mb M_Law_law) 2347 = .ok (.iaload, 1) := by decide +kernel
theorem d_Law_law_2348 : decode (mb M_Law_law) 2348 = .ok (.aload_n 0, 1) := by decide +kernel
theorem d_Law_law_2349 : decode (mb M_Law_law) 2349 = .ok (.iload 4, 2) := by decide +kernel
theorem d_Law_law_2351 : decode (mb M_Law_law) 2351 = .ok (.iconst 3, 1) := by decide +kernel
theorem d_Law_law_2352 : decode (mb M_Law_law) 2352 = .ok (.iadd, 1) := by decide +kernel
theorem d_Law_law_2353 : decode (mb M_Law_law) 2353 = .ok (.iaload, 1) := by decide +kernel
theorem d_Law_law_2354 : decode (mb M_Law_law) 2354 = .ok (.ifCond .eq 7, 3) := by decide +kernel
theorem d_Law_law_2357 : decode (mb M_Law_law) 2357 = .ok (.iconst 1, 1) := by decide +kernel
theorem d_Law_law_2358 : decode (mb M_Law_law) 2358 = .ok (.goto 4, 3) := by decide +kernel
theorem d_Law_law_2361 : decode (mb M_Law_law) 2361 = .ok (.iconst 0, 1) := by decide +kernel
theorem d_Law_law_2362 : decode (mb M_Law_law) 2362 = .ok (.aload_n 3, 1) := by decide +kernel
theorem d_Law_law_2363 : decode (mb M_Law_law) 2363 = .ok (.invokestatic 249, 3) := by decide +kernel
theorem d_Law_law_2366 : decode (mb M_Law_law) 2366 = .ok (.istore 5, 2) := by decide +kernel
theorem d_Law_law_2368 : decode (mb M_Law_law) 2368 = .ok (.aload_n 2, 1) := by decide +kernel
theorem d_Law_law_2369 : decode (mb M_Law_law) 2369 = .ok (.aload_n 0, 1) := by decide +kernel
theorem d_Law_law_2370 : decode (mb M_Law_law) 2370 = .ok (.iload 4, 2) := by decide +kernel
theorem d_Law_law_2372 : decode (mb M_Law_law) 2372 = .ok (.iconst 1, 1) := by decide +kernel
theorem d_Law_law_2373 : decode (mb M_Law_law) 2373 = .ok (.iadd, 1) := by decide +kernel
theorem d_Law_law_2374 : decode (mb M_Law_law) 2374 = .ok (.iaload, 1) := by decide +kernel
theorem d_Law_law_2375 : decode (mb M_Law_law) 2375 = .ok (.aload_n 0, 1) := by decide +kernel
theorem d_Law_law_2376 : decode (mb M_Law_law) 2376 = .ok (.iload 4, 2) := by decide +kernel
theorem d_Law_law_2378 : decode (mb M_Law_law) 2378 = .ok (.iconst 2, 1) := by decide +kernel
theorem d_Law_law_2379 : decode (mb M_Law_law) 2379 = .ok (.iadd, 1) := by decide +kernel
theorem d_Law_law_2380 : decode (mb M_Law_law) 2380 = .ok (.iaload, 1) := by decide +kernel
theorem d_Law_law_2381 : decode (mb M_Law_law) 2381 = .ok (.aload_n 0, 1) := by decide +kernel
theorem d_Law_law_2382 : decode (mb M_Law_law) 2382 = .ok (.iload 4, 2) := by decide +kernel
theorem d_Law_law_2384 : decode (mb M_Law_law) 2384 = .ok (.iconst 3, 1) := by decide +kernel
theorem d_Law_law_2385 : decode (mb M_Law_law) 2385 = .ok (.iadd, 1) := by decide +kernel
theorem d_Law_law_2386 : decode (mb M_Law_law) 2386 = .ok (.iaload, 1) := by decide +kernel
theorem d_Law_law_2387 : decode (mb M_Law_law) 2387 = .ok (.ifCond .eq 7, 3) := by decide +kernel
theorem d_Law_law_2390 : decode (mb M_Law_law) 2390 = .ok (.iconst 1, 1) := by decide +kernel
theorem d_Law_law_2391 : decode (mb M_Law_law) 2391 = .ok (.goto 4, 3) := by decide +kernel
theorem d_Law_law_2394 : decode (mb M_Law_law) 2394 = .ok (.iconst 0, 1) := by decide +kernel
theorem d_Law_law_2395 : decode (mb M_Law_law) 2395 = .ok (.invokevirtual 251, 3) := by decide +kernel
theorem d_Law_law_2398 : decode (mb M_Law_law) 2398 = .ok (.istore 6, 2) := by decide +kernel
theorem d_Law_law_2400 : decode (mb M_Law_law) 2400 = .ok (.aload_n 2, 1) := by decide +kernel
theorem d_Law_law_2401 : decode (mb M_Law_law) 2401 = .ok (.invokevirtual 138, 3) := by decide +kernel
theorem d_Law_law_2404 : decode (mb M_Law_law) 2404 = .ok (.iload 5, 2) := by decide +kernel
theorem d_Law_law_2406 : decode (mb M_Law_law) 2406 = .ok (.if_icmp .eq 5, 3) := by decide +kernel
theorem d_Law_law_2409 : decode (mb M_Law_law) 2409 = .ok (.iconst 0, 1) := by decide +kernel
theorem d_Law_law_2410 : decode (mb M_Law_law) 2410 = .ok (.ireturn, 1) := by decide +kernel
theorem d_Law_law_2411 : decode (mb M_Law_law) 2411 = .ok (.iload 5, 2) := by decide +kernel
theorem d_Law_law_2413 : decode (mb M_Law_law) 2413 = .ok (.ifCond .ne 15, 3) := by decide +kernel
theorem d_Law_law_2416 : decode (mb M_Law_law) 2416 = .ok (.aload_n 3, 1) := by decide +kernel
theorem d_Law_law_2417 : decode (mb M_Law_law) 2417 = .ok (.iconst 0, 1) := by decide +kernel
theorem d_Law_law_2418 : decode (mb M_Law_law) 2418 = .ok (.laload, 1) := by decide +kernel
theorem d_Law_law_2419 : decode (mb M_Law_law) 2419 = .ok (.iload 6, 2) := by decide +kernel
theorem d_Law_law_2421 : decode (mb M_Law_law) 2421 = .ok (.i2l, 1) := by decide +kernel
theorem d_Law_law_2422 : decode (mb M_Law_law) 2422 = .ok (.lcmp, 1) := by decide +kernel
theorem d_Law_law_2423 : decode (mb M_Law_law) 2423 = .ok (.ifCond .eq 5, 3) := by decide +kernel
theorem d_Law_law_2426 : decode (mb M_Law_law) 2426 = .ok (.iconst 0, 1) := by decide +kernel
theorem d_Law_law_2427 : decode (mb M_Law_law) 2427 = .ok (.ireturn, 1) := by decide +kernel
theorem d_Law_law_2428 : decode (mb M_Law_law) 2428 = .ok (.goto 183, 3) := by decide +kernel
theorem d_Law_law_2431 : decode (mb M_Law_law) 2431 = .ok (.aload_n 1, 1) := by decide +kernel
theorem d_Law_law_2432 : decode (mb M_Law_law) 2432 = .ok (.aload_n 0, 1) := by decide +kernel
theorem d_Law_law_2433 : decode (mb M_Law_law) 2433 = .ok (.iload 4, 2) := by decide +kernel
theorem d_Law_law_2435 : decode (mb M_Law_law) 2435 = .ok (.iconst 1, 1) := by decide +kernel
theorem d_Law_law_2436 : decode (mb M_Law_law) 2436 = .ok (.iadd, 1) := by decide +kernel
theorem d_Law_law_2437 : decode (mb M_Law_law) 2437 = .ok (.iaload, 1) := by decide +kernel
theorem d_Law_law_2438 : decode (mb M_Law_law) 2438 = .ok (.aload_n 0, 1) := by decide +kernel
theorem d_Law_law_2439 : decode (mb M_Law_law) 2439 = .ok (.iload 4, 2) := by decide +kernel
theorem d_Law_law_2441 : decode (mb M_Law_law) 2441 = .ok (.iconst 2, 1) := by decide +kernel
theorem d_Law_law_2442 : decode (mb M_Law_law) 2442 = .ok (.iadd, 1) := by decide +kernel
theorem d_Law_law_2443 : decode (mb M_Law_law) 2443 = .ok (.iaload, 1) := by decide +kernel
theorem d_Law_law_2444 : decode (mb M_Law_law) 2444 = .ok (.aload_n 3, 1) := by decide +kernel
theorem d_Law_law_2445 : decode (mb M_Law_law) 2445 = .ok (.invokestatic 252, 3) := by decide +kernel
theorem d_Law_law_2448 : decode (mb M_Law_law) 2448 = .ok (.istore 5, 2) := by decide +kernel
theorem d_Law_law_2450 : decode (mb M_Law_law) 2450 = .ok (.aload_n 2, 1) := by decide +kernel
theorem d_Law_law_2451 : decode (mb M_Law_law) 2451 = .ok (.aload_n 0, 1) := by decide +kernel
theorem d_Law_law_2452 : decode (mb M_Law_law) 2452 = .ok (.iload 4, 2) := by decide +kernel
theorem d_Law_law_2454 : decode (mb M_Law_law) 2454 = .ok (.iconst 1, 1) := by decide +kernel
theorem d_Law_law_2455 : decode (mb M_Law_law) 2455 = .ok (.iadd, 1) := by decide +kernel
theorem d_Law_law_2456 : decode (mb M_Law_law) 2456 = .ok (.iaload, 1) := by decide +kernel
theorem d_Law_law_2457 : decode (mb M_Law_law) 2457 = .ok (.aload_n 0, 1) := by decide +kernel
theorem d_Law_law_2458 : decode (mb M_Law_law) 2458 = .ok (.iload 4, 2) := by decide +kernel
theorem d_Law_law_2460 : decode (mb M_Law_law) 2460 = .ok (.iconst 2, 1) := by decide +kernel
theorem d_Law_law_2461 : decode (mb M_Law_law) 2461 = .ok (.iadd, 1) := by decide +kernel
theorem d_Law_law_2462 : decode (mb M_Law_law) 2462 = .ok (.iaload, 1) := by decide +kernel
theorem d_Law_law_2463 : decode (mb M_Law_law) 2463 = .ok (.invokevirtual 254, 3) := by decide +kernel
theorem d_Law_law_2466 : decode (mb M_Law_law) 2466 = .ok (.istore 6, 2) := by decide +kernel
theorem d_Law_law_2468 : decode (mb M_Law_law) 2468 = .ok (.aload_n 2, 1) := by decide +kernel
theorem d_Law_law_2469 : decode (mb M_Law_law) 2469 = .ok (.invokevirtual 138, 3) := by decide +kernel
theorem d_Law_law_2472 : decode (mb M_Law_law) 2472 = .ok (.iload 5, 2) := by decide +kernel
theorem d_Law_law_2474 : decode (mb M_Law_law) 2474 = .ok (.if_icmp .eq 5, 3) := by decide +kernel
theorem d_Law_law_2477 : decode (mb M_Law_law) 2477 = .ok (.iconst 0, 1) := by decide +kernel
theorem d_Law_law_2478 : decode (mb M_Law_law) 2478 = .ok (.ireturn, 1) := by decide +kernel
theorem d_Law_law_2479 : decode (mb M_Law_law) 2479 = .ok (.iload 5, 2) := by decide +kernel
theorem d_Law_law_2481 : decode (mb M_Law_law) 2481 = .ok (.ifCond .ne 15, 3) := by decide +kernel
theorem d_Law_law_2484 : decode (mb M_Law_law) 2484 = .ok (.aload_n 3, 1) := by decide +kernel
theorem d_Law_law_2485 : decode (mb M_Law_law) 2485 = .ok (.iconst 0, 1) := by decide +kernel
theorem d_Law_law_2486 : decode (mb M_Law_law) 2486 = .ok (.laload, 1) := by decide +kernel
theorem d_Law_law_2487 : decode (mb M_Law_law) 2487 = .ok (.iload 6, 2) := by decide +kernel
theorem d_Law_law_2489 : decode (mb M_Law_law) 2489 = .ok (.i2l, 1) := by decide +kernel
theorem d_Law_law_2490 : decode (mb M_Law_law) 2490 = .ok (.lcmp, 1) := by decide +kernel
theorem d_Law_law_2491 : decode (mb M_Law_law) 2491 = .ok (.ifCond .eq 5, 3) := by decide +kernel
theorem d_Law_law_2494 : decode (mb M_Law_law) 2494 = .ok (.iconst 0, 1) := by decide +kernel
theorem d_Law_law_2495 : decode (mb M_Law_law) 2495 = .ok (.ireturn, 1) := by decide +kernel
theorem d_Law_law_2496 : decode (mb M_Law_law) 2496 = .ok (.goto 115, 3) := by decide +kernel
theorem d_Law_law_2499 : decode (mb M_Law_law) 2499 = .ok (.aload_n 1, 1) := by decide +kernel
theorem d_Law_law_2500 : decode (mb M_Law_law) 2500 = .ok (.aload_n 0, 1) := by decide +kernel
theorem d_Law_law_2501 : decode (mb M_Law_law) 2501 = .ok (.iload 4, 2) := by decide +kernel
theorem d_Law_law_2503 : decode (mb M_Law_law) 2503 = .ok (.iconst 1, 1) := by decide +kernel
theorem d_Law_law_2504 : decode (mb M_Law_law) 2504 = .ok (.iadd, 1) := by decide +kernel
theorem d_Law_law_2505 : decode (mb M_Law_law) 2505 = .ok (.iaload, 1) := by decide +kernel
theorem d_Law_law_2506 : decode (mb M_Law_law) 2506 = .ok (.aload_n 3, 1) := by decide +kernel
theorem d_Law_law_2507 : decode (mb M_Law_law) 2507 = .ok (.invokestatic 255, 3) := by decide +kernel
theorem d_Law_law_2510 : decode (mb M_Law_law) 2510 = .ok (.istore 5, 2) := by decide +kernel
theorem d_Law_law_2512 : decode (mb M_Law_law) 2512 = .ok (.aload_n 2, 1) := by decide +kernel
theorem d_Law_law_2513 : decode (mb M_Law_law) 2513 = .ok (.aload_n 0, 1) := by decide +kernel
theorem d_Law_law_2514 : decode (mb M_Law_law) 2514 = .ok (.iload 4, 2) := by decide +kernel
theorem d_Law_law_2516 : decode (mb M_Law_law) 2516 = .ok (.iconst 1, 1) := by decide +kernel
theorem d_Law_law_2517 : decode (mb M_Law_law) 2517 = .ok (.iadd, 1) := by decide +kernel
theorem d_Law_law_2518 : decode (mb M_Law_law) 2518 = .ok (.iaload, 1) := by decide +kernel
theorem d_Law_law_2519 : decode (mb M_Law_law) 2519 = .ok (.invokevirtual 257, 3) := by decide +kernel
theorem d_Law_law_2522 : decode (mb M_Law_law) 2522 = .ok (.istore 6, 2) := by decide +kernel
theorem d_Law_law_2524 : decode (mb M_Law_law) 2524 = .ok (.aload_n 2, 1) := by decide +kernel
theorem d_Law_law_2525 : decode (mb M_Law_law) 2525 = .ok (.invokevirtual 138, 3) := by decide +kernel
theorem d_Law_law_2528 : decode (mb M_Law_law) 2528 = .ok (.iload 5, 2) := by decide +kernel
theorem d_Law_law_2530 : decode (mb M_Law_law) 2530 = .ok (.if_icmp .eq 5, 3) := by decide +kernel
theorem d_Law_law_2533 : decode (mb M_Law_law) 2533 = .ok (.iconst 0, 1) := by decide +kernel
theorem d_Law_law_2534 : decode (mb M_Law_law) 2534 = .ok (.ireturn, 1) := by decide +kernel
theorem d_Law_law_2535 : decode (mb M_Law_law) 2535 = .ok (.iload 5, 2) := by decide +kernel
theorem d_Law_law_2537 : decode (mb M_Law_law) 2537 = .ok (.ifCond .ne 15, 3) := by decide +kernel
theorem d_Law_law_2540 : decode (mb M_Law_law) 2540 = .ok (.aload_n 3, 1) := by decide +kernel
theorem d_Law_law_2541 : decode (mb M_Law_law) 2541 = .ok (.iconst 0, 1) := by decide +kernel
theorem d_Law_law_2542 : decode (mb M_Law_law) 2542 = .ok (.laload, 1) := by decide +kernel
theorem d_Law_law_2543 : decode (mb M_Law_law) 2543 = .ok (.iload 6, 2) := by decide +kernel
theorem d_Law_law_2545 : decode (mb M_Law_law) 2545 = .ok (.i2l, 1) := by decide +kernel
theorem d_Law_law_2546 : decode (mb M_Law_law) 2546 = .ok (.lcmp, 1) := by decide +kernel
theorem d_Law_law_2547 : decode (mb M_Law_law) 2547 = .ok (.ifCond .eq 5, 3) := by decide +kernel
theorem d_Law_law_2550 : decode (mb M_Law_law) 2550 = .ok (.iconst 0, 1) := by decide +kernel
theorem d_Law_law_2551 : decode (mb M_Law_law) 2551 = .ok (.ireturn, 1) := by decide +kernel
theorem d_Law_law_2552 : decode (mb M_Law_law) 2552 = .ok (.goto 59, 3) := by decide +kernel
theorem d_Law_law_2555 : decode (mb M_Law_law) 2555 = .ok (.aload_n 1, 1) := by decide +kernel
theorem d_Law_law_2556 : decode (mb M_Law_law) 2556 = .ok (.aload_n 0, 1) := by decide +kernel
theorem d_Law_law_2557 : decode (mb M_Law_law) 2557 = .ok (.iload 4, 2) := by decide +kernel
theorem d_Law_law_2559 : decode (mb M_Law_law) 2559 = .ok (.iconst 1, 1) := by decide +kernel
theorem d_Law_law_2560 : decode (mb M_Law_law) 2560 = .ok (.iadd, 1) := by decide +kernel
theorem d_Law_law_2561 : decode (mb M_Law_law) 2561 = .ok (.iaload, 1) := by decide +kernel
theorem d_Law_law_2562 : decode (mb M_Law_law) 2562 = .ok (.aload_n 3, 1) := by decide +kernel
theorem d_Law_law_2563 : decode (mb M_Law_law) 2563 = .ok (.invokestatic 258, 3) := by decide +kernel
theorem d_Law_law_2566 : decode (mb M_Law_law) 2566 = .ok (.istore 5, 2) := by decide +kernel
theorem d_Law_law_2568 : decode (mb M_Law_law) 2568 = .ok (.aload_n 2, 1) := by decide +kernel
theorem d_Law_law_2569 : decode (mb M_Law_law) 2569 = .ok (.aload_n 0, 1) := by decide +kernel
theorem d_Law_law_2570 : decode (mb M_Law_law) 2570 = .ok (.iload 4, 2) := by decide +kernel
theorem d_Law_law_2572 : decode (mb M_Law_law) 2572 = .ok (.iconst 1, 1) := by decide +kernel
theorem d_Law_law_2573 : decode (mb M_Law_law) 2573 = .ok (.iadd, 1) := by decide +kernel
theorem d_Law_law_2574 : decode (mb M_Law_law) 2574 = .ok (.iaload, 1) := by decide +kernel
theorem d_Law_law_2575 : decode (mb M_Law_law) 2575 = .ok (.invokevirtual 260, 3) := by decide +kernel
theorem d_Law_law_2578 : decode (mb M_Law_law) 2578 = .ok (.istore 6, 2) := by decide +kernel
theorem d_Law_law_2580 : decode (mb M_Law_law) 2580 = .ok (.aload_n 2, 1) := by decide +kernel
theorem d_Law_law_2581 : decode (mb M_Law_law) 2581 = .ok (.invokevirtual 138, 3) := by decide +kernel
theorem d_Law_law_2584 : decode (mb M_Law_law) 2584 = .ok (.iload 5, 2) := by decide +kernel
theorem d_Law_law_2586 : decode (mb M_Law_law) 2586 = .ok (.if_icmp .eq 5, 3) := by decide +kernel
theorem d_Law_law_2589 : decode (mb M_Law_law) 2589 = .ok (.iconst 0, 1) := by decide +kernel
theorem d_Law_law_2590 : decode (mb M_Law_law) 2590 = .ok (.ireturn, 1) := by decide +kernel
theorem d_Law_law_2591 : decode (mb M_Law_law) 2591 = .ok (.iload 5, 2) := by decide +kernel
theorem d_Law_law_2593 : decode (mb M_Law_law) 2593 = .ok (.ifCond .ne 15, 3) := by decide +kernel
theorem d_Law_law_2596 : decode (mb M_Law_law) 2596 = .ok (.aload_n 3, 1) := by decide +kernel
theorem d_Law_law_2597 : decode (mb M_Law_law) 2597 = .ok (.iconst 0, 1) := by decide +kernel
theorem d_Law_law_2598 : decode (mb M_Law_law) 2598 = .ok (.laload, 1) := by decide +kernel
theorem d_Law_law_2599 : decode (mb M_Law_law) 2599 = .ok (.iload 6, 2) := by decide +kernel
theorem d_Law_law_2601 : decode (mb M_Law_law) 2601 = .ok (.i2l, 1) := by decide +kernel
theorem d_Law_law_2602 : decode (mb M_Law_law) 2602 = .ok (.lcmp, 1) := by decide +kernel
theorem d_Law_law_2603 : decode (mb M_Law_law) 2603 = .ok (.ifCond .eq 5, 3) := by decide +kernel
theorem d_Law_law_2606 : decode (mb M_Law_law) 2606 = .ok (.iconst 0, 1) := by decide +kernel
theorem d_Law_law_2607 : decode (mb M_Law_law) 2607 = .ok (.ireturn, 1) := by decide +kernel
theorem d_Law_law_2608 : decode (mb M_Law_law) 2608 = .ok (.goto 3, 3) := by decide +kernel
theorem d_Law_law_2611 : decode (mb M_Law_law) 2611 = .ok (.iinc 4 5, 3) := by decide +kernel
theorem d_Law_law_2614 : decode (mb M_Law_law) 2614 = .ok (.goto (-2591), 3) := by decide +kernel
theorem d_Law_law_2617 : decode (mb M_Law_law) 2617 = .ok (.iconst 1, 1) := by decide +kernel
theorem d_Law_law_2618 : decode (mb M_Law_law) 2618 = .ok (.ireturn, 1) := by decide +kernel
