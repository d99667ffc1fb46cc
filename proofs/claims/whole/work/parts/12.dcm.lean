/-! what each instruction of the reference is (by program) -/
theorem d_Mdl_areAlike_0 : decode (mb M_Mdl_areAlike) 0 = .ok (.iload_n 3, 1) := by decide +kernel
theorem d_Mdl_areAlike_1 : decode (mb M_Mdl_areAlike) 1 = .ok (.iload_n 2, 1) := by decide +kernel
theorem d_Mdl_areAlike_2 : decode (mb M_Mdl_areAlike) 2 = .ok (.isub, 1) := by decide +kernel
theorem d_Mdl_areAlike_3 : decode (mb M_Mdl_areAlike) 3 = .ok (.iload 6, 2) := by decide +kernel
theorem d_Mdl_areAlike_5 : decode (mb M_Mdl_areAlike) 5 = .ok (.iload 5, 2) := by decide +kernel
theorem d_Mdl_areAlike_7 : decode (mb M_Mdl_areAlike) 7 = .ok (.isub, 1) := by decide +kernel
theorem d_Mdl_areAlike_8 : decode (mb M_Mdl_areAlike) 8 = .ok (.if_icmp .ne 7, 3) := by decide +kernel
theorem d_Mdl_areAlike_11 : decode (mb M_Mdl_areAlike) 11 = .ok (.iconst 1, 1) := by decide +kernel
theorem d_Mdl_areAlike_12 : decode (mb M_Mdl_areAlike) 12 = .ok (.goto 4, 3) := by decide +kernel
theorem d_Mdl_areAlike_15 : decode (mb M_Mdl_areAlike) 15 = .ok (.iconst 0, 1) := by decide +kernel
theorem d_Mdl_areAlike_16 : decode (mb M_Mdl_areAlike) 16 = .ok (.istore 7, 2) := by decide +kernel
theorem d_Mdl_areAlike_18 : decode (mb M_Mdl_areAlike) 18 = .ok (.iconst 0, 1) := by decide +kernel
theorem d_Mdl_areAlike_19 : decode (mb M_Mdl_areAlike) 19 = .ok (.istore 8, 2) := by decide +kernel
theorem d_Mdl_areAlike_21 : decode (mb M_Mdl_areAlike) 21 = .ok (.iload 8, 2) := by decide +kernel
theorem d_Mdl_areAlike_23 : decode (mb M_Mdl_areAlike) 23 = .ok (.iload_n 3, 1) := by decide +kernel
theorem d_Mdl_areAlike_24 : decode (mb M_Mdl_areAlike) 24 = .ok (.iload_n 2, 1) := by decide +kernel
theorem d_Mdl_areAlike_25 : decode (mb M_Mdl_areAlike) 25 = .ok (.isub, 1) := by decide +kernel
theorem d_Mdl_areAlike_26 : decode (mb M_Mdl_areAlike) 26 = .ok (.if_icmp .ge 65, 3) := by decide +kernel
theorem d_Mdl_areAlike_29 : decode (mb M_Mdl_areAlike) 29 = .ok (.iload 7, 2) := by decide +kernel
theorem d_Mdl_areAlike_31 : decode (mb M_Mdl_areAlike) 31 = .ok (.ifCond .eq 60, 3) := by decide +kernel
theorem d_Mdl_areAlike_34 : decode (mb M_Mdl_areAlike) 34 = .ok (.aload_n 0, 1) := by decide +kernel
theorem d_Mdl_areAlike_35 : decode (mb M_Mdl_areAlike) 35 = .ok (.getfield 7, 3) := by decide +kernel
theorem d_Mdl_areAlike_38 : decode (mb M_Mdl_areAlike) 38 = .ok (.aload_n 0, 1) := by decide +kernel
theorem d_Mdl_areAlike_39 : decode (mb M_Mdl_areAlike) 39 = .ok (.getfield 23, 3) := by decide +kernel
theorem d_Mdl_areAlike_42 : decode (mb M_Mdl_areAlike) 42 = .ok (.bipush 20, 2) := by decide +kernel
theorem d_Mdl_areAlike_44 : decode (mb M_Mdl_areAlike) 44 = .ok (.iload_n 1, 1) := by decide +kernel
theorem d_Mdl_areAlike_45 : decode (mb M_Mdl_areAlike) 45 = .ok (.imul, 1) := by decide +kernel
theorem d_Mdl_areAlike_46 : decode (mb M_Mdl_areAlike) 46 = .ok (.iload_n 2, 1) := by decide +kernel
theorem d_Mdl_areAlike_47 : decode (mb M_Mdl_areAlike) 47 = .ok (.iadd, 1) := by decide +kernel
theorem d_Mdl_areAlike_48 : decode (mb M_Mdl_areAlike) 48 = .ok (.iload 8, 2) := by decide +kernel
theorem d_Mdl_areAlike_50 : decode (mb M_Mdl_areAlike) 50 = .ok (.iadd, 1) := by decide +kernel
theorem d_Mdl_areAlike_51 : decode (mb M_Mdl_areAlike) 51 = .ok (.iaload, 1) := by decide +kernel
theorem d_Mdl_areAlike_52 : decode (mb M_Mdl_areAlike) 52 = .ok (.laload, 1) := by decide +kernel
theorem d_Mdl_areAlike_53 : decode (mb M_Mdl_areAlike) 53 = .ok (.aload_n 0, 1) := by decide +kernel
theorem d_Mdl_areAlike_54 : decode (mb M_Mdl_areAlike) 54 = .ok (.getfield 7, 3) := by decide +kernel
theorem d_Mdl_areAlike_57 : decode (mb M_Mdl_areAlike) 57 = .ok (.aload_n 0, 1) := by decide +kernel
theorem d_Mdl_areAlike_58 : decode (mb M_Mdl_areAlike) 58 = .ok (.getfield 23, 3) := by decide +kernel
theorem d_Mdl_areAlike_61 : decode (mb M_Mdl_areAlike) 61 = .ok (.bipush 20, 2) := by decide +kernel
theorem d_Mdl_areAlike_63 : decode (mb M_Mdl_areAlike) 63 = .ok (.iload 4, 2) := by decide +kernel
theorem d_Mdl_areAlike_65 : decode (mb M_Mdl_areAlike) 65 = .ok (.imul, 1) := by decide +kernel
theorem d_Mdl_areAlike_66 : decode (mb M_Mdl_areAlike) 66 = .ok (.iload 5, 2) := by decide +kernel
theorem d_Mdl_areAlike_68 : decode (mb M_Mdl_areAlike) 68 = .ok (.iadd, 1) := by decide +kernel
theorem d_Mdl_areAlike_69 : decode (mb M_Mdl_areAlike) 69 = .ok (.iload 8, 2) := by decide +kernel
theorem d_Mdl_areAlike_71 : decode (mb M_Mdl_areAlike) 71 = .ok (.iadd, 1) := by decide +kernel
theorem d_Mdl_areAlike_72 : decode (mb M_Mdl_areAlike) 72 = .ok (.iaload, 1) := by decide +kernel
theorem d_Mdl_areAlike_73 : decode (mb M_Mdl_areAlike) 73 = .ok (.laload, 1) := by decide +kernel
theorem d_Mdl_areAlike_74 : decode (mb M_Mdl_areAlike) 74 = .ok (.lcmp, 1) := by decide +kernel
theorem d_Mdl_areAlike_75 : decode (mb M_Mdl_areAlike) 75 = .ok (.ifCond .ne 7, 3) := by decide +kernel
theorem d_Mdl_areAlike_78 : decode (mb M_Mdl_areAlike) 78 = .ok (.iconst 1, 1) := by decide +kernel
theorem d_Mdl_areAlike_79 : decode (mb M_Mdl_areAlike) 79 = .ok (.goto 4, 3) := by decide +kernel
theorem d_Mdl_areAlike_82 : decode (mb M_Mdl_areAlike) 82 = .ok (.iconst 0, 1) := by decide +kernel
theorem d_Mdl_areAlike_83 : decode (mb M_Mdl_areAlike) 83 = .ok (.istore 7, 2) := by decide +kernel
theorem d_Mdl_areAlike_85 : decode (mb M_Mdl_areAlike) 85 = .ok (.iinc 8 1, 3) := by decide +kernel
theorem d_Mdl_areAlike_88 : decode (mb M_Mdl_areAlike) 88 = .ok (.goto (-67), 3) := by decide +kernel
theorem d_Mdl_areAlike_91 : decode (mb M_Mdl_areAlike) 91 = .ok (.iload 7, 2) := by decide +kernel
theorem d_Mdl_areAlike_93 : decode (mb M_Mdl_areAlike) 93 = .ok (.ireturn, 1) := by decide +kernel
theorem d_Mdl_areSame_0 : decode (mb M_Mdl_areSame) 0 = .ok (.iload_n 3, 1) := by decide +kernel
theorem d_Mdl_areSame_1 : decode (mb M_Mdl_areSame) 1 = .ok (.ifCond .eq 33, 3) := by decide +kernel
theorem d_Mdl_areSame_4 : decode (mb M_Mdl_areSame) 4 = .ok (.aload_n 0, 1) := by decide +kernel
theorem d_Mdl_areSame_5 : decode (mb M_Mdl_areSame) 5 = .ok (.getfield 7, 3) := by decide +kernel
theorem d_Mdl_areSame_8 : decode (mb M_Mdl_areSame) 8 = .ok (.iload_n 1, 1) := by decide +kernel
theorem d_Mdl_areSame_9 : decode (mb M_Mdl_areSame) 9 = .ok (.laload, 1) := by decide +kernel
theorem d_Mdl_areSame_10 : decode (mb M_Mdl_areSame) 10 = .ok (.invokestatic 241, 3) := by decide +kernel
theorem d_Mdl_areSame_13 : decode (mb M_Mdl_areSame) 13 = .ok (.aload_n 0, 1) := by decide +kernel
theorem d_Mdl_areSame_14 : decode (mb M_Mdl_areSame) 14 = .ok (.getfield 7, 3) := by decide +kernel
theorem d_Mdl_areSame_17 : decode (mb M_Mdl_areSame) 17 = .ok (.iload_n 2, 1) := by decide +kernel
theorem d_Mdl_areSame_18 : decode (mb M_Mdl_areSame) 18 = .ok (.laload, 1) := by decide +kernel
theorem d_Mdl_areSame_19 : decode (mb M_Mdl_areSame) 19 = .ok (.invokestatic 241, 3) := by decide +kernel
theorem d_Mdl_areSame_22 : decode (mb M_Mdl_areSame) 22 = .ok (.lcmp, 1) := by decide +kernel
theorem d_Mdl_areSame_23 : decode (mb M_Mdl_areSame) 23 = .ok (.ifCond .ne 7, 3) := by decide +kernel
theorem d_Mdl_areSame_26 : decode (mb M_Mdl_areSame) 26 = .ok (.iconst 1, 1) := by decide +kernel
theorem d_Mdl_areSame_27 : decode (mb M_Mdl_areSame) 27 = .ok (.goto 28, 3) := by decide +kernel
theorem d_Mdl_areSame_30 : decode (mb M_Mdl_areSame) 30 = .ok (.iconst 0, 1) := by decide +kernel
theorem d_Mdl_areSame_31 : decode (mb M_Mdl_areSame) 31 = .ok (.goto 24, 3) := by decide +kernel
theorem d_Mdl_areSame_34 : decode (mb M_Mdl_areSame) 34 = .ok (.aload_n 0, 1) := by decide +kernel
theorem d_Mdl_areSame_35 : decode (mb M_Mdl_areSame) 35 = .ok (.getfield 7, 3) := by decide +kernel
theorem d_Mdl_areSame_38 : decode (mb M_Mdl_areSame) 38 = .ok (.iload_n 1, 1) := by decide +kernel
theorem d_Mdl_areSame_39 : decode (mb M_Mdl_areSame) 39 = .ok (.laload, 1) := by decide +kernel
theorem d_Mdl_areSame_40 : decode (mb M_Mdl_areSame) 40 = .ok (.aload_n 0, 1) := by decide +kernel
theorem d_Mdl_areSame_41 : decode (mb M_Mdl_areSame) 41 = .ok (.getfield 7, 3) := by decide +kernel
theorem d_Mdl_areSame_44 : decode (mb M_Mdl_areSame) 44 = .ok (.iload_n 2, 1) := by decide +kernel
theorem d_Mdl_areSame_45 : decode (mb M_Mdl_areSame) 45 = .ok (.laload, 1) := by decide +kernel
theorem d_Mdl_areSame_46 : decode (mb M_Mdl_areSame) 46 = .ok (.lcmp, 1) := by decide +kernel
theorem d_Mdl_areSame_47 : decode (mb M_Mdl_areSame) 47 = .ok (.ifCond .ne 7, 3) := by decide +kernel
theorem d_Mdl_areSame_50 : decode (mb M_Mdl_areSame) 50 = .ok (.iconst 1, 1) := by decide +kernel
theorem d_Mdl_areSame_51 : decode (mb M_Mdl_areSame) 51 = .ok (.goto 4, 3) := by decide +kernel
theorem d_Mdl_areSame_54 : decode (mb M_Mdl_areSame) 54 = .ok (.iconst 0, 1) := by decide +kernel
theorem d_Mdl_areSame_55 : decode (mb M_Mdl_areSame) 55 = .ok (.ireturn, 1) := by decide +kernel
theorem d_Mdl_bare_0 : decode (mb M_Mdl_bare) 0 = .ok (.lconst 0, 1) := by decide +kernel
theorem d_Mdl_bare_1 : decode (mb M_Mdl_bare) 1 = .ok (.lstore_n 2, 1) := by decide +kernel
theorem d_Mdl_bare_2 : decode (mb M_Mdl_bare) 2 = .ok (.iconst 0, 1) := by decide +kernel
theorem d_Mdl_bare_3 : decode (mb M_Mdl_bare) 3 = .ok (.istore 4, 2) := by decide +kernel
theorem d_Mdl_bare_5 : decode (mb M_Mdl_bare) 5 = .ok (.iconst 0, 1) := by decide +kernel
theorem d_Mdl_bare_6 : decode (mb M_Mdl_bare) 6 = .ok (.istore 5, 2) := by decide +kernel
theorem d_Mdl_bare_8 : decode (mb M_Mdl_bare) 8 = .ok (.iload 5, 2) := by decide +kernel
theorem d_Mdl_bare_10 : decode (mb M_Mdl_bare) 10 = .ok (.bipush 8, 2) := by decide +kernel
theorem d_Mdl_bare_12 : decode (mb M_Mdl_bare) 12 = .ok (.if_icmp .ge 44, 3) := by decide +kernel
theorem d_Mdl_bare_15 : decode (mb M_Mdl_bare) 15 = .ok (.lload_n 0, 1) := by decide +kernel
theorem d_Mdl_bare_16 : decode (mb M_Mdl_bare) 16 = .ok (.iload 5, 2) := by decide +kernel
theorem d_Mdl_bare_18 : decode (mb M_Mdl_bare) 18 = .ok (.invokestatic 136, 3) := by decide +kernel
theorem d_Mdl_bare_21 : decode (mb M_Mdl_bare) 21 = .ok (.bipush 97, 2) := by decide +kernel
theorem d_Mdl_bare_23 : decode (mb M_Mdl_bare) 23 = .ok (.bipush 122, 2) := by decide +kernel
theorem d_Mdl_bare_25 : decode (mb M_Mdl_bare) 25 = .ok (.invokestatic 130, 3) := by decide +kernel
theorem d_Mdl_bare_28 : decode (mb M_Mdl_bare) 28 = .ok (.ifCond .eq 22, 3) := by decide +kernel
theorem d_Mdl_bare_31 : decode (mb M_Mdl_bare) 31 = .ok (.lload_n 2, 1) := by decide +kernel
theorem d_Mdl_bare_32 : decode (mb M_Mdl_bare) 32 = .ok (.lload_n 0, 1) := by decide +kernel
theorem d_Mdl_bare_33 : decode (mb M_Mdl_bare) 33 = .ok (.iload 5, 2) := by decide +kernel
theorem d_Mdl_bare_35 : decode (mb M_Mdl_bare) 35 = .ok (.invokestatic 136, 3) := by decide +kernel
theorem d_Mdl_bare_38 : decode (mb M_Mdl_bare) 38 = .ok (.i2l, 1) := by decide +kernel
theorem d_Mdl_bare_39 : decode (mb M_Mdl_bare) 39 = .ok (.bipush 8, 2) := by decide +kernel
theorem d_Mdl_bare_41 : decode (mb M_Mdl_bare) 41 = .ok (.iload 4, 2) := by decide +kernel
theorem d_Mdl_bare_43 : decode (mb M_Mdl_bare) 43 = .ok (.imul, 1) := by decide +kernel
theorem d_Mdl_bare_44 : decode (mb M_Mdl_bare) 44 = .ok (.lshl, 1) := by decide +kernel
theorem d_Mdl_bare_45 : decode (mb M_Mdl_bare) 45 = .ok (.lor, 1) := by decide +kernel
theorem d_Mdl_bare_46 : decode (mb M_Mdl_bare) 46 = .ok (.lstore_n 2, 1) := by decide +kernel
theorem d_Mdl_bare_47 : decode (mb M_Mdl_bare) 47 = .ok (.iinc 4 1, 3) := by decide +kernel
theorem d_Mdl_bare_50 : decode (mb M_Mdl_bare) 50 = .ok (.iinc 5 1, 3) := by decide +kernel
theorem d_Mdl_bare_53 : decode (mb M_Mdl_bare) 53 = .ok (.goto (-45), 3) := by decide +kernel
theorem d_Mdl_bare_56 : decode (mb M_Mdl_bare) 56 = .ok (.lload_n 2, 1) := by decide +kernel
theorem d_Mdl_bare_57 : decode (mb M_Mdl_bare) 57 = .ok (.lreturn, 1) := by decide +kernel
theorem d_Mdl_base_0 : decode (mb M_Mdl_base) 0 = .ok (.aload_n 0, 1) := by decide +kernel
theorem d_Mdl_base_1 : decode (mb M_Mdl_base) 1 = .ok (.aload_n 0, 1) := by decide +kernel
theorem d_Mdl_base_2 : decode (mb M_Mdl_base) 2 = .ok (.iload_n 1, 1) := by decide +kernel
theorem d_Mdl_base_3 : decode (mb M_Mdl_base) 3 = .ok (.invokevirtual 172, 3) := by decide +kernel
theorem d_Mdl_base_6 : decode (mb M_Mdl_base) 6 = .ok (.ifCond .eq 15, 3) := by decide +kernel
theorem d_Mdl_base_9 : decode (mb M_Mdl_base) 9 = .ok (.aload_n 0, 1) := by decide +kernel
theorem d_Mdl_base_10 : decode (mb M_Mdl_base) 10 = .ok (.iload_n 2, 1) := by decide +kernel
theorem d_Mdl_base_11 : decode (mb M_Mdl_base) 11 = .ok (.invokevirtual 172, 3) := by decide +kernel
theorem d_Mdl_base_14 : decode (mb M_Mdl_base) 14 = .ok (.ifCond .eq 7, 3) := by decide +kernel
theorem d_Mdl_base_17 : decode (mb M_Mdl_base) 17 = .ok (.iconst 0, 1) := by decide +kernel
theorem d_Mdl_base_18 : decode (mb M_Mdl_base) 18 = .ok (.goto 4, 3) := by decide +kernel
theorem d_Mdl_base_21 : decode (mb M_Mdl_base) 21 = .ok (.iconst 1, 1) := by decide +kernel
theorem d_Mdl_base_22 : decode (mb M_Mdl_base) 22 = .ok (.invokevirtual 151, 3) := by decide +kernel
theorem d_Mdl_base_25 : decode (mb M_Mdl_base) 25 = .ok (.ifCond .eq 7, 3) := by decide +kernel
theorem d_Mdl_base_28 : decode (mb M_Mdl_base) 28 = .ok (.iconst 0, 1) := by decide +kernel
theorem d_Mdl_base_29 : decode (mb M_Mdl_base) 29 = .ok (.goto 9, 3) := by decide +kernel
theorem d_Mdl_base_32 : decode (mb M_Mdl_base) 32 = .ok (.aload_n 0, 1) := by decide +kernel
theorem d_Mdl_base_33 : decode (mb M_Mdl_base) 33 = .ok (.iload_n 1, 1) := by decide +kernel
theorem d_Mdl_base_34 : decode (mb M_Mdl_base) 34 = .ok (.iload_n 2, 1) := by decide +kernel
theorem d_Mdl_base_35 : decode (mb M_Mdl_base) 35 = .ok (.invokevirtual 291, 3) := by decide +kernel
theorem d_Mdl_base_38 : decode (mb M_Mdl_base) 38 = .ok (.ireturn, 1) := by decide +kernel
theorem d_Mdl_baseOf_0 : decode (mb M_Mdl_baseOf) 0 = .ok (.aload_n 0, 1) := by decide +kernel
theorem d_Mdl_baseOf_1 : decode (mb M_Mdl_baseOf) 1 = .ok (.iload_n 1, 1) := by decide +kernel
theorem d_Mdl_baseOf_2 : decode (mb M_Mdl_baseOf) 2 = .ok (.invokevirtual 234, 3) := by decide +kernel
theorem d_Mdl_baseOf_5 : decode (mb M_Mdl_baseOf) 5 = .ok (.aload_n 0, 1) := by decide +kernel
theorem d_Mdl_baseOf_6 : decode (mb M_Mdl_baseOf) 6 = .ok (.iload_n 2, 1) := by decide +kernel
theorem d_Mdl_baseOf_7 : decode (mb M_Mdl_baseOf) 7 = .ok (.invokevirtual 234, 3) := by decide +kernel
theorem d_Mdl_baseOf_10 : decode (mb M_Mdl_baseOf) 10 = .ok (.land, 1) := by decide +kernel
theorem d_Mdl_baseOf_11 : decode (mb M_Mdl_baseOf) 11 = .ok (.lstore_n 3, 1) := by decide +kernel
theorem d_Mdl_baseOf_12 : decode (mb M_Mdl_baseOf) 12 = .ok (.iconst 0, 1) := by decide +kernel
theorem d_Mdl_baseOf_13 : decode (mb M_Mdl_baseOf) 13 = .ok (.istore 5, 2) := by decide +kernel
theorem d_Mdl_baseOf_15 : decode (mb M_Mdl_baseOf) 15 = .ok (.iconst 0, 1) := by decide +kernel
theorem d_Mdl_baseOf_16 : decode (mb M_Mdl_baseOf) 16 = .ok (.istore 6, 2) := by decide +kernel
theorem d_Mdl_baseOf_18 : decode (mb M_Mdl_baseOf) 18 = .ok (.iload 6, 2) := by decide +kernel
theorem d_Mdl_baseOf_20 : decode (mb M_Mdl_baseOf) 20 = .ok (.aload_n 0, 1) := by decide +kernel
theorem d_Mdl_baseOf_21 : decode (mb M_Mdl_baseOf) 21 = .ok (.getfield 123, 3) := by decide +kernel
theorem d_Mdl_baseOf_24 : decode (mb M_Mdl_baseOf) 24 = .ok (.if_icmp .ge 29, 3) := by decide +kernel
theorem d_Mdl_baseOf_27 : decode (mb M_Mdl_baseOf) 27 = .ok (.lload_n 3, 1) := by decide +kernel
theorem d_Mdl_baseOf_28 : decode (mb M_Mdl_baseOf) 28 = .ok (.iload 6, 2) := by decide +kernel
theorem d_Mdl_baseOf_30 : decode (mb M_Mdl_baseOf) 30 = .ok (.lshr, 1) := by decide +kernel
theorem d_Mdl_baseOf_31 : decode (mb M_Mdl_baseOf) 31 = .ok (.lconst 1, 1) := by decide +kernel
theorem d_Mdl_baseOf_32 : decode (mb M_Mdl_baseOf) 32 = .ok (.land, 1) := by decide +kernel
theorem d_Mdl_baseOf_33 : decode (mb M_Mdl_baseOf) 33 = .ok (.lconst 1, 1) := by decide +kernel
theorem d_Mdl_baseOf_34 : decode (mb M_Mdl_baseOf) 34 = .ok (.lcmp, 1) := by decide +kernel
theorem d_Mdl_baseOf_35 : decode (mb M_Mdl_baseOf) 35 = .ok (.ifCond .ne 8, 3) := by decide +kernel
theorem d_Mdl_baseOf_38 : decode (mb M_Mdl_baseOf) 38 = .ok (.iload 6, 2) := by decide +kernel
theorem d_Mdl_baseOf_40 : decode (mb M_Mdl_baseOf) 40 = .ok (.goto 5, 3) := by decide +kernel
theorem d_Mdl_baseOf_43 : decode (mb M_Mdl_baseOf) 43 = .ok (.iload 5, 2) := by decide +kernel
theorem d_Mdl_baseOf_45 : decode (mb M_Mdl_baseOf) 45 = .ok (.istore 5, 2) := by decide +kernel
theorem d_Mdl_baseOf_47 : decode (mb M_Mdl_baseOf) 47 = .ok (.iinc 6 1, 3) := by decide +kernel
theorem d_Mdl_baseOf_50 : decode (mb M_Mdl_baseOf) 50 = .ok (.goto (-32), 3) := by decide +kernel
theorem d_Mdl_baseOf_53 : decode (mb M_Mdl_baseOf) 53 = .ok (.iload 5, 2) := by decide +kernel
theorem d_Mdl_baseOf_55 : decode (mb M_Mdl_baseOf) 55 = .ok (.ireturn, 1) := by decide +kernel
theorem d_Mdl_begin_0 : decode (mb M_Mdl_begin) 0 = .ok (.aload_n 0, 1) := by decide +kernel
theorem d_Mdl_begin_1 : decode (mb M_Mdl_begin) 1 = .ok (.aload_n 0, 1) := by decide +kernel
theorem d_Mdl_begin_2 : decode (mb M_Mdl_begin) 2 = .ok (.iload_n 1, 1) := by decide +kernel
theorem d_Mdl_begin_3 : decode (mb M_Mdl_begin) 3 = .ok (.invokevirtual 172, 3) := by decide +kernel
theorem d_Mdl_begin_6 : decode (mb M_Mdl_begin) 6 = .ok (.ifCond .eq 14, 3) := by decide +kernel
theorem d_Mdl_begin_9 : decode (mb M_Mdl_begin) 9 = .ok (.iload_n 2, 1) := by decide +kernel
theorem d_Mdl_begin_10 : decode (mb M_Mdl_begin) 10 = .ok (.invokestatic 175, 3) := by decide +kernel
theorem d_Mdl_begin_13 : decode (mb M_Mdl_begin) 13 = .ok (.ifCond .eq 7, 3) := by decide +kernel
theorem d_Mdl_begin_16 : decode (mb M_Mdl_begin) 16 = .ok (.iconst 0, 1) := by decide +kernel
theorem d_Mdl_begin_17 : decode (mb M_Mdl_begin) 17 = .ok (.goto 4, 3) := by decide +kernel
theorem d_Mdl_begin_20 : decode (mb M_Mdl_begin) 20 = .ok (.iconst 1, 1) := by decide +kernel
theorem d_Mdl_begin_21 : decode (mb M_Mdl_begin) 21 = .ok (.invokevirtual 151, 3) := by decide +kernel
theorem d_Mdl_begin_24 : decode (mb M_Mdl_begin) 24 = .ok (.ifCond .eq 5, 3) := by decide +kernel
theorem d_Mdl_begin_27 : decode (mb M_Mdl_begin) 27 = .ok (.iconst 0, 1) := by decide +kernel
theorem d_Mdl_begin_28 : decode (mb M_Mdl_begin) 28 = .ok (.ireturn, 1) := by decide +kernel
theorem d_Mdl_begin_29 : decode (mb M_Mdl_begin) 29 = .ok (.aload_n 0, 1) := by decide +kernel
theorem d_Mdl_begin_30 : decode (mb M_Mdl_begin) 30 = .ok (.iconst 1, 1) := by decide +kernel
theorem d_Mdl_begin_31 : decode (mb M_Mdl_begin) 31 = .ok (.putfield 178, 3) := by decide +kernel
theorem d_Mdl_begin_34 : decode (mb M_Mdl_begin) 34 = .ok (.aload_n 0, 1) := by decide +kernel
theorem d_Mdl_begin_35 : decode (mb M_Mdl_begin) 35 = .ok (.iload_n 1, 1) := by decide +kernel
theorem d_Mdl_begin_36 : decode (mb M_Mdl_begin) 36 = .ok (.putfield 165, 3) := by decide +kernel
theorem d_Mdl_begin_39 : decode (mb M_Mdl_begin) 39 = .ok (.aload_n 0, 1) := by decide +kernel
theorem d_Mdl_begin_40 : decode (mb M_Mdl_begin) 40 = .ok (.iconst (-1), 1) := by decide +kernel
theorem d_Mdl_begin_41 : decode (mb M_Mdl_begin) 41 = .ok (.putfield 182, 3) := by decide +kernel
theorem d_Mdl_begin_44 : decode (mb M_Mdl_begin) 44 = .ok (.aload_n 0, 1) := by decide +kernel
theorem d_Mdl_begin_45 : decode (mb M_Mdl_begin) 45 = .ok (.iload_n 2, 1) := by decide +kernel
theorem d_Mdl_begin_46 : decode (mb M_Mdl_begin) 46 = .ok (.putfield 162, 3) := by decide +kernel
theorem d_Mdl_begin_49 : decode (mb M_Mdl_begin) 49 = .ok (.aload_n 0, 1) := by decide +kernel
theorem d_Mdl_begin_50 : decode (mb M_Mdl_begin) 50 = .ok (.iconst 0, 1) := by decide +kernel
theorem d_Mdl_begin_51 : decode (mb M_Mdl_begin) 51 = .ok (.putfield 185, 3) := by decide +kernel
theorem d_Mdl_begin_54 : decode (mb M_Mdl_begin) 54 = .ok (.aload_n 0, 1) := by decide +kernel
theorem d_Mdl_begin_55 : decode (mb M_Mdl_begin) 55 = .ok (.iconst 0, 1) := by decide +kernel
theorem d_Mdl_begin_56 : decode (mb M_Mdl_begin) 56 = .ok (.putfield 188, 3) := by decide +kernel
theorem d_Mdl_begin_59 : decode (mb M_Mdl_begin) 59 = .ok (.aload_n 0, 1) := by decide +kernel
theorem d_Mdl_begin_60 : decode (mb M_Mdl_begin) 60 = .ok (.iconst 0, 1) := by decide +kernel
theorem d_Mdl_begin_61 : decode (mb M_Mdl_begin) 61 = .ok (.putfield 191, 3) := by decide +kernel
theorem d_Mdl_begin_64 : decode (mb M_Mdl_begin) 64 = .ok (.aload_n 0, 1) := by decide +kernel
theorem d_Mdl_begin_65 : decode (mb M_Mdl_begin) 65 = .ok (.aload_n 0, 1) := by decide +kernel
theorem d_Mdl_begin_66 : decode (mb M_Mdl_begin) 66 = .ok (.getfield 20, 3) := by decide +kernel
theorem d_Mdl_begin_69 : decode (mb M_Mdl_begin) 69 = .ok (.iload_n 1, 1) := by decide +kernel
theorem d_Mdl_begin_70 : decode (mb M_Mdl_begin) 70 = .ok (.iaload, 1) := by decide +kernel
theorem d_Mdl_begin_71 : decode (mb M_Mdl_begin) 71 = .ok (.putfield 194, 3) := by decide +kernel
theorem d_Mdl_begin_74 : decode (mb M_Mdl_begin) 74 = .ok (.iconst 0, 1) := by decide +kernel
theorem d_Mdl_begin_75 : decode (mb M_Mdl_begin) 75 = .ok (.istore_n 3, 1) := by decide +kernel
theorem d_Mdl_begin_76 : decode (mb M_Mdl_begin) 76 = .ok (.iload_n 3, 1) := by decide +kernel
theorem d_Mdl_begin_77 : decode (mb M_Mdl_begin) 77 = .ok (.aload_n 0, 1) := by decide +kernel
theorem d_Mdl_begin_78 : decode (mb M_Mdl_begin) 78 = .ok (.getfield 194, 3) := by decide +kernel
theorem d_Mdl_begin_81 : decode (mb M_Mdl_begin) 81 = .ok (.if_icmp .ge 26, 3) := by decide +kernel
theorem d_Mdl_begin_84 : decode (mb M_Mdl_begin) 84 = .ok (.aload_n 0, 1) := by decide +kernel
theorem d_Mdl_begin_85 : decode (mb M_Mdl_begin) 85 = .ok (.getfield 35, 3) := by decide +kernel
theorem d_Mdl_begin_88 : decode (mb M_Mdl_begin) 88 = .ok (.iload_n 3, 1) := by decide +kernel
theorem d_Mdl_begin_89 : decode (mb M_Mdl_begin) 89 = .ok (.aload_n 0, 1) := by decide +kernel
theorem d_Mdl_begin_90 : decode (mb M_Mdl_begin) 90 = .ok (.getfield 23, 3) := by decide +kernel
theorem d_Mdl_begin_93 : decode (mb M_Mdl_begin) 93 = .ok (.bipush 20, 2) := by decide +kernel
theorem d_Mdl_begin_95 : decode (mb M_Mdl_begin) 95 = .ok (.iload_n 1, 1) := by decide +kernel
theorem d_Mdl_begin_96 : decode (mb M_Mdl_begin) 96 = .ok (.imul, 1) := by decide +kernel
theorem d_Mdl_begin_97 : decode (mb M_Mdl_begin) 97 = .ok (.iload_n 3, 1) := by decide +kernel
theorem d_Mdl_begin_98 : decode (mb M_Mdl_begin) 98 = .ok (.iadd, 1) := by decide +kernel
theorem d_Mdl_begin_99 : decode (mb M_Mdl_begin) 99 = .ok (.iaload, 1) := by decide +kernel
theorem d_Mdl_begin_100 : decode (mb M_Mdl_begin) 100 = .ok (.iastore, 1) := by decide +kernel
theorem d_Mdl_begin_101 : decode (mb M_Mdl_begin) 101 = .ok (.iinc 3 1, 3) := by decide +kernel
theorem d_Mdl_begin_104 : decode (mb M_Mdl_begin) 104 = .ok (.goto (-28), 3) := by decide +kernel
theorem d_Mdl_begin_107 : decode (mb M_Mdl_begin) 107 = .ok (.aload_n 0, 1) := by decide +kernel
theorem d_Mdl_begin_108 : decode (mb M_Mdl_begin) 108 = .ok (.getfield 194, 3) := by decide +kernel
theorem d_Mdl_begin_111 : decode (mb M_Mdl_begin) 111 = .ok (.ireturn, 1) := by decide +kernel
theorem d_Mdl_blame_0 : decode (mb M_Mdl_blame) 0 = .ok (.aload_n 0, 1) := by decide +kernel
theorem d_Mdl_blame_1 : decode (mb M_Mdl_blame) 1 = .ok (.aload_n 0, 1) := by decide +kernel
theorem d_Mdl_blame_2 : decode (mb M_Mdl_blame) 2 = .ok (.iload_n 1, 1) := by decide +kernel
theorem d_Mdl_blame_3 : decode (mb M_Mdl_blame) 3 = .ok (.iload_n 2, 1) := by decide +kernel
theorem d_Mdl_blame_4 : decode (mb M_Mdl_blame) 4 = .ok (.invokevirtual 226, 3) := by decide +kernel
theorem d_Mdl_blame_7 : decode (mb M_Mdl_blame) 7 = .ok (.ifCond .eq 7, 3) := by decide +kernel
theorem d_Mdl_blame_10 : decode (mb M_Mdl_blame) 10 = .ok (.iconst 0, 1) := by decide +kernel
theorem d_Mdl_blame_11 : decode (mb M_Mdl_blame) 11 = .ok (.goto 4, 3) := by decide +kernel
theorem d_Mdl_blame_14 : decode (mb M_Mdl_blame) 14 = .ok (.iconst 1, 1) := by decide +kernel
theorem d_Mdl_blame_15 : decode (mb M_Mdl_blame) 15 = .ok (.invokevirtual 151, 3) := by decide +kernel
theorem d_Mdl_blame_18 : decode (mb M_Mdl_blame) 18 = .ok (.ifCond .eq 7, 3) := by decide +kernel
theorem d_Mdl_blame_21 : decode (mb M_Mdl_blame) 21 = .ok (.iconst 0, 1) := by decide +kernel
theorem d_Mdl_blame_22 : decode (mb M_Mdl_blame) 22 = .ok (.goto 19, 3) := by decide +kernel
theorem d_Mdl_blame_25 : decode (mb M_Mdl_blame) 25 = .ok (.aload_n 0, 1) := by decide +kernel
theorem d_Mdl_blame_26 : decode (mb M_Mdl_blame) 26 = .ok (.getfield 13, 3) := by decide +kernel
theorem d_Mdl_blame_29 : decode (mb M_Mdl_blame) 29 = .ok (.aload_n 0, 1) := by decide +kernel
theorem d_Mdl_blame_30 : decode (mb M_Mdl_blame) 30 = .ok (.getfield 23, 3) := by decide +kernel
theorem d_Mdl_blame_33 : decode (mb M_Mdl_blame) 33 = .ok (.bipush 20, 2) := by decide +kernel
theorem d_Mdl_blame_35 : decode (mb M_Mdl_blame) 35 = .ok (.iload_n 1, 1) := by decide +kernel
theorem d_Mdl_blame_36 : decode (mb M_Mdl_blame) 36 = .ok (.imul, 1) := by decide +kernel
theorem d_Mdl_blame_37 : decode (mb M_Mdl_blame) 37 = .ok (.iload_n 2, 1) := by decide +kernel
theorem d_Mdl_blame_38 : decode (mb M_Mdl_blame) 38 = .ok (.iadd, 1) := by decide +kernel
theorem d_Mdl_blame_39 : decode (mb M_Mdl_blame) 39 = .ok (.iaload, 1) := by decide +kernel
theorem d_Mdl_blame_40 : decode (mb M_Mdl_blame) 40 = .ok (.iaload, 1) := by decide +kernel
theorem d_Mdl_blame_41 : decode (mb M_Mdl_blame) 41 = .ok (.ireturn, 1) := by decide +kernel
theorem d_Mdl_change_0 : decode (mb M_Mdl_change) 0 = .ok (.aload_n 0, 1) := by decide +kernel
theorem d_Mdl_change_1 : decode (mb M_Mdl_change) 1 = .ok (.aload_n 0, 1) := by decide +kernel
theorem d_Mdl_change_2 : decode (mb M_Mdl_change) 2 = .ok (.iload_n 1, 1) := by decide +kernel
theorem d_Mdl_change_3 : decode (mb M_Mdl_change) 3 = .ok (.invokevirtual 215, 3) := by decide +kernel
theorem d_Mdl_change_6 : decode (mb M_Mdl_change) 6 = .ok (.ifCond .ne 7, 3) := by decide +kernel
theorem d_Mdl_change_9 : decode (mb M_Mdl_change) 9 = .ok (.iconst 1, 1) := by decide +kernel
theorem d_Mdl_change_10 : decode (mb M_Mdl_change) 10 = .ok (.goto 26, 3) := by decide +kernel
theorem d_Mdl_change_13 : decode (mb M_Mdl_change) 13 = .ok (.lload_n 2, 1) := by decide +kernel
theorem d_Mdl_change_14 : decode (mb M_Mdl_change) 14 = .ok (.invokestatic 147, 3) := by decide +kernel
theorem d_Mdl_change_17 : decode (mb M_Mdl_change) 17 = .ok (.ifCond .ne 7, 3) := by decide +kernel
theorem d_Mdl_change_20 : decode (mb M_Mdl_change) 20 = .ok (.iconst 2, 1) := by decide +kernel
theorem d_Mdl_change_21 : decode (mb M_Mdl_change) 21 = .ok (.goto 15, 3) := by decide +kernel
theorem d_Mdl_change_24 : decode (mb M_Mdl_change) 24 = .ok (.aload_n 0, 1) := by decide +kernel
theorem d_Mdl_change_25 : decode (mb M_Mdl_change) 25 = .ok (.invokevirtual 201, 3) := by decide +kernel
theorem d_Mdl_change_28 : decode (mb M_Mdl_change) 28 = .ok (.ifCond .eq 7, 3) := by decide +kernel
theorem d_Mdl_change_31 : decode (mb M_Mdl_change) 31 = .ok (.iconst 0, 1) := by decide +kernel
theorem d_Mdl_change_32 : decode (mb M_Mdl_change) 32 = .ok (.goto 4, 3) := by decide +kernel
theorem d_Mdl_change_35 : decode (mb M_Mdl_change) 35 = .ok (.iconst 3, 1) := by decide +kernel
theorem d_Mdl_change_36 : decode (mb M_Mdl_change) 36 = .ok (.invokevirtual 151, 3) := by decide +kernel
theorem d_Mdl_change_39 : decode (mb M_Mdl_change) 39 = .ok (.ifCond .eq 5, 3) := by decide +kernel
theorem d_Mdl_change_42 : decode (mb M_Mdl_change) 42 = .ok (.iconst 0, 1) := by decide +kernel
theorem d_Mdl_change_43 : decode (mb M_Mdl_change) 43 = .ok (.ireturn, 1) := by decide +kernel
theorem d_Mdl_change_44 : decode (mb M_Mdl_change) 44 = .ok (.aload_n 0, 1) := by decide +kernel
theorem d_Mdl_change_45 : decode (mb M_Mdl_change) 45 = .ok (.invokevirtual 205, 3) := by decide +kernel
theorem d_Mdl_change_48 : decode (mb M_Mdl_change) 48 = .ok (.aload_n 0, 1) := by decide +kernel
theorem d_Mdl_change_49 : decode (mb M_Mdl_change) 49 = .ok (.getfield 35, 3) := by decide +kernel
theorem d_Mdl_change_52 : decode (mb M_Mdl_change) 52 = .ok (.iload_n 1, 1) := by decide +kernel
theorem d_Mdl_change_53 : decode (mb M_Mdl_change) 53 = .ok (.iaload, 1) := by decide +kernel
theorem d_Mdl_change_54 : decode (mb M_Mdl_change) 54 = .ok (.istore 4, 2) := by decide +kernel
theorem d_Mdl_change_56 : decode (mb M_Mdl_change) 56 = .ok (.aload_n 0, 1) := by decide +kernel
theorem d_Mdl_change_57 : decode (mb M_Mdl_change) 57 = .ok (.getfield 7, 3) := by decide +kernel
theorem d_Mdl_change_60 : decode (mb M_Mdl_change) 60 = .ok (.iload 4, 2) := by decide +kernel
theorem d_Mdl_change_62 : decode (mb M_Mdl_change) 62 = .ok (.laload, 1) := by decide +kernel
theorem d_Mdl_change_63 : decode (mb M_Mdl_change) 63 = .ok (.lload_n 2, 1) := by decide +kernel
theorem d_Mdl_change_64 : decode (mb M_Mdl_change) 64 = .ok (.lcmp, 1) := by decide +kernel
theorem d_Mdl_change_65 : decode (mb M_Mdl_change) 65 = .ok (.ifCond .eq 20, 3) := by decide +kernel
theorem d_Mdl_change_68 : decode (mb M_Mdl_change) 68 = .ok (.aload_n 0, 1) := by decide +kernel
theorem d_Mdl_change_69 : decode (mb M_Mdl_change) 69 = .ok (.getfield 35, 3) := by decide +kernel
theorem d_Mdl_change_72 : decode (mb M_Mdl_change) 72 = .ok (.iload_n 1, 1) := by decide +kernel
theorem d_Mdl_change_73 : decode (mb M_Mdl_change) 73 = .ok (.aload_n 0, 1) := by decide +kernel
theorem d_Mdl_change_74 : decode (mb M_Mdl_change) 74 = .ok (.lload_n 2, 1) := by decide +kernel
theorem d_Mdl_change_75 : decode (mb M_Mdl_change) 75 = .ok (.aload_n 0, 1) := by decide +kernel
theorem d_Mdl_change_76 : decode (mb M_Mdl_change) 76 = .ok (.getfield 162, 3) := by decide +kernel
theorem d_Mdl_change_79 : decode (mb M_Mdl_change) 79 = .ok (.iload 4, 2) := by decide +kernel
theorem d_Mdl_change_81 : decode (mb M_Mdl_change) 81 = .ok (.invokevirtual 168, 3) := by decide +kernel
theorem d_Mdl_change_84 : decode (mb M_Mdl_change) 84 = .ok (.iastore, 1) := by decide +kernel
theorem d_Mdl_change_85 : decode (mb M_Mdl_change) 85 = .ok (.aload_n 0, 1) := by decide +kernel
theorem d_Mdl_change_86 : decode (mb M_Mdl_change) 86 = .ok (.aload_n 0, 1) := by decide +kernel
theorem d_Mdl_change_87 : decode (mb M_Mdl_change) 87 = .ok (.getfield 7, 3) := by decide +kernel
theorem d_Mdl_change_90 : decode (mb M_Mdl_change) 90 = .ok (.iload 4, 2) := by decide +kernel
theorem d_Mdl_change_92 : decode (mb M_Mdl_change) 92 = .ok (.laload, 1) := by decide +kernel
theorem d_Mdl_change_93 : decode (mb M_Mdl_change) 93 = .ok (.lload_n 2, 1) := by decide +kernel
theorem d_Mdl_change_94 : decode (mb M_Mdl_change) 94 = .ok (.invokevirtual 155, 3) := by decide +kernel
theorem d_Mdl_change_97 : decode (mb M_Mdl_change) 97 = .ok (.ireturn, 1) := by decide +kernel
theorem d_Mdl_changes_0 : decode (mb M_Mdl_changes) 0 = .ok (.iload_n 1, 1) := by decide +kernel
theorem d_Mdl_changes_1 : decode (mb M_Mdl_changes) 1 = .ok (.iconst (-1), 1) := by decide +kernel
theorem d_Mdl_changes_2 : decode (mb M_Mdl_changes) 2 = .ok (.if_icmp .eq 8, 3) := by decide +kernel
theorem d_Mdl_changes_5 : decode (mb M_Mdl_changes) 5 = .ok (.iload_n 2, 1) := by decide +kernel
theorem d_Mdl_changes_6 : decode (mb M_Mdl_changes) 6 = .ok (.iconst (-1), 1) := by decide +kernel
theorem d_Mdl_changes_7 : decode (mb M_Mdl_changes) 7 = .ok (.if_icmp .ne 15, 3) := by decide +kernel
theorem d_Mdl_changes_10 : decode (mb M_Mdl_changes) 10 = .ok (.iload_n 1, 1) := by decide +kernel
theorem d_Mdl_changes_11 : decode (mb M_Mdl_changes) 11 = .ok (.iload_n 2, 1) := by decide +kernel
theorem d_Mdl_changes_12 : decode (mb M_Mdl_changes) 12 = .ok (.if_icmp .ne 7, 3) := by decide +kernel
theorem d_Mdl_changes_15 : decode (mb M_Mdl_changes) 15 = .ok (.iconst 0, 1) := by decide +kernel
theorem d_Mdl_changes_16 : decode (mb M_Mdl_changes) 16 = .ok (.goto 5, 3) := by decide +kernel
theorem d_Mdl_changes_19 : decode (mb M_Mdl_changes) 19 = .ok (.bipush 99, 2) := by decide +kernel
theorem d_Mdl_changes_21 : decode (mb M_Mdl_changes) 21 = .ok (.ireturn, 1) := by decide +kernel
theorem d_Mdl_changes_22 : decode (mb M_Mdl_changes) 22 = .ok (.aload_n 0, 1) := by decide +kernel
theorem d_Mdl_changes_23 : decode (mb M_Mdl_changes) 23 = .ok (.getfield 7, 3) := by decide +kernel
theorem d_Mdl_changes_26 : decode (mb M_Mdl_changes) 26 = .ok (.iload_n 1, 1) := by decide +kernel
theorem d_Mdl_changes_27 : decode (mb M_Mdl_changes) 27 = .ok (.laload, 1) := by decide +kernel
theorem d_Mdl_changes_28 : decode (mb M_Mdl_changes) 28 = .ok (.lstore_n 3, 1) := by decide +kernel
theorem d_Mdl_changes_29 : decode (mb M_Mdl_changes) 29 = .ok (.aload_n 0, 1) := by decide +kernel
theorem d_Mdl_changes_30 : decode (mb M_Mdl_changes) 30 = .ok (.getfield 7, 3) := by decide +kernel
theorem d_Mdl_changes_33 : decode (mb M_Mdl_changes) 33 = .ok (.iload_n 2, 1) := by decide +kernel
theorem d_Mdl_changes_34 : decode (mb M_Mdl_changes) 34 = .ok (.laload, 1) := by decide +kernel
theorem d_Mdl_changes_35 : decode (mb M_Mdl_changes) 35 = .ok (.lstore 5, 2) := by decide +kernel
theorem d_Mdl_changes_37 : decode (mb M_Mdl_changes) 37 = .ok (.lload_n 3, 1) := by decide +kernel
theorem d_Mdl_changes_38 : decode (mb M_Mdl_changes) 38 = .ok (.bipush 8, 2) := by decide +kernel
theorem d_Mdl_changes_40 : decode (mb M_Mdl_changes) 40 = .ok (.lload_n 3, 1) := by decide +kernel
theorem d_Mdl_changes_41 : decode (mb M_Mdl_changes) 41 = .ok (.invokestatic 268, 3) := by decide +kernel
theorem d_Mdl_changes_44 : decode (mb M_Mdl_changes) 44 = .ok (.imul, 1) := by decide +kernel
theorem d_Mdl_changes_45 : decode (mb M_Mdl_changes) 45 = .ok (.lushr, 1) := by decide +kernel
theorem d_Mdl_changes_46 : decode (mb M_Mdl_changes) 46 = .ok (.lload 5, 2) := by decide +kernel
theorem d_Mdl_changes_48 : decode (mb M_Mdl_changes) 48 = .ok (.bipush 8, 2) := by decide +kernel
theorem d_Mdl_changes_50 : decode (mb M_Mdl_changes) 50 = .ok (.lload 5, 2) := by decide +kernel
theorem d_Mdl_changes_52 : decode (mb M_Mdl_changes) 52 = .ok (.invokestatic 268, 3) := by decide +kernel
theorem d_Mdl_changes_55 : decode (mb M_Mdl_changes) 55 = .ok (.imul, 1) := by decide +kernel
theorem d_Mdl_changes_56 : decode (mb M_Mdl_changes) 56 = .ok (.lushr, 1) := by decide +kernel
theorem d_Mdl_changes_57 : decode (mb M_Mdl_changes) 57 = .ok (.lcmp, 1) := by decide +kernel
theorem d_Mdl_changes_58 : decode (mb M_Mdl_changes) 58 = .ok (.ifCond .ne 7, 3) := by decide +kernel
theorem d_Mdl_changes_61 : decode (mb M_Mdl_changes) 61 = .ok (.iconst 0, 1) := by decide +kernel
theorem d_Mdl_changes_62 : decode (mb M_Mdl_changes) 62 = .ok (.goto 4, 3) := by decide +kernel
theorem d_Mdl_changes_65 : decode (mb M_Mdl_changes) 65 = .ok (.iconst 1, 1) := by decide +kernel
theorem d_Mdl_changes_66 : decode (mb M_Mdl_changes) 66 = .ok (.ireturn, 1) := by decide +kernel
theorem d_Mdl_commit_0 : decode (mb M_Mdl_commit) 0 = .ok (.aload_n 0, 1) := by decide +kernel
theorem d_Mdl_commit_1 : decode (mb M_Mdl_commit) 1 = .ok (.aload_n 0, 1) := by decide +kernel
theorem d_Mdl_commit_2 : decode (mb M_Mdl_commit) 2 = .ok (.getfield 178, 3) := by decide +kernel
theorem d_Mdl_commit_5 : decode (mb M_Mdl_commit) 5 = .ok (.ifCond .eq 23, 3) := by decide +kernel
theorem d_Mdl_commit_8 : decode (mb M_Mdl_commit) 8 = .ok (.aload_n 0, 1) := by decide +kernel
theorem d_Mdl_commit_9 : decode (mb M_Mdl_commit) 9 = .ok (.invokevirtual 201, 3) := by decide +kernel
theorem d_Mdl_commit_12 : decode (mb M_Mdl_commit) 12 = .ok (.ifCond .eq 16, 3) := by decide +kernel
theorem d_Mdl_commit_15 : decode (mb M_Mdl_commit) 15 = .ok (.aload_n 0, 1) := by decide +kernel
theorem d_Mdl_commit_16 : decode (mb M_Mdl_commit) 16 = .ok (.getfield 123, 3) := by decide +kernel
theorem d_Mdl_commit_19 : decode (mb M_Mdl_commit) 19 = .ok (.bipush 40, 2) := by decide +kernel
theorem d_Mdl_commit_21 : decode (mb M_Mdl_commit) 21 = .ok (.if_icmp .ge 7, 3) := by decide +kernel
theorem d_Mdl_commit_24 : decode (mb M_Mdl_commit) 24 = .ok (.iconst 0, 1) := by decide +kernel
theorem d_Mdl_commit_25 : decode (mb M_Mdl_commit) 25 = .ok (.goto 4, 3) := by decide +kernel
theorem d_Mdl_commit_28 : decode (mb M_Mdl_commit) 28 = .ok (.iconst 1, 1) := by decide +kernel
theorem d_Mdl_commit_29 : decode (mb M_Mdl_commit) 29 = .ok (.invokevirtual 151, 3) := by decide +kernel
theorem d_Mdl_commit_32 : decode (mb M_Mdl_commit) 32 = .ok (.ifCond .eq 5, 3) := by decide +kernel
theorem d_Mdl_commit_35 : decode (mb M_Mdl_commit) 35 = .ok (.iconst 0, 1) := by decide +kernel
theorem d_Mdl_commit_36 : decode (mb M_Mdl_commit) 36 = .ok (.ireturn, 1) := by decide +kernel
theorem d_Mdl_commit_37 : decode (mb M_Mdl_commit) 37 = .ok (.aload_n 0, 1) := by decide +kernel
theorem d_Mdl_commit_38 : decode (mb M_Mdl_commit) 38 = .ok (.getfield 20, 3) := by decide +kernel
theorem d_Mdl_commit_41 : decode (mb M_Mdl_commit) 41 = .ok (.aload_n 0, 1) := by decide +kernel
theorem d_Mdl_commit_42 : decode (mb M_Mdl_commit) 42 = .ok (.getfield 123, 3) := by decide +kernel
theorem d_Mdl_commit_45 : decode (mb M_Mdl_commit) 45 = .ok (.aload_n 0, 1) := by decide +kernel
theorem d_Mdl_commit_46 : decode (mb M_Mdl_commit) 46 = .ok (.getfield 194, 3) := by decide +kernel
theorem d_Mdl_commit_49 : decode (mb M_Mdl_commit) 49 = .ok (.iastore, 1) := by decide +kernel
theorem d_Mdl_commit_50 : decode (mb M_Mdl_commit) 50 = .ok (.iconst 0, 1) := by decide +kernel
theorem d_Mdl_commit_51 : decode (mb M_Mdl_commit) 51 = .ok (.istore_n 1, 1) := by decide +kernel
theorem d_Mdl_commit_52 : decode (mb M_Mdl_commit) 52 = .ok (.iload_n 1, 1) := by decide +kernel
theorem d_Mdl_commit_53 : decode (mb M_Mdl_commit) 53 = .ok (.aload_n 0, 1) := by decide +kernel
theorem d_Mdl_commit_54 : decode (mb M_Mdl_commit) 54 = .ok (.getfield 194, 3) := by decide +kernel
theorem d_Mdl_commit_57 : decode (mb M_Mdl_commit) 57 = .ok (.if_icmp .ge 29, 3) := by decide +kernel
theorem d_Mdl_commit_60 : decode (mb M_Mdl_commit) 60 = .ok (.aload_n 0, 1) := by decide +kernel
theorem d_Mdl_commit_61 : decode (mb M_Mdl_commit) 61 = .ok (.getfield 23, 3) := by decide +kernel
theorem d_Mdl_commit_64 : decode (mb M_Mdl_commit) 64 = .ok (.bipush 20, 2) := by decide +kernel
theorem d_Mdl_commit_66 : decode (mb M_Mdl_commit) 66 = .ok (.aload_n 0, 1) := by decide +kernel
theorem d_Mdl_commit_67 : decode (mb M_Mdl_commit) 67 = .ok (.getfield 123, 3) := by decide +kernel
theorem d_Mdl_commit_70 : decode (mb M_Mdl_commit) 70 = .ok (.imul, 1) := by decide +kernel
theorem d_Mdl_commit_71 : decode (mb M_Mdl_commit) 71 = .ok (.iload_n 1, 1) := by decide +kernel
theorem d_Mdl_commit_72 : decode (mb M_Mdl_commit) 72 = .ok (.iadd, 1) := by decide +kernel
theorem d_Mdl_commit_73 : decode (mb M_Mdl_commit) 73 = .ok (.aload_n 0, 1) := by decide +kernel
theorem d_Mdl_commit_74 : decode (mb M_Mdl_commit) 74 = .ok (.getfield 35, 3) := by decide +kernel
theorem d_Mdl_commit_77 : decode (mb M_Mdl_commit) 77 = .ok (.iload_n 1, 1) := by decide +kernel
theorem d_Mdl_commit_78 : decode (mb M_Mdl_commit) 78 = .ok (.iaload, 1) := by decide +kernel
theorem d_Mdl_commit_79 : decode (mb M_Mdl_commit) 79 = .ok (.iastore, 1) := by decide +kernel
theorem d_Mdl_commit_80 : decode (mb M_Mdl_commit) 80 = .ok (.iinc 1 1, 3) := by decide +kernel
theorem d_Mdl_commit_83 : decode (mb M_Mdl_commit) 83 = .ok (.goto (-31), 3) := by decide +kernel
theorem d_Mdl_commit_86 : decode (mb M_Mdl_commit) 86 = .ok (.aload_n 0, 1) := by decide +kernel
theorem d_Mdl_commit_87 : decode (mb M_Mdl_commit) 87 = .ok (.getfield 26, 3) := by decide +kernel
theorem d_Mdl_commit_90 : decode (mb M_Mdl_commit) 90 = .ok (.aload_n 0, 1) := by decide +kernel
theorem d_Mdl_commit_91 : decode (mb M_Mdl_commit) 91 = .ok (.getfield 123, 3) := by decide +kernel
theorem d_Mdl_commit_94 : decode (mb M_Mdl_commit) 94 = .ok (.aload_n 0, 1) := by decide +kernel
theorem d_Mdl_commit_95 : decode (mb M_Mdl_commit) 95 = .ok (.getfield 162, 3) := by decide +kernel
theorem d_Mdl_commit_98 : decode (mb M_Mdl_commit) 98 = .ok (.iastore, 1) := by decide +kernel
theorem d_Mdl_commit_99 : decode (mb M_Mdl_commit) 99 = .ok (.aload_n 0, 1) := by decide +kernel
theorem d_Mdl_commit_100 : decode (mb M_Mdl_commit) 100 = .ok (.getfield 29, 3) := by decide +kernel
theorem d_Mdl_commit_103 : decode (mb M_Mdl_commit) 103 = .ok (.aload_n 0, 1) := by decide +kernel
theorem d_Mdl_commit_104 : decode (mb M_Mdl_commit) 104 = .ok (.getfield 123, 3) := by decide +kernel
theorem d_Mdl_commit_107 : decode (mb M_Mdl_commit) 107 = .ok (.aload_n 0, 1) := by decide +kernel
theorem d_Mdl_commit_108 : decode (mb M_Mdl_commit) 108 = .ok (.getfield 165, 3) := by decide +kernel
theorem d_Mdl_commit_111 : decode (mb M_Mdl_commit) 111 = .ok (.iastore, 1) := by decide +kernel
theorem d_Mdl_commit_112 : decode (mb M_Mdl_commit) 112 = .ok (.aload_n 0, 1) := by decide +kernel
theorem d_Mdl_commit_113 : decode (mb M_Mdl_commit) 113 = .ok (.getfield 32, 3) := by decide +kernel
theorem d_Mdl_commit_116 : decode (mb M_Mdl_commit) 116 = .ok (.aload_n 0, 1) := by decide +kernel
theorem d_Mdl_commit_117 : decode (mb M_Mdl_commit) 117 = .ok (.getfield 123, 3) := by decide +kernel
theorem d_Mdl_commit_120 : decode (mb M_Mdl_commit) 120 = .ok (.aload_n 0, 1) := by decide +kernel
theorem d_Mdl_commit_121 : decode (mb M_Mdl_commit) 121 = .ok (.getfield 182, 3) := by decide +kernel
theorem d_Mdl_commit_124 : decode (mb M_Mdl_commit) 124 = .ok (.iastore, 1) := by decide +kernel
theorem d_Mdl_commit_125 : decode (mb M_Mdl_commit) 125 = .ok (.aload_n 0, 1) := by decide +kernel
theorem d_Mdl_commit_126 : decode (mb M_Mdl_commit) 126 = .ok (.dup, 1) := by decide +kernel
theorem d_Mdl_commit_127 : decode (mb M_Mdl_commit) 127 = .ok (.getfield 123, 3) := by decide +kernel
theorem d_Mdl_commit_130 : decode (mb M_Mdl_commit) 130 = .ok (.iconst 1, 1) := by decide +kernel
theorem d_Mdl_commit_131 : decode (mb M_Mdl_commit) 131 = .ok (.iadd, 1) := by decide +kernel
theorem d_Mdl_commit_132 : decode (mb M_Mdl_commit) 132 = .ok (.putfield 123, 3) := by decide +kernel
theorem d_Mdl_commit_135 : decode (mb M_Mdl_commit) 135 = .ok (.aload_n 0, 1) := by decide +kernel
theorem d_Mdl_commit_136 : decode (mb M_Mdl_commit) 136 = .ok (.iconst 0, 1) := by decide +kernel
theorem d_Mdl_commit_137 : decode (mb M_Mdl_commit) 137 = .ok (.putfield 178, 3) := by decide +kernel
theorem d_Mdl_commit_140 : decode (mb M_Mdl_commit) 140 = .ok (.aload_n 0, 1) := by decide +kernel
theorem d_Mdl_commit_141 : decode (mb M_Mdl_commit) 141 = .ok (.getfield 123, 3) := by decide +kernel
theorem d_Mdl_commit_144 : decode (mb M_Mdl_commit) 144 = .ok (.iconst 1, 1) := by decide +kernel
theorem d_Mdl_commit_145 : decode (mb M_Mdl_commit) 145 = .ok (.isub, 1) := by decide +kernel
theorem d_Mdl_commit_146 : decode (mb M_Mdl_commit) 146 = .ok (.ireturn, 1) := by decide +kernel
theorem d_Mdl_compare_0 : decode (mb M_Mdl_compare) 0 = .ok (.aload_n 0, 1) := by decide +kernel
theorem d_Mdl_compare_1 : decode (mb M_Mdl_compare) 1 = .ok (.aload_n 0, 1) := by decide +kernel
theorem d_Mdl_compare_2 : decode (mb M_Mdl_compare) 2 = .ok (.iload_n 1, 1) := by decide +kernel
theorem d_Mdl_compare_3 : decode (mb M_Mdl_compare) 3 = .ok (.invokevirtual 172, 3) := by decide +kernel
theorem d_Mdl_compare_6 : decode (mb M_Mdl_compare) 6 = .ok (.ifCond .eq 15, 3) := by decide +kernel
theorem d_Mdl_compare_9 : decode (mb M_Mdl_compare) 9 = .ok (.aload_n 0, 1) := by decide +kernel
theorem d_Mdl_compare_10 : decode (mb M_Mdl_compare) 10 = .ok (.iload_n 2, 1) := by decide +kernel
theorem d_Mdl_compare_11 : decode (mb M_Mdl_compare) 11 = .ok (.invokevirtual 172, 3) := by decide +kernel
theorem d_Mdl_compare_14 : decode (mb M_Mdl_compare) 14 = .ok (.ifCond .eq 7, 3) := by decide +kernel
theorem d_Mdl_compare_17 : decode (mb M_Mdl_compare) 17 = .ok (.iconst 0, 1) := by decide +kernel
theorem d_Mdl_compare_18 : decode (mb M_Mdl_compare) 18 = .ok (.goto 4, 3) := by decide +kernel
theorem d_Mdl_compare_21 : decode (mb M_Mdl_compare) 21 = .ok (.iconst 1, 1) := by decide +kernel
theorem d_Mdl_compare_22 : decode (mb M_Mdl_compare) 22 = .ok (.invokevirtual 151, 3) := by decide +kernel
theorem d_Mdl_compare_25 : decode (mb M_Mdl_compare) 25 = .ok (.ifCond .eq 5, 3) := by decide +kernel
theorem d_Mdl_compare_28 : decode (mb M_Mdl_compare) 28 = .ok (.iconst 0, 1) := by decide +kernel
theorem d_Mdl_compare_29 : decode (mb M_Mdl_compare) 29 = .ok (.ireturn, 1) := by decide +kernel
theorem d_Mdl_compare_30 : decode (mb M_Mdl_compare) 30 = .ok (.aload_n 0, 1) := by decide +kernel
theorem d_Mdl_compare_31 : decode (mb M_Mdl_compare) 31 = .ok (.iload_n 1, 1) := by decide +kernel
theorem d_Mdl_compare_32 : decode (mb M_Mdl_compare) 32 = .ok (.iload_n 2, 1) := by decide +kernel
theorem d_Mdl_compare_33 : decode (mb M_Mdl_compare) 33 = .ok (.iload_n 3, 1) := by decide +kernel
theorem d_Mdl_compare_34 : decode (mb M_Mdl_compare) 34 = .ok (.invokevirtual 249, 3) := by decide +kernel
theorem d_Mdl_compare_37 : decode (mb M_Mdl_compare) 37 = .ok (.istore 4, 2) := by decide +kernel
theorem d_Mdl_compare_39 : decode (mb M_Mdl_compare) 39 = .ok (.aload_n 0, 1) := by decide +kernel
theorem d_Mdl_compare_40 : decode (mb M_Mdl_compare) 40 = .ok (.iconst 1, 1) := by decide +kernel
theorem d_Mdl_compare_41 : decode (mb M_Mdl_compare) 41 = .ok (.putfield 253, 3) := by decide +kernel
theorem d_Mdl_compare_44 : decode (mb M_Mdl_compare) 44 = .ok (.aload_n 0, 1) := by decide +kernel
theorem d_Mdl_compare_45 : decode (mb M_Mdl_compare) 45 = .ok (.aload_n 0, 1) := by decide +kernel
theorem d_Mdl_compare_46 : decode (mb M_Mdl_compare) 46 = .ok (.getfield 20, 3) := by decide +kernel
theorem d_Mdl_compare_49 : decode (mb M_Mdl_compare) 49 = .ok (.iload_n 1, 1) := by decide +kernel
theorem d_Mdl_compare_50 : decode (mb M_Mdl_compare) 50 = .ok (.iaload, 1) := by decide +kernel
theorem d_Mdl_compare_51 : decode (mb M_Mdl_compare) 51 = .ok (.putfield 256, 3) := by decide +kernel
theorem d_Mdl_compare_54 : decode (mb M_Mdl_compare) 54 = .ok (.iconst 0, 1) := by decide +kernel
theorem d_Mdl_compare_55 : decode (mb M_Mdl_compare) 55 = .ok (.istore 5, 2) := by decide +kernel
theorem d_Mdl_compare_57 : decode (mb M_Mdl_compare) 57 = .ok (.iload 5, 2) := by decide +kernel
theorem d_Mdl_compare_59 : decode (mb M_Mdl_compare) 59 = .ok (.aload_n 0, 1) := by decide +kernel
theorem d_Mdl_compare_60 : decode (mb M_Mdl_compare) 60 = .ok (.getfield 256, 3) := by decide +kernel
theorem d_Mdl_compare_63 : decode (mb M_Mdl_compare) 63 = .ok (.if_icmp .ge 31, 3) := by decide +kernel
theorem d_Mdl_compare_66 : decode (mb M_Mdl_compare) 66 = .ok (.aload_n 0, 1) := by decide +kernel
theorem d_Mdl_compare_67 : decode (mb M_Mdl_compare) 67 = .ok (.getfield 53, 3) := by decide +kernel
theorem d_Mdl_compare_70 : decode (mb M_Mdl_compare) 70 = .ok (.iload 5, 2) := by decide +kernel
theorem d_Mdl_compare_72 : decode (mb M_Mdl_compare) 72 = .ok (.aload_n 0, 1) := by decide +kernel
theorem d_Mdl_compare_73 : decode (mb M_Mdl_compare) 73 = .ok (.getfield 99, 3) := by decide +kernel
theorem d_Mdl_compare_76 : decode (mb M_Mdl_compare) 76 = .ok (.iload 5, 2) := by decide +kernel
theorem d_Mdl_compare_78 : decode (mb M_Mdl_compare) 78 = .ok (.iaload, 1) := by decide +kernel
theorem d_Mdl_compare_79 : decode (mb M_Mdl_compare) 79 = .ok (.iastore, 1) := by decide +kernel
theorem d_Mdl_compare_80 : decode (mb M_Mdl_compare) 80 = .ok (.aload_n 0, 1) := by decide +kernel
theorem d_Mdl_compare_81 : decode (mb M_Mdl_compare) 81 = .ok (.getfield 56, 3) := by decide +kernel
theorem d_Mdl_compare_84 : decode (mb M_Mdl_compare) 84 = .ok (.iload 5, 2) := by decide +kernel
theorem d_Mdl_compare_86 : decode (mb M_Mdl_compare) 86 = .ok (.iconst (-1), 1) := by decide +kernel
theorem d_Mdl_compare_87 : decode (mb M_Mdl_compare) 87 = .ok (.iastore, 1) := by decide +kernel
theorem d_Mdl_compare_88 : decode (mb M_Mdl_compare) 88 = .ok (.iinc 5 1, 3) := by decide +kernel
theorem d_Mdl_compare_91 : decode (mb M_Mdl_compare) 91 = .ok (.goto (-34), 3) := by decide +kernel
theorem d_Mdl_compare_94 : decode (mb M_Mdl_compare) 94 = .ok (.iconst 1, 1) := by decide +kernel
theorem d_Mdl_compare_95 : decode (mb M_Mdl_compare) 95 = .ok (.istore 5, 2) := by decide +kernel
theorem d_Mdl_compare_97 : decode (mb M_Mdl_compare) 97 = .ok (.iload 5, 2) := by decide +kernel
theorem d_Mdl_compare_99 : decode (mb M_Mdl_compare) 99 = .ok (.ifCond .eq 15, 3) := by decide +kernel
theorem d_Mdl_compare_102 : decode (mb M_Mdl_compare) 102 = .ok (.aload_n 0, 1) := by decide +kernel
theorem d_Mdl_compare_103 : decode (mb M_Mdl_compare) 103 = .ok (.iload_n 1, 1) := by decide +kernel
theorem d_Mdl_compare_104 : decode (mb M_Mdl_compare) 104 = .ok (.iload_n 2, 1) := by decide +kernel
theorem d_Mdl_compare_105 : decode (mb M_Mdl_compare) 105 = .ok (.iload_n 3, 1) := by decide +kernel
theorem d_Mdl_compare_106 : decode (mb M_Mdl_compare) 106 = .ok (.invokevirtual 259, 3) := by decide +kernel
theorem d_Mdl_compare_109 : decode (mb M_Mdl_compare) 109 = .ok (.istore 5, 2) := by decide +kernel
theorem d_Mdl_compare_111 : decode (mb M_Mdl_compare) 111 = .ok (.goto (-14), 3) := by decide +kernel
theorem d_Mdl_compare_114 : decode (mb M_Mdl_compare) 114 = .ok (.iload 4, 2) := by decide +kernel
theorem d_Mdl_compare_116 : decode (mb M_Mdl_compare) 116 = .ok (.ireturn, 1) := by decide +kernel
theorem d_Mdl_compareTrees_0 : decode (mb M_Mdl_compareTrees) 0 = .ok (.aload_n 0, 1) := by decide +kernel
theorem d_Mdl_compareTrees_1 : decode (mb M_Mdl_compareTrees) 1 = .ok (.getfield 108, 3) := by decide +kernel
theorem d_Mdl_compareTrees_4 : decode (mb M_Mdl_compareTrees) 4 = .ok (.iload_n 1, 1) := by decide +kernel
theorem d_Mdl_compareTrees_5 : decode (mb M_Mdl_compareTrees) 5 = .ok (.iaload, 1) := by decide +kernel
theorem d_Mdl_compareTrees_6 : decode (mb M_Mdl_compareTrees) 6 = .ok (.istore_n 3, 1) := by decide +kernel
theorem d_Mdl_compareTrees_7 : decode (mb M_Mdl_compareTrees) 7 = .ok (.aload_n 0, 1) := by decide +kernel
theorem d_Mdl_compareTrees_8 : decode (mb M_Mdl_compareTrees) 8 = .ok (.getfield 108, 3) := by decide +kernel
theorem d_Mdl_compareTrees_11 : decode (mb M_Mdl_compareTrees) 11 = .ok (.bipush 22, 2) := by decide +kernel
theorem d_Mdl_compareTrees_13 : decode (mb M_Mdl_compareTrees) 13 = .ok (.iload_n 2, 1) := by decide +kernel
theorem d_Mdl_compareTrees_14 : decode (mb M_Mdl_compareTrees) 14 = .ok (.iadd, 1) := by decide +kernel
theorem d_Mdl_compareTrees_15 : decode (mb M_Mdl_compareTrees) 15 = .ok (.iaload, 1) := by decide +kernel
theorem d_Mdl_compareTrees_16 : decode (mb M_Mdl_compareTrees) 16 = .ok (.istore 4, 2) := by decide +kernel
theorem d_Mdl_compareTrees_18 : decode (mb M_Mdl_compareTrees) 18 = .ok (.aload_n 0, 1) := by decide +kernel
theorem d_Mdl_compareTrees_19 : decode (mb M_Mdl_compareTrees) 19 = .ok (.getfield 117, 3) := by decide +kernel
theorem d_Mdl_compareTrees_22 : decode (mb M_Mdl_compareTrees) 22 = .ok (.bipush 22, 2) := by decide +kernel
theorem d_Mdl_compareTrees_24 : decode (mb M_Mdl_compareTrees) 24 = .ok (.iload_n 3, 1) := by decide +kernel
theorem d_Mdl_compareTrees_25 : decode (mb M_Mdl_compareTrees) 25 = .ok (.iconst 1, 1) := by decide +kernel
theorem d_Mdl_compareTrees_26 : decode (mb M_Mdl_compareTrees) 26 = .ok (.isub, 1) := by decide +kernel
theorem d_Mdl_compareTrees_27 : decode (mb M_Mdl_compareTrees) 27 = .ok (.imul, 1) := by decide +kernel
theorem d_Mdl_compareTrees_28 : decode (mb M_Mdl_compareTrees) 28 = .ok (.iload 4, 2) := by decide +kernel
theorem d_Mdl_compareTrees_30 : decode (mb M_Mdl_compareTrees) 30 = .ok (.iadd, 1) := by decide +kernel
theorem d_Mdl_compareTrees_31 : decode (mb M_Mdl_compareTrees) 31 = .ok (.iconst 1, 1) := by decide +kernel
theorem d_Mdl_compareTrees_32 : decode (mb M_Mdl_compareTrees) 32 = .ok (.isub, 1) := by decide +kernel
theorem d_Mdl_compareTrees_33 : decode (mb M_Mdl_compareTrees) 33 = .ok (.iconst 0, 1) := by decide +kernel
theorem d_Mdl_compareTrees_34 : decode (mb M_Mdl_compareTrees) 34 = .ok (.iastore, 1) := by decide +kernel
theorem d_Mdl_compareTrees_35 : decode (mb M_Mdl_compareTrees) 35 = .ok (.iload_n 3, 1) := by decide +kernel
theorem d_Mdl_compareTrees_36 : decode (mb M_Mdl_compareTrees) 36 = .ok (.istore 5, 2) := by decide +kernel
theorem d_Mdl_compareTrees_38 : decode (mb M_Mdl_compareTrees) 38 = .ok (.iload 5, 2) := by decide +kernel
theorem d_Mdl_compareTrees_40 : decode (mb M_Mdl_compareTrees) 40 = .ok (.iload_n 1, 1) := by decide +kernel
theorem d_Mdl_compareTrees_41 : decode (mb M_Mdl_compareTrees) 41 = .ok (.if_icmp .gt 43, 3) := by decide +kernel
theorem d_Mdl_compareTrees_44 : decode (mb M_Mdl_compareTrees) 44 = .ok (.aload_n 0, 1) := by decide +kernel
theorem d_Mdl_compareTrees_45 : decode (mb M_Mdl_compareTrees) 45 = .ok (.getfield 117, 3) := by decide +kernel
theorem d_Mdl_compareTrees_48 : decode (mb M_Mdl_compareTrees) 48 = .ok (.bipush 22, 2) := by decide +kernel
theorem d_Mdl_compareTrees_50 : decode (mb M_Mdl_compareTrees) 50 = .ok (.iload 5, 2) := by decide +kernel
theorem d_Mdl_compareTrees_52 : decode (mb M_Mdl_compareTrees) 52 = .ok (.imul, 1) := by decide +kernel
theorem d_Mdl_compareTrees_53 : decode (mb M_Mdl_compareTrees) 53 = .ok (.iload 4, 2) := by decide +kernel
theorem d_Mdl_compareTrees_55 : decode (mb M_Mdl_compareTrees) 55 = .ok (.iadd, 1) := by decide +kernel
theorem d_Mdl_compareTrees_56 : decode (mb M_Mdl_compareTrees) 56 = .ok (.iconst 1, 1) := by decide +kernel
theorem d_Mdl_compareTrees_57 : decode (mb M_Mdl_compareTrees) 57 = .ok (.isub, 1) := by decide +kernel
theorem d_Mdl_compareTrees_58 : decode (mb M_Mdl_compareTrees) 58 = .ok (.aload_n 0, 1) := by decide +kernel
theorem d_Mdl_compareTrees_59 : decode (mb M_Mdl_compareTrees) 59 = .ok (.getfield 117, 3) := by decide +kernel
theorem d_Mdl_compareTrees_62 : decode (mb M_Mdl_compareTrees) 62 = .ok (.bipush 22, 2) := by decide +kernel
theorem d_Mdl_compareTrees_64 : decode (mb M_Mdl_compareTrees) 64 = .ok (.iload 5, 2) := by decide +kernel
theorem d_Mdl_compareTrees_66 : decode (mb M_Mdl_compareTrees) 66 = .ok (.iconst 1, 1) := by decide +kernel
theorem d_Mdl_compareTrees_67 : decode (mb M_Mdl_compareTrees) 67 = .ok (.isub, 1) := by decide +kernel
theorem d_Mdl_compareTrees_68 : decode (mb M_Mdl_compareTrees) 68 = .ok (.imul, 1) := by decide +kernel
theorem d_Mdl_compareTrees_69 : decode (mb M_Mdl_compareTrees) 69 = .ok (.iload 4, 2) := by decide +kernel
theorem d_Mdl_compareTrees_71 : decode (mb M_Mdl_compareTrees) 71 = .ok (.iadd, 1) := by decide +kernel
theorem d_Mdl_compareTrees_72 : decode (mb M_Mdl_compareTrees) 72 = .ok (.iconst 1, 1) := by decide +kernel
theorem d_Mdl_compareTrees_73 : decode (mb M_Mdl_compareTrees) 73 = .ok (.isub, 1) := by decide +kernel
theorem d_Mdl_compareTrees_74 : decode (mb M_Mdl_compareTrees) 74 = .ok (.iaload, 1) := by decide +kernel
theorem d_Mdl_compareTrees_75 : decode (mb M_Mdl_compareTrees) 75 = .ok (.iconst 1, 1) := by decide +kernel
theorem d_Mdl_compareTrees_76 : decode (mb M_Mdl_compareTrees) 76 = .ok (.iadd, 1) := by decide +kernel
theorem d_Mdl_compareTrees_77 : decode (mb M_Mdl_compareTrees) 77 = .ok (.iastore, 1) := by decide +kernel
theorem d_Mdl_compareTrees_78 : decode (mb M_Mdl_compareTrees) 78 = .ok (.iinc 5 1, 3) := by decide +kernel
theorem d_Mdl_compareTrees_81 : decode (mb M_Mdl_compareTrees) 81 = .ok (.goto (-43), 3) := by decide +kernel
theorem d_Mdl_compareTrees_84 : decode (mb M_Mdl_compareTrees) 84 = .ok (.iload 4, 2) := by decide +kernel
theorem d_Mdl_compareTrees_86 : decode (mb M_Mdl_compareTrees) 86 = .ok (.istore 5, 2) := by decide +kernel
theorem d_Mdl_compareTrees_88 : decode (mb M_Mdl_compareTrees) 88 = .ok (.iload 5, 2) := by decide +kernel
theorem d_Mdl_compareTrees_90 : decode (mb M_Mdl_compareTrees) 90 = .ok (.iload_n 2, 1) := by decide +kernel
theorem d_Mdl_compareTrees_91 : decode (mb M_Mdl_compareTrees) 91 = .ok (.if_icmp .gt 41, 3) := by decide +kernel
theorem d_Mdl_compareTrees_94 : decode (mb M_Mdl_compareTrees) 94 = .ok (.aload_n 0, 1) := by decide +kernel
theorem d_Mdl_compareTrees_95 : decode (mb M_Mdl_compareTrees) 95 = .ok (.getfield 117, 3) := by decide +kernel
theorem d_Mdl_compareTrees_98 : decode (mb M_Mdl_compareTrees) 98 = .ok (.bipush 22, 2) := by decide +kernel
theorem d_Mdl_compareTrees_100 : decode (mb M_Mdl_compareTrees) 100 = .ok (.iload_n 3, 1) := by decide +kernel
theorem d_Mdl_compareTrees_101 : decode (mb M_Mdl_compareTrees) 101 = .ok (.iconst 1, 1) := by decide +kernel
theorem d_Mdl_compareTrees_102 : decode (mb M_Mdl_compareTrees) 102 = .ok (.isub, 1) := by decide +kernel
theorem d_Mdl_compareTrees_103 : decode (mb M_Mdl_compareTrees) 103 = .ok (.imul, 1) := by decide +kernel
theorem d_Mdl_compareTrees_104 : decode (mb M_Mdl_compareTrees) 104 = .ok (.iload 5, 2) := by decide +kernel
theorem d_Mdl_compareTrees_106 : decode (mb M_Mdl_compareTrees) 106 = .ok (.iadd, 1) := by decide +kernel
theorem d_Mdl_compareTrees_107 : decode (mb M_Mdl_compareTrees) 107 = .ok (.aload_n 0, 1) := by decide +kernel
theorem d_Mdl_compareTrees_108 : decode (mb M_Mdl_compareTrees) 108 = .ok (.getfield 117, 3) := by decide +kernel
theorem d_Mdl_compareTrees_111 : decode (mb M_Mdl_compareTrees) 111 = .ok (.bipush 22, 2) := by decide +kernel
theorem d_Mdl_compareTrees_113 : decode (mb M_Mdl_compareTrees) 113 = .ok (.iload_n 3, 1) := by decide +kernel
theorem d_Mdl_compareTrees_114 : decode (mb M_Mdl_compareTrees) 114 = .ok (.iconst 1, 1) := by decide +kernel
theorem d_Mdl_compareTrees_115 : decode (mb M_Mdl_compareTrees) 115 = .ok (.isub, 1) := by decide +kernel
theorem d_Mdl_compareTrees_116 : decode (mb M_Mdl_compareTrees) 116 = .ok (.imul, 1) := by decide +kernel
theorem d_Mdl_compareTrees_117 : decode (mb M_Mdl_compareTrees) 117 = .ok (.iload 5, 2) := by decide +kernel
theorem d_Mdl_compareTrees_119 : decode (mb M_Mdl_compareTrees) 119 = .ok (.iadd, 1) := by decide +kernel
theorem d_Mdl_compareTrees_120 : decode (mb M_Mdl_compareTrees) 120 = .ok (.iconst 1, 1) := by decide +kernel
theorem d_Mdl_compareTrees_121 : decode (mb M_Mdl_compareTrees) 121 = .ok (.isub, 1) := by decide +kernel
theorem d_Mdl_compareTrees_122 : decode (mb M_Mdl_compareTrees) 122 = .ok (.iaload, 1) := by decide +kernel
theorem d_Mdl_compareTrees_123 : decode (mb M_Mdl_compareTrees) 123 = .ok (.iconst 1, 1) := by decide +kernel
theorem d_Mdl_compareTrees_124 : decode (mb M_Mdl_compareTrees) 124 = .ok (.iadd, 1) := by decide +kernel
theorem d_Mdl_compareTrees_125 : decode (mb M_Mdl_compareTrees) 125 = .ok (.iastore, 1) := by decide +kernel
theorem d_Mdl_compareTrees_126 : decode (mb M_Mdl_compareTrees) 126 = .ok (.iinc 5 1, 3) := by decide +kernel
theorem d_Mdl_compareTrees_129 : decode (mb M_Mdl_compareTrees) 129 = .ok (.goto (-41), 3) := by decide +kernel
theorem d_Mdl_compareTrees_132 : decode (mb M_Mdl_compareTrees) 132 = .ok (.iload_n 3, 1) := by decide +kernel
theorem d_Mdl_compareTrees_133 : decode (mb M_Mdl_compareTrees) 133 = .ok (.istore 5, 2) := by decide +kernel
theorem d_Mdl_compareTrees_135 : decode (mb M_Mdl_compareTrees) 135 = .ok (.iload 5, 2) := by decide +kernel
theorem d_Mdl_compareTrees_137 : decode (mb M_Mdl_compareTrees) 137 = .ok (.iload_n 1, 1) := by decide +kernel
theorem d_Mdl_compareTrees_138 : decode (mb M_Mdl_compareTrees) 138 = .ok (.if_icmp .gt 250, 3) := by decide +kernel
theorem d_Mdl_compareTrees_141 : decode (mb M_Mdl_compareTrees) 141 = .ok (.iload 4, 2) := by decide +kernel
theorem d_Mdl_compareTrees_143 : decode (mb M_Mdl_compareTrees) 143 = .ok (.istore 6, 2) := by decide +kernel
theorem d_Mdl_compareTrees_145 : decode (mb M_Mdl_compareTrees) 145 = .ok (.iload 6, 2) := by decide +kernel
theorem d_Mdl_compareTrees_147 : decode (mb M_Mdl_compareTrees) 147 = .ok (.iload_n 2, 1) := by decide +kernel
theorem d_Mdl_compareTrees_148 : decode (mb M_Mdl_compareTrees) 148 = .ok (.if_icmp .gt 234, 3) := by decide +kernel
theorem d_Mdl_compareTrees_151 : decode (mb M_Mdl_compareTrees) 151 = .ok (.aload_n 0, 1) := by decide +kernel
theorem d_Mdl_compareTrees_152 : decode (mb M_Mdl_compareTrees) 152 = .ok (.getfield 108, 3) := by decide +kernel
theorem d_Mdl_compareTrees_155 : decode (mb M_Mdl_compareTrees) 155 = .ok (.iload 5, 2) := by decide +kernel
theorem d_Mdl_compareTrees_157 : decode (mb M_Mdl_compareTrees) 157 = .ok (.iaload, 1) := by decide +kernel
theorem d_Mdl_compareTrees_158 : decode (mb M_Mdl_compareTrees) 158 = .ok (.iload_n 3, 1) := by decide +kernel
theorem d_Mdl_compareTrees_159 : decode (mb M_Mdl_compareTrees) 159 = .ok (.if_icmp .ne 22, 3) := by decide +kernel
theorem d_Mdl_compareTrees_162 : decode (mb M_Mdl_compareTrees) 162 = .ok (.aload_n 0, 1) := by decide +kernel
theorem d_Mdl_compareTrees_163 : decode (mb M_Mdl_compareTrees) 163 = .ok (.getfield 108, 3) := by decide +kernel
theorem d_Mdl_compareTrees_166 : decode (mb M_Mdl_compareTrees) 166 = .ok (.bipush 22, 2) := by decide +kernel
theorem d_Mdl_compareTrees_168 : decode (mb M_Mdl_compareTrees) 168 = .ok (.iload 6, 2) := by decide +kernel
theorem d_Mdl_compareTrees_170 : decode (mb M_Mdl_compareTrees) 170 = .ok (.iadd, 1) := by decide +kernel
theorem d_Mdl_compareTrees_171 : decode (mb M_Mdl_compareTrees) 171 = .ok (.iaload, 1) := by decide +kernel
theorem d_Mdl_compareTrees_172 : decode (mb M_Mdl_compareTrees) 172 = .ok (.iload 4, 2) := by decide +kernel
theorem d_Mdl_compareTrees_174 : decode (mb M_Mdl_compareTrees) 174 = .ok (.if_icmp .ne 7, 3) := by decide +kernel
theorem d_Mdl_compareTrees_177 : decode (mb M_Mdl_compareTrees) 177 = .ok (.iconst 1, 1) := by decide +kernel
theorem d_Mdl_compareTrees_178 : decode (mb M_Mdl_compareTrees) 178 = .ok (.goto 4, 3) := by decide +kernel
theorem d_Mdl_compareTrees_181 : decode (mb M_Mdl_compareTrees) 181 = .ok (.iconst 0, 1) := by decide +kernel
theorem d_Mdl_compareTrees_182 : decode (mb M_Mdl_compareTrees) 182 = .ok (.istore 7, 2) := by decide +kernel
theorem d_Mdl_compareTrees_184 : decode (mb M_Mdl_compareTrees) 184 = .ok (.iload 7, 2) := by decide +kernel
theorem d_Mdl_compareTrees_186 : decode (mb M_Mdl_compareTrees) 186 = .ok (.ifCond .eq 45, 3) := by decide +kernel
theorem d_Mdl_compareTrees_189 : decode (mb M_Mdl_compareTrees) 189 = .ok (.aload_n 0, 1) := by decide +kernel
theorem d_Mdl_compareTrees_190 : decode (mb M_Mdl_compareTrees) 190 = .ok (.getfield 117, 3) := by decide +kernel
theorem d_Mdl_compareTrees_193 : decode (mb M_Mdl_compareTrees) 193 = .ok (.bipush 22, 2) := by decide +kernel
theorem d_Mdl_compareTrees_195 : decode (mb M_Mdl_compareTrees) 195 = .ok (.iload 5, 2) := by decide +kernel
theorem d_Mdl_compareTrees_197 : decode (mb M_Mdl_compareTrees) 197 = .ok (.iconst 1, 1) := by decide +kernel
theorem d_Mdl_compareTrees_198 : decode (mb M_Mdl_compareTrees) 198 = .ok (.isub, 1) := by decide +kernel
theorem d_Mdl_compareTrees_199 : decode (mb M_Mdl_compareTrees) 199 = .ok (.imul, 1) := by decide +kernel
theorem d_Mdl_compareTrees_200 : decode (mb M_Mdl_compareTrees) 200 = .ok (.iload 6, 2) := by decide +kernel
theorem d_Mdl_compareTrees_202 : decode (mb M_Mdl_compareTrees) 202 = .ok (.iadd, 1) := by decide +kernel
theorem d_Mdl_compareTrees_203 : decode (mb M_Mdl_compareTrees) 203 = .ok (.iconst 1, 1) := by decide +kernel
theorem d_Mdl_compareTrees_204 : decode (mb M_Mdl_compareTrees) 204 = .ok (.isub, 1) := by decide +kernel
theorem d_Mdl_compareTrees_205 : decode (mb M_Mdl_compareTrees) 205 = .ok (.iaload, 1) := by decide +kernel
theorem d_Mdl_compareTrees_206 : decode (mb M_Mdl_compareTrees) 206 = .ok (.aload_n 0, 1) := by decide +kernel
theorem d_Mdl_compareTrees_207 : decode (mb M_Mdl_compareTrees) 207 = .ok (.aload_n 0, 1) := by decide +kernel
theorem d_Mdl_compareTrees_208 : decode (mb M_Mdl_compareTrees) 208 = .ok (.getfield 105, 3) := by decide +kernel
theorem d_Mdl_compareTrees_211 : decode (mb M_Mdl_compareTrees) 211 = .ok (.iload 5, 2) := by decide +kernel
theorem d_Mdl_compareTrees_213 : decode (mb M_Mdl_compareTrees) 213 = .ok (.iaload, 1) := by decide +kernel
theorem d_Mdl_compareTrees_214 : decode (mb M_Mdl_compareTrees) 214 = .ok (.aload_n 0, 1) := by decide +kernel
theorem d_Mdl_compareTrees_215 : decode (mb M_Mdl_compareTrees) 215 = .ok (.getfield 105, 3) := by decide +kernel
theorem d_Mdl_compareTrees_218 : decode (mb M_Mdl_compareTrees) 218 = .ok (.bipush 22, 2) := by decide +kernel
theorem d_Mdl_compareTrees_220 : decode (mb M_Mdl_compareTrees) 220 = .ok (.iload 6, 2) := by decide +kernel
theorem d_Mdl_compareTrees_222 : decode (mb M_Mdl_compareTrees) 222 = .ok (.iadd, 1) := by decide +kernel
theorem d_Mdl_compareTrees_223 : decode (mb M_Mdl_compareTrees) 223 = .ok (.iaload, 1) := by decide +kernel
theorem d_Mdl_compareTrees_224 : decode (mb M_Mdl_compareTrees) 224 = .ok (.invokevirtual 274, 3) := by decide +kernel
theorem d_Mdl_compareTrees_227 : decode (mb M_Mdl_compareTrees) 227 = .ok (.iadd, 1) := by decide +kernel
theorem d_Mdl_compareTrees_228 : decode (mb M_Mdl_compareTrees) 228 = .ok (.goto 47, 3) := by decide +kernel
theorem d_Mdl_compareTrees_231 : decode (mb M_Mdl_compareTrees) 231 = .ok (.aload_n 0, 1) := by decide +kernel
theorem d_Mdl_compareTrees_232 : decode (mb M_Mdl_compareTrees) 232 = .ok (.getfield 117, 3) := by decide +kernel
theorem d_Mdl_compareTrees_235 : decode (mb M_Mdl_compareTrees) 235 = .ok (.bipush 22, 2) := by decide +kernel
theorem d_Mdl_compareTrees_237 : decode (mb M_Mdl_compareTrees) 237 = .ok (.aload_n 0, 1) := by decide +kernel
theorem d_Mdl_compareTrees_238 : decode (mb M_Mdl_compareTrees) 238 = .ok (.getfield 108, 3) := by decide +kernel
theorem d_Mdl_compareTrees_241 : decode (mb M_Mdl_compareTrees) 241 = .ok (.iload 5, 2) := by decide +kernel
theorem d_Mdl_compareTrees_243 : decode (mb M_Mdl_compareTrees) 243 = .ok (.iaload, 1) := by decide +kernel
theorem d_Mdl_compareTrees_244 : decode (mb M_Mdl_compareTrees) 244 = .ok (.iconst 1, 1) := by decide +kernel
theorem d_Mdl_compareTrees_245 : decode (mb M_Mdl_compareTrees) 245 = .ok (.isub, 1) := by decide +kernel
theorem d_Mdl_compareTrees_246 : decode (mb M_Mdl_compareTrees) 246 = .ok (.imul, 1) := by decide +kernel
theorem d_Mdl_compareTrees_247 : decode (mb M_Mdl_compareTrees) 247 = .ok (.aload_n 0, 1) := by decide +kernel
theorem d_Mdl_compareTrees_248 : decode (mb M_Mdl_compareTrees) 248 = .ok (.getfield 108, 3) := by decide +kernel
theorem d_Mdl_compareTrees_251 : decode (mb M_Mdl_compareTrees) 251 = .ok (.bipush 22, 2) := by decide +kernel
theorem d_Mdl_compareTrees_253 : decode (mb M_Mdl_compareTrees) 253 = .ok (.iload 6, 2) := by decide +kernel
theorem d_Mdl_compareTrees_255 : decode (mb M_Mdl_compareTrees) 255 = .ok (.iadd, 1) := by decide +kernel
theorem d_Mdl_compareTrees_256 : decode (mb M_Mdl_compareTrees) 256 = .ok (.iaload, 1) := by decide +kernel
theorem d_Mdl_compareTrees_257 : decode (mb M_Mdl_compareTrees) 257 = .ok (.iadd, 1) := by decide +kernel
theorem d_Mdl_compareTrees_258 : decode (mb M_Mdl_compareTrees) 258 = .ok (.iconst 1, 1) := by decide +kernel
theorem d_Mdl_compareTrees_259 : decode (mb M_Mdl_compareTrees) 259 = .ok (.isub, 1) := by decide +kernel
theorem d_Mdl_compareTrees_260 : decode (mb M_Mdl_compareTrees) 260 = .ok (.iaload, 1) := by decide +kernel
theorem d_Mdl_compareTrees_261 : decode (mb M_Mdl_compareTrees) 261 = .ok (.aload_n 0, 1) := by decide +kernel
theorem d_Mdl_compareTrees_262 : decode (mb M_Mdl_compareTrees) 262 = .ok (.getfield 114, 3) := by decide +kernel
theorem d_Mdl_compareTrees_265 : decode (mb M_Mdl_compareTrees) 265 = .ok (.bipush 22, 2) := by decide +kernel
theorem d_Mdl_compareTrees_267 : decode (mb M_Mdl_compareTrees) 267 = .ok (.iload 5, 2) := by decide +kernel
theorem d_Mdl_compareTrees_269 : decode (mb M_Mdl_compareTrees) 269 = .ok (.imul, 1) := by decide +kernel
theorem d_Mdl_compareTrees_270 : decode (mb M_Mdl_compareTrees) 270 = .ok (.iload 6, 2) := by decide +kernel
theorem d_Mdl_compareTrees_272 : decode (mb M_Mdl_compareTrees) 272 = .ok (.iadd, 1) := by decide +kernel
theorem d_Mdl_compareTrees_273 : decode (mb M_Mdl_compareTrees) 273 = .ok (.iaload, 1) := by decide +kernel
theorem d_Mdl_compareTrees_274 : decode (mb M_Mdl_compareTrees) 274 = .ok (.iadd, 1) := by decide +kernel
theorem d_Mdl_compareTrees_275 : decode (mb M_Mdl_compareTrees) 275 = .ok (.istore 8, 2) := by decide +kernel
theorem d_Mdl_compareTrees_277 : decode (mb M_Mdl_compareTrees) 277 = .ok (.aload_n 0, 1) := by decide +kernel
theorem d_Mdl_compareTrees_278 : decode (mb M_Mdl_compareTrees) 278 = .ok (.getfield 117, 3) := by decide +kernel
theorem d_Mdl_compareTrees_281 : decode (mb M_Mdl_compareTrees) 281 = .ok (.bipush 22, 2) := by decide +kernel
theorem d_Mdl_compareTrees_283 : decode (mb M_Mdl_compareTrees) 283 = .ok (.iload 5, 2) := by decide +kernel
theorem d_Mdl_compareTrees_285 : decode (mb M_Mdl_compareTrees) 285 = .ok (.imul, 1) := by decide +kernel
theorem d_Mdl_compareTrees_286 : decode (mb M_Mdl_compareTrees) 286 = .ok (.iload 6, 2) := by decide +kernel
theorem d_Mdl_compareTrees_288 : decode (mb M_Mdl_compareTrees) 288 = .ok (.iadd, 1) := by decide +kernel
theorem d_Mdl_compareTrees_289 : decode (mb M_Mdl_compareTrees) 289 = .ok (.aload_n 0, 1) := by decide +kernel
theorem d_Mdl_compareTrees_290 : decode (mb M_Mdl_compareTrees) 290 = .ok (.getfield 117, 3) := by decide +kernel
theorem d_Mdl_compareTrees_293 : decode (mb M_Mdl_compareTrees) 293 = .ok (.bipush 22, 2) := by decide +kernel
theorem d_Mdl_compareTrees_295 : decode (mb M_Mdl_compareTrees) 295 = .ok (.iload 5, 2) := by decide +kernel
theorem d_Mdl_compareTrees_297 : decode (mb M_Mdl_compareTrees) 297 = .ok (.iconst 1, 1) := by decide +kernel
theorem d_Mdl_compareTrees_298 : decode (mb M_Mdl_compareTrees) 298 = .ok (.isub, 1) := by decide +kernel
theorem d_Mdl_compareTrees_299 : decode (mb M_Mdl_compareTrees) 299 = .ok (.imul, 1) := by decide +kernel
theorem d_Mdl_compareTrees_300 : decode (mb M_Mdl_compareTrees) 300 = .ok (.iload 6, 2) := by decide +kernel
theorem d_Mdl_compareTrees_302 : decode (mb M_Mdl_compareTrees) 302 = .ok (.iadd, 1) := by decide +kernel
theorem d_Mdl_compareTrees_303 : decode (mb M_Mdl_compareTrees) 303 = .ok (.iaload, 1) := by decide +kernel
theorem d_Mdl_compareTrees_304 : decode (mb M_Mdl_compareTrees) 304 = .ok (.iconst 1, 1) := by decide +kernel
theorem d_Mdl_compareTrees_305 : decode (mb M_Mdl_compareTrees) 305 = .ok (.iadd, 1) := by decide +kernel
theorem d_Mdl_compareTrees_306 : decode (mb M_Mdl_compareTrees) 306 = .ok (.aload_n 0, 1) := by decide +kernel
theorem d_Mdl_compareTrees_307 : decode (mb M_Mdl_compareTrees) 307 = .ok (.getfield 117, 3) := by decide +kernel
theorem d_Mdl_compareTrees_310 : decode (mb M_Mdl_compareTrees) 310 = .ok (.bipush 22, 2) := by decide +kernel
theorem d_Mdl_compareTrees_312 : decode (mb M_Mdl_compareTrees) 312 = .ok (.iload 5, 2) := by decide +kernel
theorem d_Mdl_compareTrees_314 : decode (mb M_Mdl_compareTrees) 314 = .ok (.imul, 1) := by decide +kernel
theorem d_Mdl_compareTrees_315 : decode (mb M_Mdl_compareTrees) 315 = .ok (.iload 6, 2) := by decide +kernel
theorem d_Mdl_compareTrees_317 : decode (mb M_Mdl_compareTrees) 317 = .ok (.iadd, 1) := by decide +kernel
theorem d_Mdl_compareTrees_318 : decode (mb M_Mdl_compareTrees) 318 = .ok (.iconst 1, 1) := by decide +kernel
theorem d_Mdl_compareTrees_319 : decode (mb M_Mdl_compareTrees) 319 = .ok (.isub, 1) := by decide +kernel
theorem d_Mdl_compareTrees_320 : decode (mb M_Mdl_compareTrees) 320 = .ok (.iaload, 1) := by decide +kernel
theorem d_Mdl_compareTrees_321 : decode (mb M_Mdl_compareTrees) 321 = .ok (.iconst 1, 1) := by decide +kernel
theorem d_Mdl_compareTrees_322 : decode (mb M_Mdl_compareTrees) 322 = .ok (.iadd, 1) := by decide +kernel
theorem d_Mdl_compareTrees_323 : decode (mb M_Mdl_compareTrees) 323 = .ok (.iload 8, 2) := by decide +kernel
theorem d_Mdl_compareTrees_325 : decode (mb M_Mdl_compareTrees) 325 = .ok (.invokestatic 278, 3) := by decide +kernel
theorem d_Mdl_compareTrees_328 : decode (mb M_Mdl_compareTrees) 328 = .ok (.iastore, 1) := by decide +kernel
theorem d_Mdl_compareTrees_329 : decode (mb M_Mdl_compareTrees) 329 = .ok (.aload_n 0, 1) := by decide +kernel
theorem d_Mdl_compareTrees_330 : decode (mb M_Mdl_compareTrees) 330 = .ok (.getfield 114, 3) := by decide +kernel
theorem d_Mdl_compareTrees_333 : decode (mb M_Mdl_compareTrees) 333 = .ok (.bipush 22, 2) := by decide +kernel
theorem d_Mdl_compareTrees_335 : decode (mb M_Mdl_compareTrees) 335 = .ok (.iload 5, 2) := by decide +kernel
theorem d_Mdl_compareTrees_337 : decode (mb M_Mdl_compareTrees) 337 = .ok (.imul, 1) := by decide +kernel
theorem d_Mdl_compareTrees_338 : decode (mb M_Mdl_compareTrees) 338 = .ok (.iload 6, 2) := by decide +kernel
theorem d_Mdl_compareTrees_340 : decode (mb M_Mdl_compareTrees) 340 = .ok (.iadd, 1) := by decide +kernel
theorem d_Mdl_compareTrees_341 : decode (mb M_Mdl_compareTrees) 341 = .ok (.iload 7, 2) := by decide +kernel
theorem d_Mdl_compareTrees_343 : decode (mb M_Mdl_compareTrees) 343 = .ok (.ifCond .eq 19, 3) := by decide +kernel
theorem d_Mdl_compareTrees_346 : decode (mb M_Mdl_compareTrees) 346 = .ok (.aload_n 0, 1) := by decide +kernel
theorem d_Mdl_compareTrees_347 : decode (mb M_Mdl_compareTrees) 347 = .ok (.getfield 117, 3) := by decide +kernel
theorem d_Mdl_compareTrees_350 : decode (mb M_Mdl_compareTrees) 350 = .ok (.bipush 22, 2) := by decide +kernel
theorem d_Mdl_compareTrees_352 : decode (mb M_Mdl_compareTrees) 352 = .ok (.iload 5, 2) := by decide +kernel
theorem d_Mdl_compareTrees_354 : decode (mb M_Mdl_compareTrees) 354 = .ok (.imul, 1) := by decide +kernel
theorem d_Mdl_compareTrees_355 : decode (mb M_Mdl_compareTrees) 355 = .ok (.iload 6, 2) := by decide +kernel
theorem d_Mdl_compareTrees_357 : decode (mb M_Mdl_compareTrees) 357 = .ok (.iadd, 1) := by decide +kernel
theorem d_Mdl_compareTrees_358 : decode (mb M_Mdl_compareTrees) 358 = .ok (.iaload, 1) := by decide +kernel
theorem d_Mdl_compareTrees_359 : decode (mb M_Mdl_compareTrees) 359 = .ok (.goto 16, 3) := by decide +kernel
theorem d_Mdl_compareTrees_362 : decode (mb M_Mdl_compareTrees) 362 = .ok (.aload_n 0, 1) := by decide +kernel
theorem d_Mdl_compareTrees_363 : decode (mb M_Mdl_compareTrees) 363 = .ok (.getfield 114, 3) := by decide +kernel
theorem d_Mdl_compareTrees_366 : decode (mb M_Mdl_compareTrees) 366 = .ok (.bipush 22, 2) := by decide +kernel
theorem d_Mdl_compareTrees_368 : decode (mb M_Mdl_compareTrees) 368 = .ok (.iload 5, 2) := by decide +kernel
theorem d_Mdl_compareTrees_370 : decode (mb M_Mdl_compareTrees) 370 = .ok (.imul, 1) := by decide +kernel
theorem d_Mdl_compareTrees_371 : decode (mb M_Mdl_compareTrees) 371 = .ok (.iload 6, 2) := by decide +kernel
theorem d_Mdl_compareTrees_373 : decode (mb M_Mdl_compareTrees) 373 = .ok (.iadd, 1) := by decide +kernel
theorem d_Mdl_compareTrees_374 : decode (mb M_Mdl_compareTrees) 374 = .ok (.iaload, 1) := by decide +kernel
theorem d_Mdl_compareTrees_375 : decode (mb M_Mdl_compareTrees) 375 = .ok (.iastore, 1) := by decide +kernel
theorem d_Mdl_compareTrees_376 : decode (mb M_Mdl_compareTrees) 376 = .ok (.iinc 6 1, 3) := by decide +kernel
theorem d_Mdl_compareTrees_379 : decode (mb M_Mdl_compareTrees) 379 = .ok (.goto (-234), 3) := by decide +kernel
theorem d_Mdl_compareTrees_382 : decode (mb M_Mdl_compareTrees) 382 = .ok (.iinc 5 1, 3) := by decide +kernel
theorem d_Mdl_compareTrees_385 : decode (mb M_Mdl_compareTrees) 385 = .ok (.goto (-250), 3) := by decide +kernel
theorem d_Mdl_compareTrees_388 : decode (mb M_Mdl_compareTrees) 388 = .ok (.return_, 1) := by decide +kernel
theorem d_Mdl_conflicts_0 : decode (mb M_Mdl_conflicts) 0 = .ok (.iconst 0, 1) := by decide +kernel
theorem d_Mdl_conflicts_1 : decode (mb M_Mdl_conflicts) 1 = .ok (.istore_n 1, 1) := by decide +kernel
theorem d_Mdl_conflicts_2 : decode (mb M_Mdl_conflicts) 2 = .ok (.iconst 0, 1) := by decide +kernel
theorem d_Mdl_conflicts_3 : decode (mb M_Mdl_conflicts) 3 = .ok (.istore_n 2, 1) := by decide +kernel
theorem d_Mdl_conflicts_4 : decode (mb M_Mdl_conflicts) 4 = .ok (.iload_n 2, 1) := by decide +kernel
theorem d_Mdl_conflicts_5 : decode (mb M_Mdl_conflicts) 5 = .ok (.aload_n 0, 1) := by decide +kernel
theorem d_Mdl_conflicts_6 : decode (mb M_Mdl_conflicts) 6 = .ok (.getfield 185, 3) := by decide +kernel
theorem d_Mdl_conflicts_9 : decode (mb M_Mdl_conflicts) 9 = .ok (.if_icmp .ge 35, 3) := by decide +kernel
theorem d_Mdl_conflicts_12 : decode (mb M_Mdl_conflicts) 12 = .ok (.aload_n 0, 1) := by decide +kernel
theorem d_Mdl_conflicts_13 : decode (mb M_Mdl_conflicts) 13 = .ok (.getfield 178, 3) := by decide +kernel
theorem d_Mdl_conflicts_16 : decode (mb M_Mdl_conflicts) 16 = .ok (.ifCond .eq 28, 3) := by decide +kernel
theorem d_Mdl_conflicts_19 : decode (mb M_Mdl_conflicts) 19 = .ok (.iload_n 1, 1) := by decide +kernel
theorem d_Mdl_conflicts_20 : decode (mb M_Mdl_conflicts) 20 = .ok (.aload_n 0, 1) := by decide +kernel
theorem d_Mdl_conflicts_21 : decode (mb M_Mdl_conflicts) 21 = .ok (.getfield 188, 3) := by decide +kernel
theorem d_Mdl_conflicts_24 : decode (mb M_Mdl_conflicts) 24 = .ok (.iload_n 2, 1) := by decide +kernel
theorem d_Mdl_conflicts_25 : decode (mb M_Mdl_conflicts) 25 = .ok (.ishr, 1) := by decide +kernel
theorem d_Mdl_conflicts_26 : decode (mb M_Mdl_conflicts) 26 = .ok (.iconst 1, 1) := by decide +kernel
theorem d_Mdl_conflicts_27 : decode (mb M_Mdl_conflicts) 27 = .ok (.iand, 1) := by decide +kernel
theorem d_Mdl_conflicts_28 : decode (mb M_Mdl_conflicts) 28 = .ok (.ifCond .ne 7, 3) := by decide +kernel
theorem d_Mdl_conflicts_31 : decode (mb M_Mdl_conflicts) 31 = .ok (.iconst 1, 1) := by decide +kernel
theorem d_Mdl_conflicts_32 : decode (mb M_Mdl_conflicts) 32 = .ok (.goto 4, 3) := by decide +kernel
theorem d_Mdl_conflicts_35 : decode (mb M_Mdl_conflicts) 35 = .ok (.iconst 0, 1) := by decide +kernel
theorem d_Mdl_conflicts_36 : decode (mb M_Mdl_conflicts) 36 = .ok (.iadd, 1) := by decide +kernel
theorem d_Mdl_conflicts_37 : decode (mb M_Mdl_conflicts) 37 = .ok (.istore_n 1, 1) := by decide +kernel
theorem d_Mdl_conflicts_38 : decode (mb M_Mdl_conflicts) 38 = .ok (.iinc 2 1, 3) := by decide +kernel
theorem d_Mdl_conflicts_41 : decode (mb M_Mdl_conflicts) 41 = .ok (.goto (-37), 3) := by decide +kernel
theorem d_Mdl_conflicts_44 : decode (mb M_Mdl_conflicts) 44 = .ok (.aload_n 0, 1) := by decide +kernel
theorem d_Mdl_conflicts_45 : decode (mb M_Mdl_conflicts) 45 = .ok (.iload_n 1, 1) := by decide +kernel
theorem d_Mdl_conflicts_46 : decode (mb M_Mdl_conflicts) 46 = .ok (.invokevirtual 222, 3) := by decide +kernel
theorem d_Mdl_conflicts_49 : decode (mb M_Mdl_conflicts) 49 = .ok (.ireturn, 1) := by decide +kernel
theorem d_Mdl_depth_0 : decode (mb M_Mdl_depth) 0 = .ok (.iconst 0, 1) := by decide +kernel
theorem d_Mdl_depth_1 : decode (mb M_Mdl_depth) 1 = .ok (.istore_n 2, 1) := by decide +kernel
theorem d_Mdl_depth_2 : decode (mb M_Mdl_depth) 2 = .ok (.lload_n 0, 1) := by decide +kernel
theorem d_Mdl_depth_3 : decode (mb M_Mdl_depth) 3 = .ok (.iload_n 2, 1) := by decide +kernel
theorem d_Mdl_depth_4 : decode (mb M_Mdl_depth) 4 = .ok (.invokestatic 136, 3) := by decide +kernel
theorem d_Mdl_depth_7 : decode (mb M_Mdl_depth) 7 = .ok (.bipush 32, 2) := by decide +kernel
theorem d_Mdl_depth_9 : decode (mb M_Mdl_depth) 9 = .ok (.if_icmp .ne 9, 3) := by decide +kernel
theorem d_Mdl_depth_12 : decode (mb M_Mdl_depth) 12 = .ok (.iinc 2 1, 3) := by decide +kernel
theorem d_Mdl_depth_15 : decode (mb M_Mdl_depth) 15 = .ok (.goto (-13), 3) := by decide +kernel
theorem d_Mdl_depth_18 : decode (mb M_Mdl_depth) 18 = .ok (.iload_n 2, 1) := by decide +kernel
theorem d_Mdl_depth_19 : decode (mb M_Mdl_depth) 19 = .ok (.ireturn, 1) := by decide +kernel
theorem d_Mdl_draftLine_0 : decode (mb M_Mdl_draftLine) 0 = .ok (.aload_n 0, 1) := by decide +kernel
theorem d_Mdl_draftLine_1 : decode (mb M_Mdl_draftLine) 1 = .ok (.aload_n 0, 1) := by decide +kernel
theorem d_Mdl_draftLine_2 : decode (mb M_Mdl_draftLine) 2 = .ok (.iload_n 1, 1) := by decide +kernel
theorem d_Mdl_draftLine_3 : decode (mb M_Mdl_draftLine) 3 = .ok (.invokevirtual 215, 3) := by decide +kernel
theorem d_Mdl_draftLine_6 : decode (mb M_Mdl_draftLine) 6 = .ok (.ifCond .eq 7, 3) := by decide +kernel
theorem d_Mdl_draftLine_9 : decode (mb M_Mdl_draftLine) 9 = .ok (.iconst 0, 1) := by decide +kernel
theorem d_Mdl_draftLine_10 : decode (mb M_Mdl_draftLine) 10 = .ok (.goto 4, 3) := by decide +kernel
theorem d_Mdl_draftLine_13 : decode (mb M_Mdl_draftLine) 13 = .ok (.iconst 1, 1) := by decide +kernel
theorem d_Mdl_draftLine_14 : decode (mb M_Mdl_draftLine) 14 = .ok (.invokevirtual 151, 3) := by decide +kernel
theorem d_Mdl_draftLine_17 : decode (mb M_Mdl_draftLine) 17 = .ok (.ifCond .eq 5, 3) := by decide +kernel
theorem d_Mdl_draftLine_20 : decode (mb M_Mdl_draftLine) 20 = .ok (.lconst 0, 1) := by decide +kernel
theorem d_Mdl_draftLine_21 : decode (mb M_Mdl_draftLine) 21 = .ok (.lreturn, 1) := by decide +kernel
theorem d_Mdl_draftLine_22 : decode (mb M_Mdl_draftLine) 22 = .ok (.iconst 0, 1) := by decide +kernel
theorem d_Mdl_draftLine_23 : decode (mb M_Mdl_draftLine) 23 = .ok (.istore_n 2, 1) := by decide +kernel
theorem d_Mdl_draftLine_24 : decode (mb M_Mdl_draftLine) 24 = .ok (.lconst 0, 1) := by decide +kernel
theorem d_Mdl_draftLine_25 : decode (mb M_Mdl_draftLine) 25 = .ok (.lstore_n 3, 1) := by decide +kernel
theorem d_Mdl_draftLine_26 : decode (mb M_Mdl_draftLine) 26 = .ok (.iconst 0, 1) := by decide +kernel
theorem d_Mdl_draftLine_27 : decode (mb M_Mdl_draftLine) 27 = .ok (.istore 5, 2) := by decide +kernel
theorem d_Mdl_draftLine_29 : decode (mb M_Mdl_draftLine) 29 = .ok (.iload 5, 2) := by decide +kernel
theorem d_Mdl_draftLine_31 : decode (mb M_Mdl_draftLine) 31 = .ok (.aload_n 0, 1) := by decide +kernel
theorem d_Mdl_draftLine_32 : decode (mb M_Mdl_draftLine) 32 = .ok (.getfield 194, 3) := by decide +kernel
theorem d_Mdl_draftLine_35 : decode (mb M_Mdl_draftLine) 35 = .ok (.if_icmp .ge 59, 3) := by decide +kernel
theorem d_Mdl_draftLine_38 : decode (mb M_Mdl_draftLine) 38 = .ok (.aload_n 0, 1) := by decide +kernel
theorem d_Mdl_draftLine_39 : decode (mb M_Mdl_draftLine) 39 = .ok (.getfield 35, 3) := by decide +kernel
theorem d_Mdl_draftLine_42 : decode (mb M_Mdl_draftLine) 42 = .ok (.iload 5, 2) := by decide +kernel
theorem d_Mdl_draftLine_44 : decode (mb M_Mdl_draftLine) 44 = .ok (.iaload, 1) := by decide +kernel
theorem d_Mdl_draftLine_45 : decode (mb M_Mdl_draftLine) 45 = .ok (.ifCond .lt 23, 3) := by decide +kernel
theorem d_Mdl_draftLine_48 : decode (mb M_Mdl_draftLine) 48 = .ok (.iload_n 2, 1) := by decide +kernel
theorem d_Mdl_draftLine_49 : decode (mb M_Mdl_draftLine) 49 = .ok (.iload_n 1, 1) := by decide +kernel
theorem d_Mdl_draftLine_50 : decode (mb M_Mdl_draftLine) 50 = .ok (.if_icmp .ne 18, 3) := by decide +kernel
theorem d_Mdl_draftLine_53 : decode (mb M_Mdl_draftLine) 53 = .ok (.aload_n 0, 1) := by decide +kernel
theorem d_Mdl_draftLine_54 : decode (mb M_Mdl_draftLine) 54 = .ok (.getfield 7, 3) := by decide +kernel
theorem d_Mdl_draftLine_57 : decode (mb M_Mdl_draftLine) 57 = .ok (.aload_n 0, 1) := by decide +kernel
theorem d_Mdl_draftLine_58 : decode (mb M_Mdl_draftLine) 58 = .ok (.getfield 35, 3) := by decide +kernel
theorem d_Mdl_draftLine_61 : decode (mb M_Mdl_draftLine) 61 = .ok (.iload 5, 2) := by decide +kernel
theorem d_Mdl_draftLine_63 : decode (mb M_Mdl_draftLine) 63 = .ok (.iaload, 1) := by decide +kernel
theorem d_Mdl_draftLine_64 : decode (mb M_Mdl_draftLine) 64 = .ok (.laload, 1) := by decide +kernel
theorem d_Mdl_draftLine_65 : decode (mb M_Mdl_draftLine) 65 = .ok (.goto 4, 3) := by decide +kernel
theorem d_Mdl_draftLine_68 : decode (mb M_Mdl_draftLine) 68 = .ok (.lload_n 3, 1) := by decide +kernel
theorem d_Mdl_draftLine_69 : decode (mb M_Mdl_draftLine) 69 = .ok (.lstore_n 3, 1) := by decide +kernel
theorem d_Mdl_draftLine_70 : decode (mb M_Mdl_draftLine) 70 = .ok (.iload_n 2, 1) := by decide +kernel
theorem d_Mdl_draftLine_71 : decode (mb M_Mdl_draftLine) 71 = .ok (.aload_n 0, 1) := by decide +kernel
theorem d_Mdl_draftLine_72 : decode (mb M_Mdl_draftLine) 72 = .ok (.getfield 35, 3) := by decide +kernel
theorem d_Mdl_draftLine_75 : decode (mb M_Mdl_draftLine) 75 = .ok (.iload 5, 2) := by decide +kernel
theorem d_Mdl_draftLine_77 : decode (mb M_Mdl_draftLine) 77 = .ok (.iaload, 1) := by decide +kernel
theorem d_Mdl_draftLine_78 : decode (mb M_Mdl_draftLine) 78 = .ok (.ifCond .lt 7, 3) := by decide +kernel
theorem d_Mdl_draftLine_81 : decode (mb M_Mdl_draftLine) 81 = .ok (.iconst 1, 1) := by decide +kernel
theorem d_Mdl_draftLine_82 : decode (mb M_Mdl_draftLine) 82 = .ok (.goto 4, 3) := by decide +kernel
theorem d_Mdl_draftLine_85 : decode (mb M_Mdl_draftLine) 85 = .ok (.iconst 0, 1) := by decide +kernel
theorem d_Mdl_draftLine_86 : decode (mb M_Mdl_draftLine) 86 = .ok (.iadd, 1) := by decide +kernel
theorem d_Mdl_draftLine_87 : decode (mb M_Mdl_draftLine) 87 = .ok (.istore_n 2, 1) := by decide +kernel
theorem d_Mdl_draftLine_88 : decode (mb M_Mdl_draftLine) 88 = .ok (.iinc 5 1, 3) := by decide +kernel
theorem d_Mdl_draftLine_91 : decode (mb M_Mdl_draftLine) 91 = .ok (.goto (-62), 3) := by decide +kernel
theorem d_Mdl_draftLine_94 : decode (mb M_Mdl_draftLine) 94 = .ok (.lload_n 3, 1) := by decide +kernel
theorem d_Mdl_draftLine_95 : decode (mb M_Mdl_draftLine) 95 = .ok (.lreturn, 1) := by decide +kernel
theorem d_Mdl_draftLines_0 : decode (mb M_Mdl_draftLines) 0 = .ok (.aload_n 0, 1) := by decide +kernel
theorem d_Mdl_draftLines_1 : decode (mb M_Mdl_draftLines) 1 = .ok (.aload_n 0, 1) := by decide +kernel
theorem d_Mdl_draftLines_2 : decode (mb M_Mdl_draftLines) 2 = .ok (.getfield 178, 3) := by decide +kernel
theorem d_Mdl_draftLines_5 : decode (mb M_Mdl_draftLines) 5 = .ok (.ifCond .eq 10, 3) := by decide +kernel
theorem d_Mdl_draftLines_8 : decode (mb M_Mdl_draftLines) 8 = .ok (.aload_n 0, 1) := by decide +kernel
theorem d_Mdl_draftLines_9 : decode (mb M_Mdl_draftLines) 9 = .ok (.invokevirtual 197, 3) := by decide +kernel
theorem d_Mdl_draftLines_12 : decode (mb M_Mdl_draftLines) 12 = .ok (.goto 4, 3) := by decide +kernel
theorem d_Mdl_draftLines_15 : decode (mb M_Mdl_draftLines) 15 = .ok (.iconst (-1), 1) := by decide +kernel
theorem d_Mdl_draftLines_16 : decode (mb M_Mdl_draftLines) 16 = .ok (.invokevirtual 222, 3) := by decide +kernel
theorem d_Mdl_draftLines_19 : decode (mb M_Mdl_draftLines) 19 = .ok (.ireturn, 1) := by decide +kernel
theorem d_Mdl_exchange_0 : decode (mb M_Mdl_exchange) 0 = .ok (.iload_n 2, 1) := by decide +kernel
theorem d_Mdl_exchange_1 : decode (mb M_Mdl_exchange) 1 = .ok (.aload_n 0, 1) := by decide +kernel
theorem d_Mdl_exchange_2 : decode (mb M_Mdl_exchange) 2 = .ok (.getfield 68, 3) := by decide +kernel
theorem d_Mdl_exchange_5 : decode (mb M_Mdl_exchange) 5 = .ok (.iconst 4, 1) := by decide +kernel
theorem d_Mdl_exchange_6 : decode (mb M_Mdl_exchange) 6 = .ok (.iload_n 1, 1) := by decide +kernel
theorem d_Mdl_exchange_7 : decode (mb M_Mdl_exchange) 7 = .ok (.imul, 1) := by decide +kernel
theorem d_Mdl_exchange_8 : decode (mb M_Mdl_exchange) 8 = .ok (.iaload, 1) := by decide +kernel
theorem d_Mdl_exchange_9 : decode (mb M_Mdl_exchange) 9 = .ok (.iadd, 1) := by decide +kernel
theorem d_Mdl_exchange_10 : decode (mb M_Mdl_exchange) 10 = .ok (.istore 4, 2) := by decide +kernel
theorem d_Mdl_exchange_12 : decode (mb M_Mdl_exchange) 12 = .ok (.iload_n 3, 1) := by decide +kernel
theorem d_Mdl_exchange_13 : decode (mb M_Mdl_exchange) 13 = .ok (.ifCond .le 43, 3) := by decide +kernel
theorem d_Mdl_exchange_16 : decode (mb M_Mdl_exchange) 16 = .ok (.aload_n 0, 1) := by decide +kernel
theorem d_Mdl_exchange_17 : decode (mb M_Mdl_exchange) 17 = .ok (.getfield 327, 3) := by decide +kernel
theorem d_Mdl_exchange_20 : decode (mb M_Mdl_exchange) 20 = .ok (.iconst 1, 1) := by decide +kernel
theorem d_Mdl_exchange_21 : decode (mb M_Mdl_exchange) 21 = .ok (.isub, 1) := by decide +kernel
theorem d_Mdl_exchange_22 : decode (mb M_Mdl_exchange) 22 = .ok (.istore 5, 2) := by decide +kernel
theorem d_Mdl_exchange_24 : decode (mb M_Mdl_exchange) 24 = .ok (.iload 5, 2) := by decide +kernel
theorem d_Mdl_exchange_26 : decode (mb M_Mdl_exchange) 26 = .ok (.iload 4, 2) := by decide +kernel
theorem d_Mdl_exchange_28 : decode (mb M_Mdl_exchange) 28 = .ok (.if_icmp .lt 25, 3) := by decide +kernel
theorem d_Mdl_exchange_31 : decode (mb M_Mdl_exchange) 31 = .ok (.aload_n 0, 1) := by decide +kernel
theorem d_Mdl_exchange_32 : decode (mb M_Mdl_exchange) 32 = .ok (.getfield 120, 3) := by decide +kernel
theorem d_Mdl_exchange_35 : decode (mb M_Mdl_exchange) 35 = .ok (.iload 5, 2) := by decide +kernel
theorem d_Mdl_exchange_37 : decode (mb M_Mdl_exchange) 37 = .ok (.iload_n 3, 1) := by decide +kernel
theorem d_Mdl_exchange_38 : decode (mb M_Mdl_exchange) 38 = .ok (.iadd, 1) := by decide +kernel
theorem d_Mdl_exchange_39 : decode (mb M_Mdl_exchange) 39 = .ok (.aload_n 0, 1) := by decide +kernel
theorem d_Mdl_exchange_40 : decode (mb M_Mdl_exchange) 40 = .ok (.getfield 120, 3) := by decide +kernel
theorem d_Mdl_exchange_43 : decode (mb M_Mdl_exchange) 43 = .ok (.iload 5, 2) := by decide +kernel
theorem d_Mdl_exchange_45 : decode (mb M_Mdl_exchange) 45 = .ok (.iaload, 1) := by decide +kernel
theorem d_Mdl_exchange_46 : decode (mb M_Mdl_exchange) 46 = .ok (.iastore, 1) := by decide +kernel
theorem d_Mdl_exchange_47 : decode (mb M_Mdl_exchange) 47 = .ok (.iinc 5 (-1), 3) := by decide +kernel
theorem d_Mdl_exchange_50 : decode (mb M_Mdl_exchange) 50 = .ok (.goto (-26), 3) := by decide +kernel
theorem d_Mdl_exchange_53 : decode (mb M_Mdl_exchange) 53 = .ok (.goto 38, 3) := by decide +kernel
theorem d_Mdl_exchange_56 : decode (mb M_Mdl_exchange) 56 = .ok (.iload 4, 2) := by decide +kernel
theorem d_Mdl_exchange_58 : decode (mb M_Mdl_exchange) 58 = .ok (.istore 5, 2) := by decide +kernel
theorem d_Mdl_exchange_60 : decode (mb M_Mdl_exchange) 60 = .ok (.iload 5, 2) := by decide +kernel
theorem d_Mdl_exchange_62 : decode (mb M_Mdl_exchange) 62 = .ok (.aload_n 0, 1) := by decide +kernel
theorem d_Mdl_exchange_63 : decode (mb M_Mdl_exchange) 63 = .ok (.getfield 327, 3) := by decide +kernel
theorem d_Mdl_exchange_66 : decode (mb M_Mdl_exchange) 66 = .ok (.if_icmp .ge 25, 3) := by decide +kernel
theorem d_Mdl_exchange_69 : decode (mb M_Mdl_exchange) 69 = .ok (.aload_n 0, 1) := by decide +kernel
theorem d_Mdl_exchange_70 : decode (mb M_Mdl_exchange) 70 = .ok (.getfield 120, 3) := by decide +kernel
theorem d_Mdl_exchange_73 : decode (mb M_Mdl_exchange) 73 = .ok (.iload 5, 2) := by decide +kernel
theorem d_Mdl_exchange_75 : decode (mb M_Mdl_exchange) 75 = .ok (.iload_n 3, 1) := by decide +kernel
theorem d_Mdl_exchange_76 : decode (mb M_Mdl_exchange) 76 = .ok (.iadd, 1) := by decide +kernel
theorem d_Mdl_exchange_77 : decode (mb M_Mdl_exchange) 77 = .ok (.aload_n 0, 1) := by decide +kernel
theorem d_Mdl_exchange_78 : decode (mb M_Mdl_exchange) 78 = .ok (.getfield 120, 3) := by decide +kernel
theorem d_Mdl_exchange_81 : decode (mb M_Mdl_exchange) 81 = .ok (.iload 5, 2) := by decide +kernel
theorem d_Mdl_exchange_83 : decode (mb M_Mdl_exchange) 83 = .ok (.iaload, 1) := by decide +kernel
theorem d_Mdl_exchange_84 : decode (mb M_Mdl_exchange) 84 = .ok (.iastore, 1) := by decide +kernel
theorem d_Mdl_exchange_85 : decode (mb M_Mdl_exchange) 85 = .ok (.iinc 5 1, 3) := by decide +kernel
theorem d_Mdl_exchange_88 : decode (mb M_Mdl_exchange) 88 = .ok (.goto (-28), 3) := by decide +kernel
theorem d_Mdl_exchange_91 : decode (mb M_Mdl_exchange) 91 = .ok (.aload_n 0, 1) := by decide +kernel
theorem d_Mdl_exchange_92 : decode (mb M_Mdl_exchange) 92 = .ok (.dup, 1) := by decide +kernel
theorem d_Mdl_exchange_93 : decode (mb M_Mdl_exchange) 93 = .ok (.getfield 327, 3) := by decide +kernel
theorem d_Mdl_exchange_96 : decode (mb M_Mdl_exchange) 96 = .ok (.iload_n 3, 1) := by decide +kernel
theorem d_Mdl_exchange_97 : decode (mb M_Mdl_exchange) 97 = .ok (.iadd, 1) := by decide +kernel
theorem d_Mdl_exchange_98 : decode (mb M_Mdl_exchange) 98 = .ok (.putfield 327, 3) := by decide +kernel
theorem d_Mdl_exchange_101 : decode (mb M_Mdl_exchange) 101 = .ok (.iconst 0, 1) := by decide +kernel
theorem d_Mdl_exchange_102 : decode (mb M_Mdl_exchange) 102 = .ok (.istore 5, 2) := by decide +kernel
theorem d_Mdl_exchange_104 : decode (mb M_Mdl_exchange) 104 = .ok (.iload 5, 2) := by decide +kernel
theorem d_Mdl_exchange_106 : decode (mb M_Mdl_exchange) 106 = .ok (.aload_n 0, 1) := by decide +kernel
theorem d_Mdl_exchange_107 : decode (mb M_Mdl_exchange) 107 = .ok (.getfield 68, 3) := by decide +kernel
theorem d_Mdl_exchange_110 : decode (mb M_Mdl_exchange) 110 = .ok (.iconst 4, 1) := by decide +kernel
theorem d_Mdl_exchange_111 : decode (mb M_Mdl_exchange) 111 = .ok (.iload_n 1, 1) := by decide +kernel
theorem d_Mdl_exchange_112 : decode (mb M_Mdl_exchange) 112 = .ok (.imul, 1) := by decide +kernel
theorem d_Mdl_exchange_113 : decode (mb M_Mdl_exchange) 113 = .ok (.iconst 1, 1) := by decide +kernel
theorem d_Mdl_exchange_114 : decode (mb M_Mdl_exchange) 114 = .ok (.iadd, 1) := by decide +kernel
theorem d_Mdl_exchange_115 : decode (mb M_Mdl_exchange) 115 = .ok (.iaload, 1) := by decide +kernel
theorem d_Mdl_exchange_116 : decode (mb M_Mdl_exchange) 116 = .ok (.if_icmp .ge 37, 3) := by decide +kernel
theorem d_Mdl_exchange_119 : decode (mb M_Mdl_exchange) 119 = .ok (.aload_n 0, 1) := by decide +kernel
theorem d_Mdl_exchange_120 : decode (mb M_Mdl_exchange) 120 = .ok (.getfield 120, 3) := by decide +kernel
theorem d_Mdl_exchange_123 : decode (mb M_Mdl_exchange) 123 = .ok (.iload_n 2, 1) := by decide +kernel
theorem d_Mdl_exchange_124 : decode (mb M_Mdl_exchange) 124 = .ok (.iload 5, 2) := by decide +kernel
theorem d_Mdl_exchange_126 : decode (mb M_Mdl_exchange) 126 = .ok (.iadd, 1) := by decide +kernel
theorem d_Mdl_exchange_127 : decode (mb M_Mdl_exchange) 127 = .ok (.aload_n 0, 1) := by decide +kernel
theorem d_Mdl_exchange_128 : decode (mb M_Mdl_exchange) 128 = .ok (.aload_n 0, 1) := by decide +kernel
theorem d_Mdl_exchange_129 : decode (mb M_Mdl_exchange) 129 = .ok (.getfield 71, 3) := by decide +kernel
theorem d_Mdl_exchange_132 : decode (mb M_Mdl_exchange) 132 = .ok (.bipush 40, 2) := by decide +kernel
theorem d_Mdl_exchange_134 : decode (mb M_Mdl_exchange) 134 = .ok (.iload_n 1, 1) := by decide +kernel
theorem d_Mdl_exchange_135 : decode (mb M_Mdl_exchange) 135 = .ok (.imul, 1) := by decide +kernel
theorem d_Mdl_exchange_136 : decode (mb M_Mdl_exchange) 136 = .ok (.bipush 20, 2) := by decide +kernel
theorem d_Mdl_exchange_138 : decode (mb M_Mdl_exchange) 138 = .ok (.iadd, 1) := by decide +kernel
theorem d_Mdl_exchange_139 : decode (mb M_Mdl_exchange) 139 = .ok (.iload 5, 2) := by decide +kernel
theorem d_Mdl_exchange_141 : decode (mb M_Mdl_exchange) 141 = .ok (.iadd, 1) := by decide +kernel
theorem d_Mdl_exchange_142 : decode (mb M_Mdl_exchange) 142 = .ok (.laload, 1) := by decide +kernel
theorem d_Mdl_exchange_143 : decode (mb M_Mdl_exchange) 143 = .ok (.invokevirtual 208, 3) := by decide +kernel
theorem d_Mdl_exchange_146 : decode (mb M_Mdl_exchange) 146 = .ok (.iastore, 1) := by decide +kernel
theorem d_Mdl_exchange_147 : decode (mb M_Mdl_exchange) 147 = .ok (.iinc 5 1, 3) := by decide +kernel
theorem d_Mdl_exchange_150 : decode (mb M_Mdl_exchange) 150 = .ok (.goto (-46), 3) := by decide +kernel
theorem d_Mdl_exchange_153 : decode (mb M_Mdl_exchange) 153 = .ok (.return_, 1) := by decide +kernel
theorem d_Mdl_family_0 : decode (mb M_Mdl_family) 0 = .ok (.lconst 1, 1) := by decide +kernel
theorem d_Mdl_family_1 : decode (mb M_Mdl_family) 1 = .ok (.iload_n 1, 1) := by decide +kernel
theorem d_Mdl_family_2 : decode (mb M_Mdl_family) 2 = .ok (.lshl, 1) := by decide +kernel
theorem d_Mdl_family_3 : decode (mb M_Mdl_family) 3 = .ok (.lstore_n 2, 1) := by decide +kernel
theorem d_Mdl_family_4 : decode (mb M_Mdl_family) 4 = .ok (.iload_n 1, 1) := by decide +kernel
theorem d_Mdl_family_5 : decode (mb M_Mdl_family) 5 = .ok (.istore 4, 2) := by decide +kernel
theorem d_Mdl_family_7 : decode (mb M_Mdl_family) 7 = .ok (.iload 4, 2) := by decide +kernel
theorem d_Mdl_family_9 : decode (mb M_Mdl_family) 9 = .ok (.ifCond .le 59, 3) := by decide +kernel
theorem d_Mdl_family_12 : decode (mb M_Mdl_family) 12 = .ok (.lload_n 2, 1) := by decide +kernel
theorem d_Mdl_family_13 : decode (mb M_Mdl_family) 13 = .ok (.iload 4, 2) := by decide +kernel
theorem d_Mdl_family_15 : decode (mb M_Mdl_family) 15 = .ok (.lshr, 1) := by decide +kernel
theorem d_Mdl_family_16 : decode (mb M_Mdl_family) 16 = .ok (.lconst 1, 1) := by decide +kernel
theorem d_Mdl_family_17 : decode (mb M_Mdl_family) 17 = .ok (.land, 1) := by decide +kernel
theorem d_Mdl_family_18 : decode (mb M_Mdl_family) 18 = .ok (.lconst 1, 1) := by decide +kernel
theorem d_Mdl_family_19 : decode (mb M_Mdl_family) 19 = .ok (.lcmp, 1) := by decide +kernel
theorem d_Mdl_family_20 : decode (mb M_Mdl_family) 20 = .ok (.ifCond .ne 42, 3) := by decide +kernel
theorem d_Mdl_family_23 : decode (mb M_Mdl_family) 23 = .ok (.lload_n 2, 1) := by decide +kernel
theorem d_Mdl_family_24 : decode (mb M_Mdl_family) 24 = .ok (.lconst 1, 1) := by decide +kernel
theorem d_Mdl_family_25 : decode (mb M_Mdl_family) 25 = .ok (.aload_n 0, 1) := by decide +kernel
theorem d_Mdl_family_26 : decode (mb M_Mdl_family) 26 = .ok (.getfield 29, 3) := by decide +kernel
theorem d_Mdl_family_29 : decode (mb M_Mdl_family) 29 = .ok (.iload 4, 2) := by decide +kernel
theorem d_Mdl_family_31 : decode (mb M_Mdl_family) 31 = .ok (.iaload, 1) := by decide +kernel
theorem d_Mdl_family_32 : decode (mb M_Mdl_family) 32 = .ok (.lshl, 1) := by decide +kernel
theorem d_Mdl_family_33 : decode (mb M_Mdl_family) 33 = .ok (.lor, 1) := by decide +kernel
theorem d_Mdl_family_34 : decode (mb M_Mdl_family) 34 = .ok (.lstore_n 2, 1) := by decide +kernel
theorem d_Mdl_family_35 : decode (mb M_Mdl_family) 35 = .ok (.lload_n 2, 1) := by decide +kernel
theorem d_Mdl_family_36 : decode (mb M_Mdl_family) 36 = .ok (.aload_n 0, 1) := by decide +kernel
theorem d_Mdl_family_37 : decode (mb M_Mdl_family) 37 = .ok (.getfield 32, 3) := by decide +kernel
theorem d_Mdl_family_40 : decode (mb M_Mdl_family) 40 = .ok (.iload 4, 2) := by decide +kernel
theorem d_Mdl_family_42 : decode (mb M_Mdl_family) 42 = .ok (.iaload, 1) := by decide +kernel
theorem d_Mdl_family_43 : decode (mb M_Mdl_family) 43 = .ok (.iconst (-1), 1) := by decide +kernel
theorem d_Mdl_family_44 : decode (mb M_Mdl_family) 44 = .ok (.if_icmp .ne 7, 3) := by decide +kernel
theorem d_Mdl_family_47 : decode (mb M_Mdl_family) 47 = .ok (.lconst 0, 1) := by decide +kernel
theorem d_Mdl_family_48 : decode (mb M_Mdl_family) 48 = .ok (.goto 12, 3) := by decide +kernel
theorem d_Mdl_family_51 : decode (mb M_Mdl_family) 51 = .ok (.lconst 1, 1) := by decide +kernel
theorem d_Mdl_family_52 : decode (mb M_Mdl_family) 52 = .ok (.aload_n 0, 1) := by decide +kernel
theorem d_Mdl_family_53 : decode (mb M_Mdl_family) 53 = .ok (.getfield 32, 3) := by decide +kernel
theorem d_Mdl_family_56 : decode (mb M_Mdl_family) 56 = .ok (.iload 4, 2) := by decide +kernel
theorem d_Mdl_family_58 : decode (mb M_Mdl_family) 58 = .ok (.iaload, 1) := by decide +kernel
theorem d_Mdl_family_59 : decode (mb M_Mdl_family) 59 = .ok (.lshl, 1) := by decide +kernel
theorem d_Mdl_family_60 : decode (mb M_Mdl_family) 60 = .ok (.lor, 1) := by decide +kernel
theorem d_Mdl_family_61 : decode (mb M_Mdl_family) 61 = .ok (.lstore_n 2, 1) := by decide +kernel
theorem d_Mdl_family_62 : decode (mb M_Mdl_family) 62 = .ok (.iinc 4 (-1), 3) := by decide +kernel
theorem d_Mdl_family_65 : decode (mb M_Mdl_family) 65 = .ok (.goto (-58), 3) := by decide +kernel
theorem d_Mdl_family_68 : decode (mb M_Mdl_family) 68 = .ok (.lload_n 2, 1) := by decide +kernel
theorem d_Mdl_family_69 : decode (mb M_Mdl_family) 69 = .ok (.lreturn, 1) := by decide +kernel
theorem d_Mdl_find_0 : decode (mb M_Mdl_find) 0 = .ok (.iconst 0, 1) := by decide +kernel
theorem d_Mdl_find_1 : decode (mb M_Mdl_find) 1 = .ok (.istore 5, 2) := by decide +kernel
theorem d_Mdl_find_3 : decode (mb M_Mdl_find) 3 = .ok (.iload 5, 2) := by decide +kernel
theorem d_Mdl_find_5 : decode (mb M_Mdl_find) 5 = .ok (.iload_n 3, 1) := by decide +kernel
theorem d_Mdl_find_6 : decode (mb M_Mdl_find) 6 = .ok (.if_icmp .gt 68, 3) := by decide +kernel
theorem d_Mdl_find_9 : decode (mb M_Mdl_find) 9 = .ok (.iconst 0, 1) := by decide +kernel
theorem d_Mdl_find_10 : decode (mb M_Mdl_find) 10 = .ok (.istore 6, 2) := by decide +kernel
theorem d_Mdl_find_12 : decode (mb M_Mdl_find) 12 = .ok (.iload 6, 2) := by decide +kernel
theorem d_Mdl_find_14 : decode (mb M_Mdl_find) 14 = .ok (.sipush 128, 3) := by decide +kernel
theorem d_Mdl_find_17 : decode (mb M_Mdl_find) 17 = .ok (.if_icmp .ge 51, 3) := by decide +kernel
theorem d_Mdl_find_20 : decode (mb M_Mdl_find) 20 = .ok (.aload_n 0, 1) := by decide +kernel
theorem d_Mdl_find_21 : decode (mb M_Mdl_find) 21 = .ok (.iload_n 1, 1) := by decide +kernel
theorem d_Mdl_find_22 : decode (mb M_Mdl_find) 22 = .ok (.iload_n 2, 1) := by decide +kernel
theorem d_Mdl_find_23 : decode (mb M_Mdl_find) 23 = .ok (.iload 6, 2) := by decide +kernel
theorem d_Mdl_find_25 : decode (mb M_Mdl_find) 25 = .ok (.isub, 1) := by decide +kernel
theorem d_Mdl_find_26 : decode (mb M_Mdl_find) 26 = .ok (.iload 5, 2) := by decide +kernel
theorem d_Mdl_find_28 : decode (mb M_Mdl_find) 28 = .ok (.iload 4, 2) := by decide +kernel
theorem d_Mdl_find_30 : decode (mb M_Mdl_find) 30 = .ok (.invokevirtual 330, 3) := by decide +kernel
theorem d_Mdl_find_33 : decode (mb M_Mdl_find) 33 = .ok (.ifCond .eq 8, 3) := by decide +kernel
theorem d_Mdl_find_36 : decode (mb M_Mdl_find) 36 = .ok (.iload_n 2, 1) := by decide +kernel
theorem d_Mdl_find_37 : decode (mb M_Mdl_find) 37 = .ok (.iload 6, 2) := by decide +kernel
theorem d_Mdl_find_39 : decode (mb M_Mdl_find) 39 = .ok (.isub, 1) := by decide +kernel
theorem d_Mdl_find_40 : decode (mb M_Mdl_find) 40 = .ok (.ireturn, 1) := by decide +kernel
theorem d_Mdl_find_41 : decode (mb M_Mdl_find) 41 = .ok (.aload_n 0, 1) := by decide +kernel
theorem d_Mdl_find_42 : decode (mb M_Mdl_find) 42 = .ok (.iload_n 1, 1) := by decide +kernel
theorem d_Mdl_find_43 : decode (mb M_Mdl_find) 43 = .ok (.iload_n 2, 1) := by decide +kernel
theorem d_Mdl_find_44 : decode (mb M_Mdl_find) 44 = .ok (.iload 6, 2) := by decide +kernel
theorem d_Mdl_find_46 : decode (mb M_Mdl_find) 46 = .ok (.iadd, 1) := by decide +kernel
theorem d_Mdl_find_47 : decode (mb M_Mdl_find) 47 = .ok (.iload 5, 2) := by decide +kernel
theorem d_Mdl_find_49 : decode (mb M_Mdl_find) 49 = .ok (.iload 4, 2) := by decide +kernel
theorem d_Mdl_find_51 : decode (mb M_Mdl_find) 51 = .ok (.invokevirtual 330, 3) := by decide +kernel
theorem d_Mdl_find_54 : decode (mb M_Mdl_find) 54 = .ok (.ifCond .eq 8, 3) := by decide +kernel
theorem d_Mdl_find_57 : decode (mb M_Mdl_find) 57 = .ok (.iload_n 2, 1) := by decide +kernel
theorem d_Mdl_find_58 : decode (mb M_Mdl_find) 58 = .ok (.iload 6, 2) := by decide +kernel
theorem d_Mdl_find_60 : decode (mb M_Mdl_find) 60 = .ok (.iadd, 1) := by decide +kernel
theorem d_Mdl_find_61 : decode (mb M_Mdl_find) 61 = .ok (.ireturn, 1) := by decide +kernel
theorem d_Mdl_find_62 : decode (mb M_Mdl_find) 62 = .ok (.iinc 6 1, 3) := by decide +kernel
theorem d_Mdl_find_65 : decode (mb M_Mdl_find) 65 = .ok (.goto (-53), 3) := by decide +kernel
theorem d_Mdl_find_68 : decode (mb M_Mdl_find) 68 = .ok (.iinc 5 1, 3) := by decide +kernel
theorem d_Mdl_find_71 : decode (mb M_Mdl_find) 71 = .ok (.goto (-68), 3) := by decide +kernel
theorem d_Mdl_find_74 : decode (mb M_Mdl_find) 74 = .ok (.iconst (-1), 1) := by decide +kernel
theorem d_Mdl_find_75 : decode (mb M_Mdl_find) 75 = .ok (.ireturn, 1) := by decide +kernel
theorem d_Mdl_findMove_0 : decode (mb M_Mdl_findMove) 0 = .ok (.iconst 0, 1) := by decide +kernel
theorem d_Mdl_findMove_1 : decode (mb M_Mdl_findMove) 1 = .ok (.istore 4, 2) := by decide +kernel
theorem d_Mdl_findMove_3 : decode (mb M_Mdl_findMove) 3 = .ok (.iconst 0, 1) := by decide +kernel
theorem d_Mdl_findMove_4 : decode (mb M_Mdl_findMove) 4 = .ok (.istore 5, 2) := by decide +kernel
theorem d_Mdl_findMove_6 : decode (mb M_Mdl_findMove) 6 = .ok (.iconst 0, 1) := by decide +kernel
theorem d_Mdl_findMove_7 : decode (mb M_Mdl_findMove) 7 = .ok (.istore 6, 2) := by decide +kernel
theorem d_Mdl_findMove_9 : decode (mb M_Mdl_findMove) 9 = .ok (.iconst 0, 1) := by decide +kernel
theorem d_Mdl_findMove_10 : decode (mb M_Mdl_findMove) 10 = .ok (.istore 7, 2) := by decide +kernel
theorem d_Mdl_findMove_12 : decode (mb M_Mdl_findMove) 12 = .ok (.iload 7, 2) := by decide +kernel
theorem d_Mdl_findMove_14 : decode (mb M_Mdl_findMove) 14 = .ok (.aload_n 0, 1) := by decide +kernel
theorem d_Mdl_findMove_15 : decode (mb M_Mdl_findMove) 15 = .ok (.getfield 20, 3) := by decide +kernel
theorem d_Mdl_findMove_18 : decode (mb M_Mdl_findMove) 18 = .ok (.iload_n 1, 1) := by decide +kernel
theorem d_Mdl_findMove_19 : decode (mb M_Mdl_findMove) 19 = .ok (.iaload, 1) := by decide +kernel
theorem d_Mdl_findMove_20 : decode (mb M_Mdl_findMove) 20 = .ok (.if_icmp .ge 211, 3) := by decide +kernel
theorem d_Mdl_findMove_23 : decode (mb M_Mdl_findMove) 23 = .ok (.iconst 0, 1) := by decide +kernel
theorem d_Mdl_findMove_24 : decode (mb M_Mdl_findMove) 24 = .ok (.istore 8, 2) := by decide +kernel
theorem d_Mdl_findMove_26 : decode (mb M_Mdl_findMove) 26 = .ok (.iload 8, 2) := by decide +kernel
theorem d_Mdl_findMove_28 : decode (mb M_Mdl_findMove) 28 = .ok (.aload_n 0, 1) := by decide +kernel
theorem d_Mdl_findMove_29 : decode (mb M_Mdl_findMove) 29 = .ok (.getfield 20, 3) := by decide +kernel
theorem d_Mdl_findMove_32 : decode (mb M_Mdl_findMove) 32 = .ok (.iload_n 2, 1) := by decide +kernel
theorem d_Mdl_findMove_33 : decode (mb M_Mdl_findMove) 33 = .ok (.iaload, 1) := by decide +kernel
theorem d_Mdl_findMove_34 : decode (mb M_Mdl_findMove) 34 = .ok (.if_icmp .ge 191, 3) := by decide +kernel
theorem d_Mdl_findMove_37 : decode (mb M_Mdl_findMove) 37 = .ok (.iconst 0, 1) := by decide +kernel
theorem d_Mdl_findMove_38 : decode (mb M_Mdl_findMove) 38 = .ok (.istore 9, 2) := by decide +kernel
theorem d_Mdl_findMove_40 : decode (mb M_Mdl_findMove) 40 = .ok (.iload 7, 2) := by decide +kernel
theorem d_Mdl_findMove_42 : decode (mb M_Mdl_findMove) 42 = .ok (.iload 9, 2) := by decide +kernel
theorem d_Mdl_findMove_44 : decode (mb M_Mdl_findMove) 44 = .ok (.iadd, 1) := by decide +kernel
theorem d_Mdl_findMove_45 : decode (mb M_Mdl_findMove) 45 = .ok (.aload_n 0, 1) := by decide +kernel
theorem d_Mdl_findMove_46 : decode (mb M_Mdl_findMove) 46 = .ok (.getfield 20, 3) := by decide +kernel
theorem d_Mdl_findMove_49 : decode (mb M_Mdl_findMove) 49 = .ok (.iload_n 1, 1) := by decide +kernel
theorem d_Mdl_findMove_50 : decode (mb M_Mdl_findMove) 50 = .ok (.iaload, 1) := by decide +kernel
theorem d_Mdl_findMove_51 : decode (mb M_Mdl_findMove) 51 = .ok (.if_icmp .ge 101, 3) := by decide +kernel
theorem d_Mdl_findMove_54 : decode (mb M_Mdl_findMove) 54 = .ok (.iload 8, 2) := by decide +kernel
theorem d_Mdl_findMove_56 : decode (mb M_Mdl_findMove) 56 = .ok (.iload 9, 2) := by decide +kernel
theorem d_Mdl_findMove_58 : decode (mb M_Mdl_findMove) 58 = .ok (.iadd, 1) := by decide +kernel
theorem d_Mdl_findMove_59 : decode (mb M_Mdl_findMove) 59 = .ok (.aload_n 0, 1) := by decide +kernel
theorem d_Mdl_findMove_60 : decode (mb M_Mdl_findMove) 60 = .ok (.getfield 20, 3) := by decide +kernel
theorem d_Mdl_findMove_63 : decode (mb M_Mdl_findMove) 63 = .ok (.iload_n 2, 1) := by decide +kernel
theorem d_Mdl_findMove_64 : decode (mb M_Mdl_findMove) 64 = .ok (.iaload, 1) := by decide +kernel
theorem d_Mdl_findMove_65 : decode (mb M_Mdl_findMove) 65 = .ok (.if_icmp .ge 87, 3) := by decide +kernel
theorem d_Mdl_findMove_68 : decode (mb M_Mdl_findMove) 68 = .ok (.aload_n 0, 1) := by decide +kernel
theorem d_Mdl_findMove_69 : decode (mb M_Mdl_findMove) 69 = .ok (.getfield 53, 3) := by decide +kernel
theorem d_Mdl_findMove_72 : decode (mb M_Mdl_findMove) 72 = .ok (.iload 7, 2) := by decide +kernel
theorem d_Mdl_findMove_74 : decode (mb M_Mdl_findMove) 74 = .ok (.iload 9, 2) := by decide +kernel
theorem d_Mdl_findMove_76 : decode (mb M_Mdl_findMove) 76 = .ok (.iadd, 1) := by decide +kernel
theorem d_Mdl_findMove_77 : decode (mb M_Mdl_findMove) 77 = .ok (.iaload, 1) := by decide +kernel
theorem d_Mdl_findMove_78 : decode (mb M_Mdl_findMove) 78 = .ok (.iconst (-1), 1) := by decide +kernel
theorem d_Mdl_findMove_79 : decode (mb M_Mdl_findMove) 79 = .ok (.if_icmp .ne 73, 3) := by decide +kernel
theorem d_Mdl_findMove_82 : decode (mb M_Mdl_findMove) 82 = .ok (.aload_n 0, 1) := by decide +kernel
theorem d_Mdl_findMove_83 : decode (mb M_Mdl_findMove) 83 = .ok (.getfield 56, 3) := by decide +kernel
theorem d_Mdl_findMove_86 : decode (mb M_Mdl_findMove) 86 = .ok (.iload 7, 2) := by decide +kernel
theorem d_Mdl_findMove_88 : decode (mb M_Mdl_findMove) 88 = .ok (.iload 9, 2) := by decide +kernel
theorem d_Mdl_findMove_90 : decode (mb M_Mdl_findMove) 90 = .ok (.iadd, 1) := by decide +kernel
theorem d_Mdl_findMove_91 : decode (mb M_Mdl_findMove) 91 = .ok (.iaload, 1) := by decide +kernel
theorem d_Mdl_findMove_92 : decode (mb M_Mdl_findMove) 92 = .ok (.iconst (-1), 1) := by decide +kernel
theorem d_Mdl_findMove_93 : decode (mb M_Mdl_findMove) 93 = .ok (.if_icmp .ne 59, 3) := by decide +kernel
theorem d_Mdl_findMove_96 : decode (mb M_Mdl_findMove) 96 = .ok (.aload_n 0, 1) := by decide +kernel
theorem d_Mdl_findMove_97 : decode (mb M_Mdl_findMove) 97 = .ok (.iload 8, 2) := by decide +kernel
theorem d_Mdl_findMove_99 : decode (mb M_Mdl_findMove) 99 = .ok (.iload 9, 2) := by decide +kernel
theorem d_Mdl_findMove_101 : decode (mb M_Mdl_findMove) 101 = .ok (.iadd, 1) := by decide +kernel
theorem d_Mdl_findMove_102 : decode (mb M_Mdl_findMove) 102 = .ok (.invokevirtual 262, 3) := by decide +kernel
theorem d_Mdl_findMove_105 : decode (mb M_Mdl_findMove) 105 = .ok (.ifCond .ne 47, 3) := by decide +kernel
theorem d_Mdl_findMove_108 : decode (mb M_Mdl_findMove) 108 = .ok (.aload_n 0, 1) := by decide +kernel
theorem d_Mdl_findMove_109 : decode (mb M_Mdl_findMove) 109 = .ok (.aload_n 0, 1) := by decide +kernel
theorem d_Mdl_findMove_110 : decode (mb M_Mdl_findMove) 110 = .ok (.getfield 23, 3) := by decide +kernel
theorem d_Mdl_findMove_113 : decode (mb M_Mdl_findMove) 113 = .ok (.bipush 20, 2) := by decide +kernel
theorem d_Mdl_findMove_115 : decode (mb M_Mdl_findMove) 115 = .ok (.iload_n 1, 1) := by decide +kernel
theorem d_Mdl_findMove_116 : decode (mb M_Mdl_findMove) 116 = .ok (.imul, 1) := by decide +kernel
theorem d_Mdl_findMove_117 : decode (mb M_Mdl_findMove) 117 = .ok (.iload 7, 2) := by decide +kernel
theorem d_Mdl_findMove_119 : decode (mb M_Mdl_findMove) 119 = .ok (.iadd, 1) := by decide +kernel
theorem d_Mdl_findMove_120 : decode (mb M_Mdl_findMove) 120 = .ok (.iload 9, 2) := by decide +kernel
theorem d_Mdl_findMove_122 : decode (mb M_Mdl_findMove) 122 = .ok (.iadd, 1) := by decide +kernel
theorem d_Mdl_findMove_123 : decode (mb M_Mdl_findMove) 123 = .ok (.iaload, 1) := by decide +kernel
theorem d_Mdl_findMove_124 : decode (mb M_Mdl_findMove) 124 = .ok (.aload_n 0, 1) := by decide +kernel
theorem d_Mdl_findMove_125 : decode (mb M_Mdl_findMove) 125 = .ok (.getfield 23, 3) := by decide +kernel
theorem d_Mdl_findMove_128 : decode (mb M_Mdl_findMove) 128 = .ok (.bipush 20, 2) := by decide +kernel
theorem d_Mdl_findMove_130 : decode (mb M_Mdl_findMove) 130 = .ok (.iload_n 2, 1) := by decide +kernel
theorem d_Mdl_findMove_131 : decode (mb M_Mdl_findMove) 131 = .ok (.imul, 1) := by decide +kernel
theorem d_Mdl_findMove_132 : decode (mb M_Mdl_findMove) 132 = .ok (.iload 8, 2) := by decide +kernel
theorem d_Mdl_findMove_134 : decode (mb M_Mdl_findMove) 134 = .ok (.iadd, 1) := by decide +kernel
theorem d_Mdl_findMove_135 : decode (mb M_Mdl_findMove) 135 = .ok (.iload 9, 2) := by decide +kernel
theorem d_Mdl_findMove_137 : decode (mb M_Mdl_findMove) 137 = .ok (.iadd, 1) := by decide +kernel
theorem d_Mdl_findMove_138 : decode (mb M_Mdl_findMove) 138 = .ok (.iaload, 1) := by decide +kernel
theorem d_Mdl_findMove_139 : decode (mb M_Mdl_findMove) 139 = .ok (.iload_n 3, 1) := by decide +kernel
theorem d_Mdl_findMove_140 : decode (mb M_Mdl_findMove) 140 = .ok (.invokevirtual 245, 3) := by decide +kernel
theorem d_Mdl_findMove_143 : decode (mb M_Mdl_findMove) 143 = .ok (.ifCond .eq 9, 3) := by decide +kernel
theorem d_Mdl_findMove_146 : decode (mb M_Mdl_findMove) 146 = .ok (.iinc 9 1, 3) := by decide +kernel
theorem d_Mdl_findMove_149 : decode (mb M_Mdl_findMove) 149 = .ok (.goto (-109), 3) := by decide +kernel
theorem d_Mdl_findMove_152 : decode (mb M_Mdl_findMove) 152 = .ok (.iload 9, 2) := by decide +kernel
theorem d_Mdl_findMove_154 : decode (mb M_Mdl_findMove) 154 = .ok (.iconst 1, 1) := by decide +kernel
theorem d_Mdl_findMove_155 : decode (mb M_Mdl_findMove) 155 = .ok (.if_icmp .gt 33, 3) := by decide +kernel
theorem d_Mdl_findMove_158 : decode (mb M_Mdl_findMove) 158 = .ok (.iload 9, 2) := by decide +kernel
theorem d_Mdl_findMove_160 : decode (mb M_Mdl_findMove) 160 = .ok (.iconst 1, 1) := by decide +kernel
theorem d_Mdl_findMove_161 : decode (mb M_Mdl_findMove) 161 = .ok (.if_icmp .ne 31, 3) := by decide +kernel
theorem d_Mdl_findMove_164 : decode (mb M_Mdl_findMove) 164 = .ok (.aload_n 0, 1) := by decide +kernel
theorem d_Mdl_findMove_165 : decode (mb M_Mdl_findMove) 165 = .ok (.getfield 7, 3) := by decide +kernel
theorem d_Mdl_findMove_168 : decode (mb M_Mdl_findMove) 168 = .ok (.aload_n 0, 1) := by decide +kernel
theorem d_Mdl_findMove_169 : decode (mb M_Mdl_findMove) 169 = .ok (.getfield 23, 3) := by decide +kernel
theorem d_Mdl_findMove_172 : decode (mb M_Mdl_findMove) 172 = .ok (.bipush 20, 2) := by decide +kernel
theorem d_Mdl_findMove_174 : decode (mb M_Mdl_findMove) 174 = .ok (.iload_n 1, 1) := by decide +kernel
theorem d_Mdl_findMove_175 : decode (mb M_Mdl_findMove) 175 = .ok (.imul, 1) := by decide +kernel
theorem d_Mdl_findMove_176 : decode (mb M_Mdl_findMove) 176 = .ok (.iload 7, 2) := by decide +kernel
theorem d_Mdl_findMove_178 : decode (mb M_Mdl_findMove) 178 = .ok (.iadd, 1) := by decide +kernel
theorem d_Mdl_findMove_179 : decode (mb M_Mdl_findMove) 179 = .ok (.iaload, 1) := by decide +kernel
theorem d_Mdl_findMove_180 : decode (mb M_Mdl_findMove) 180 = .ok (.laload, 1) := by decide +kernel
theorem d_Mdl_findMove_181 : decode (mb M_Mdl_findMove) 181 = .ok (.invokestatic 144, 3) := by decide +kernel
theorem d_Mdl_findMove_184 : decode (mb M_Mdl_findMove) 184 = .ok (.iconst 4, 1) := by decide +kernel
theorem d_Mdl_findMove_185 : decode (mb M_Mdl_findMove) 185 = .ok (.if_icmp .lt 7, 3) := by decide +kernel
theorem d_Mdl_findMove_188 : decode (mb M_Mdl_findMove) 188 = .ok (.iconst 1, 1) := by decide +kernel
theorem d_Mdl_findMove_189 : decode (mb M_Mdl_findMove) 189 = .ok (.goto 4, 3) := by decide +kernel
theorem d_Mdl_findMove_192 : decode (mb M_Mdl_findMove) 192 = .ok (.iconst 0, 1) := by decide +kernel
theorem d_Mdl_findMove_193 : decode (mb M_Mdl_findMove) 193 = .ok (.istore 10, 2) := by decide +kernel
theorem d_Mdl_findMove_195 : decode (mb M_Mdl_findMove) 195 = .ok (.iload 10, 2) := by decide +kernel
theorem d_Mdl_findMove_197 : decode (mb M_Mdl_findMove) 197 = .ok (.ifCond .eq 22, 3) := by decide +kernel
theorem d_Mdl_findMove_200 : decode (mb M_Mdl_findMove) 200 = .ok (.iload 9, 2) := by decide +kernel
theorem d_Mdl_findMove_202 : decode (mb M_Mdl_findMove) 202 = .ok (.iload 4, 2) := by decide +kernel
theorem d_Mdl_findMove_204 : decode (mb M_Mdl_findMove) 204 = .ok (.if_icmp .le 15, 3) := by decide +kernel
theorem d_Mdl_findMove_207 : decode (mb M_Mdl_findMove) 207 = .ok (.iload 9, 2) := by decide +kernel
theorem d_Mdl_findMove_209 : decode (mb M_Mdl_findMove) 209 = .ok (.istore 4, 2) := by decide +kernel
theorem d_Mdl_findMove_211 : decode (mb M_Mdl_findMove) 211 = .ok (.iload 7, 2) := by decide +kernel
theorem d_Mdl_findMove_213 : decode (mb M_Mdl_findMove) 213 = .ok (.istore 5, 2) := by decide +kernel
theorem d_Mdl_findMove_215 : decode (mb M_Mdl_findMove) 215 = .ok (.iload 8, 2) := by decide +kernel
theorem d_Mdl_findMove_217 : decode (mb M_Mdl_findMove) 217 = .ok (.istore 6, 2) := by decide +kernel
theorem d_Mdl_findMove_219 : decode (mb M_Mdl_findMove) 219 = .ok (.iinc 8 1, 3) := by decide +kernel
theorem d_Mdl_findMove_222 : decode (mb M_Mdl_findMove) 222 = .ok (.goto (-196), 3) := by decide +kernel
theorem d_Mdl_findMove_225 : decode (mb M_Mdl_findMove) 225 = .ok (.iinc 7 1, 3) := by decide +kernel
theorem d_Mdl_findMove_228 : decode (mb M_Mdl_findMove) 228 = .ok (.goto (-216), 3) := by decide +kernel
theorem d_Mdl_findMove_231 : decode (mb M_Mdl_findMove) 231 = .ok (.iconst 0, 1) := by decide +kernel
theorem d_Mdl_findMove_232 : decode (mb M_Mdl_findMove) 232 = .ok (.istore 7, 2) := by decide +kernel
theorem d_Mdl_findMove_234 : decode (mb M_Mdl_findMove) 234 = .ok (.iload 7, 2) := by decide +kernel
theorem d_Mdl_findMove_236 : decode (mb M_Mdl_findMove) 236 = .ok (.iload 4, 2) := by decide +kernel
theorem d_Mdl_findMove_238 : decode (mb M_Mdl_findMove) 238 = .ok (.if_icmp .ge 24, 3) := by decide +kernel
theorem d_Mdl_findMove_241 : decode (mb M_Mdl_findMove) 241 = .ok (.aload_n 0, 1) := by decide +kernel
theorem d_Mdl_findMove_242 : decode (mb M_Mdl_findMove) 242 = .ok (.getfield 56, 3) := by decide +kernel
theorem d_Mdl_findMove_245 : decode (mb M_Mdl_findMove) 245 = .ok (.iload 5, 2) := by decide +kernel
theorem d_Mdl_findMove_247 : decode (mb M_Mdl_findMove) 247 = .ok (.iload 7, 2) := by decide +kernel
theorem d_Mdl_findMove_249 : decode (mb M_Mdl_findMove) 249 = .ok (.iadd, 1) := by decide +kernel
theorem d_Mdl_findMove_250 : decode (mb M_Mdl_findMove) 250 = .ok (.iload 6, 2) := by decide +kernel
theorem d_Mdl_findMove_252 : decode (mb M_Mdl_findMove) 252 = .ok (.iload 7, 2) := by decide +kernel
theorem d_Mdl_findMove_254 : decode (mb M_Mdl_findMove) 254 = .ok (.iadd, 1) := by decide +kernel
theorem d_Mdl_findMove_255 : decode (mb M_Mdl_findMove) 255 = .ok (.iastore, 1) := by decide +kernel
theorem d_Mdl_findMove_256 : decode (mb M_Mdl_findMove) 256 = .ok (.iinc 7 1, 3) := by decide +kernel
theorem d_Mdl_findMove_259 : decode (mb M_Mdl_findMove) 259 = .ok (.goto (-25), 3) := by decide +kernel
theorem d_Mdl_findMove_262 : decode (mb M_Mdl_findMove) 262 = .ok (.iload 4, 2) := by decide +kernel
theorem d_Mdl_findMove_264 : decode (mb M_Mdl_findMove) 264 = .ok (.ifCond .le 7, 3) := by decide +kernel
theorem d_Mdl_findMove_267 : decode (mb M_Mdl_findMove) 267 = .ok (.iconst 1, 1) := by decide +kernel
theorem d_Mdl_findMove_268 : decode (mb M_Mdl_findMove) 268 = .ok (.goto 4, 3) := by decide +kernel
theorem d_Mdl_findMove_271 : decode (mb M_Mdl_findMove) 271 = .ok (.iconst 0, 1) := by decide +kernel
theorem d_Mdl_findMove_272 : decode (mb M_Mdl_findMove) 272 = .ok (.ireturn, 1) := by decide +kernel
theorem d_Mdl_fine_0 : decode (mb M_Mdl_fine) 0 = .ok (.aload_n 0, 1) := by decide +kernel
theorem d_Mdl_fine_1 : decode (mb M_Mdl_fine) 1 = .ok (.iconst 0, 1) := by decide +kernel
theorem d_Mdl_fine_2 : decode (mb M_Mdl_fine) 2 = .ok (.putfield 127, 3) := by decide +kernel
theorem d_Mdl_fine_5 : decode (mb M_Mdl_fine) 5 = .ok (.iload_n 1, 1) := by decide +kernel
theorem d_Mdl_fine_6 : decode (mb M_Mdl_fine) 6 = .ok (.ireturn, 1) := by decide +kernel
theorem d_Mdl_fits_0 : decode (mb M_Mdl_fits) 0 = .ok (.aload_n 0, 1) := by decide +kernel
theorem d_Mdl_fits_1 : decode (mb M_Mdl_fits) 1 = .ok (.getfield 68, 3) := by decide +kernel
theorem d_Mdl_fits_4 : decode (mb M_Mdl_fits) 4 = .ok (.iconst 4, 1) := by decide +kernel
theorem d_Mdl_fits_5 : decode (mb M_Mdl_fits) 5 = .ok (.iload_n 1, 1) := by decide +kernel
theorem d_Mdl_fits_6 : decode (mb M_Mdl_fits) 6 = .ok (.imul, 1) := by decide +kernel
theorem d_Mdl_fits_7 : decode (mb M_Mdl_fits) 7 = .ok (.iconst 2, 1) := by decide +kernel
theorem d_Mdl_fits_8 : decode (mb M_Mdl_fits) 8 = .ok (.iadd, 1) := by decide +kernel
theorem d_Mdl_fits_9 : decode (mb M_Mdl_fits) 9 = .ok (.iaload, 1) := by decide +kernel
theorem d_Mdl_fits_10 : decode (mb M_Mdl_fits) 10 = .ok (.iload_n 3, 1) := by decide +kernel
theorem d_Mdl_fits_11 : decode (mb M_Mdl_fits) 11 = .ok (.if_icmp .le 18, 3) := by decide +kernel
theorem d_Mdl_fits_14 : decode (mb M_Mdl_fits) 14 = .ok (.aload_n 0, 1) := by decide +kernel
theorem d_Mdl_fits_15 : decode (mb M_Mdl_fits) 15 = .ok (.getfield 68, 3) := by decide +kernel
theorem d_Mdl_fits_18 : decode (mb M_Mdl_fits) 18 = .ok (.iconst 4, 1) := by decide +kernel
theorem d_Mdl_fits_19 : decode (mb M_Mdl_fits) 19 = .ok (.iload_n 1, 1) := by decide +kernel
theorem d_Mdl_fits_20 : decode (mb M_Mdl_fits) 20 = .ok (.imul, 1) := by decide +kernel
theorem d_Mdl_fits_21 : decode (mb M_Mdl_fits) 21 = .ok (.iconst 2, 1) := by decide +kernel
theorem d_Mdl_fits_22 : decode (mb M_Mdl_fits) 22 = .ok (.iadd, 1) := by decide +kernel
theorem d_Mdl_fits_23 : decode (mb M_Mdl_fits) 23 = .ok (.iaload, 1) := by decide +kernel
theorem d_Mdl_fits_24 : decode (mb M_Mdl_fits) 24 = .ok (.iload_n 3, 1) := by decide +kernel
theorem d_Mdl_fits_25 : decode (mb M_Mdl_fits) 25 = .ok (.isub, 1) := by decide +kernel
theorem d_Mdl_fits_26 : decode (mb M_Mdl_fits) 26 = .ok (.goto 4, 3) := by decide +kernel
theorem d_Mdl_fits_29 : decode (mb M_Mdl_fits) 29 = .ok (.iconst 0, 1) := by decide +kernel
theorem d_Mdl_fits_30 : decode (mb M_Mdl_fits) 30 = .ok (.istore 5, 2) := by decide +kernel
theorem d_Mdl_fits_32 : decode (mb M_Mdl_fits) 32 = .ok (.aload_n 0, 1) := by decide +kernel
theorem d_Mdl_fits_33 : decode (mb M_Mdl_fits) 33 = .ok (.getfield 68, 3) := by decide +kernel
theorem d_Mdl_fits_36 : decode (mb M_Mdl_fits) 36 = .ok (.iconst 4, 1) := by decide +kernel
theorem d_Mdl_fits_37 : decode (mb M_Mdl_fits) 37 = .ok (.iload_n 1, 1) := by decide +kernel
theorem d_Mdl_fits_38 : decode (mb M_Mdl_fits) 38 = .ok (.imul, 1) := by decide +kernel
theorem d_Mdl_fits_39 : decode (mb M_Mdl_fits) 39 = .ok (.iconst 3, 1) := by decide +kernel
theorem d_Mdl_fits_40 : decode (mb M_Mdl_fits) 40 = .ok (.iadd, 1) := by decide +kernel
theorem d_Mdl_fits_41 : decode (mb M_Mdl_fits) 41 = .ok (.iaload, 1) := by decide +kernel
theorem d_Mdl_fits_42 : decode (mb M_Mdl_fits) 42 = .ok (.iload_n 3, 1) := by decide +kernel
theorem d_Mdl_fits_43 : decode (mb M_Mdl_fits) 43 = .ok (.if_icmp .le 18, 3) := by decide +kernel
theorem d_Mdl_fits_46 : decode (mb M_Mdl_fits) 46 = .ok (.aload_n 0, 1) := by decide +kernel
theorem d_Mdl_fits_47 : decode (mb M_Mdl_fits) 47 = .ok (.getfield 68, 3) := by decide +kernel
theorem d_Mdl_fits_50 : decode (mb M_Mdl_fits) 50 = .ok (.iconst 4, 1) := by decide +kernel
theorem d_Mdl_fits_51 : decode (mb M_Mdl_fits) 51 = .ok (.iload_n 1, 1) := by decide +kernel
theorem d_Mdl_fits_52 : decode (mb M_Mdl_fits) 52 = .ok (.imul, 1) := by decide +kernel
theorem d_Mdl_fits_53 : decode (mb M_Mdl_fits) 53 = .ok (.iconst 3, 1) := by decide +kernel
theorem d_Mdl_fits_54 : decode (mb M_Mdl_fits) 54 = .ok (.iadd, 1) := by decide +kernel
theorem d_Mdl_fits_55 : decode (mb M_Mdl_fits) 55 = .ok (.iaload, 1) := by decide +kernel
theorem d_Mdl_fits_56 : decode (mb M_Mdl_fits) 56 = .ok (.iload_n 3, 1) := by decide +kernel
theorem d_Mdl_fits_57 : decode (mb M_Mdl_fits) 57 = .ok (.isub, 1) := by decide +kernel
theorem d_Mdl_fits_58 : decode (mb M_Mdl_fits) 58 = .ok (.goto 4, 3) := by decide +kernel
theorem d_Mdl_fits_61 : decode (mb M_Mdl_fits) 61 = .ok (.iconst 0, 1) := by decide +kernel
theorem d_Mdl_fits_62 : decode (mb M_Mdl_fits) 62 = .ok (.istore 6, 2) := by decide +kernel
theorem d_Mdl_fits_64 : decode (mb M_Mdl_fits) 64 = .ok (.aload_n 0, 1) := by decide +kernel
theorem d_Mdl_fits_65 : decode (mb M_Mdl_fits) 65 = .ok (.getfield 68, 3) := by decide +kernel
theorem d_Mdl_fits_68 : decode (mb M_Mdl_fits) 68 = .ok (.iconst 4, 1) := by decide +kernel
theorem d_Mdl_fits_69 : decode (mb M_Mdl_fits) 69 = .ok (.iload_n 1, 1) := by decide +kernel
theorem d_Mdl_fits_70 : decode (mb M_Mdl_fits) 70 = .ok (.imul, 1) := by decide +kernel
theorem d_Mdl_fits_71 : decode (mb M_Mdl_fits) 71 = .ok (.iaload, 1) := by decide +kernel
theorem d_Mdl_fits_72 : decode (mb M_Mdl_fits) 72 = .ok (.istore 7, 2) := by decide +kernel
theorem d_Mdl_fits_74 : decode (mb M_Mdl_fits) 74 = .ok (.iload_n 2, 1) := by decide +kernel
theorem d_Mdl_fits_75 : decode (mb M_Mdl_fits) 75 = .ok (.iload 5, 2) := by decide +kernel
theorem d_Mdl_fits_77 : decode (mb M_Mdl_fits) 77 = .ok (.isub, 1) := by decide +kernel
theorem d_Mdl_fits_78 : decode (mb M_Mdl_fits) 78 = .ok (.iload 4, 2) := by decide +kernel
theorem d_Mdl_fits_80 : decode (mb M_Mdl_fits) 80 = .ok (.if_icmp .lt 21, 3) := by decide +kernel
theorem d_Mdl_fits_83 : decode (mb M_Mdl_fits) 83 = .ok (.iload_n 2, 1) := by decide +kernel
theorem d_Mdl_fits_84 : decode (mb M_Mdl_fits) 84 = .ok (.iload 7, 2) := by decide +kernel
theorem d_Mdl_fits_86 : decode (mb M_Mdl_fits) 86 = .ok (.iadd, 1) := by decide +kernel
theorem d_Mdl_fits_87 : decode (mb M_Mdl_fits) 87 = .ok (.iload 6, 2) := by decide +kernel
theorem d_Mdl_fits_89 : decode (mb M_Mdl_fits) 89 = .ok (.iadd, 1) := by decide +kernel
theorem d_Mdl_fits_90 : decode (mb M_Mdl_fits) 90 = .ok (.aload_n 0, 1) := by decide +kernel
theorem d_Mdl_fits_91 : decode (mb M_Mdl_fits) 91 = .ok (.getfield 327, 3) := by decide +kernel
theorem d_Mdl_fits_94 : decode (mb M_Mdl_fits) 94 = .ok (.if_icmp .gt 7, 3) := by decide +kernel
theorem d_Mdl_fits_97 : decode (mb M_Mdl_fits) 97 = .ok (.iconst 1, 1) := by decide +kernel
theorem d_Mdl_fits_98 : decode (mb M_Mdl_fits) 98 = .ok (.goto 4, 3) := by decide +kernel
theorem d_Mdl_fits_101 : decode (mb M_Mdl_fits) 101 = .ok (.iconst 0, 1) := by decide +kernel
theorem d_Mdl_fits_102 : decode (mb M_Mdl_fits) 102 = .ok (.istore 8, 2) := by decide +kernel
theorem d_Mdl_fits_104 : decode (mb M_Mdl_fits) 104 = .ok (.iconst 0, 1) := by decide +kernel
theorem d_Mdl_fits_105 : decode (mb M_Mdl_fits) 105 = .ok (.istore 9, 2) := by decide +kernel
theorem d_Mdl_fits_107 : decode (mb M_Mdl_fits) 107 = .ok (.iload 9, 2) := by decide +kernel
theorem d_Mdl_fits_109 : decode (mb M_Mdl_fits) 109 = .ok (.iload 5, 2) := by decide +kernel
theorem d_Mdl_fits_111 : decode (mb M_Mdl_fits) 111 = .ok (.if_icmp .ge 68, 3) := by decide +kernel
theorem d_Mdl_fits_114 : decode (mb M_Mdl_fits) 114 = .ok (.iload 8, 2) := by decide +kernel
theorem d_Mdl_fits_116 : decode (mb M_Mdl_fits) 116 = .ok (.ifCond .eq 63, 3) := by decide +kernel
theorem d_Mdl_fits_119 : decode (mb M_Mdl_fits) 119 = .ok (.aload_n 0, 1) := by decide +kernel
theorem d_Mdl_fits_120 : decode (mb M_Mdl_fits) 120 = .ok (.getfield 7, 3) := by decide +kernel
theorem d_Mdl_fits_123 : decode (mb M_Mdl_fits) 123 = .ok (.aload_n 0, 1) := by decide +kernel
theorem d_Mdl_fits_124 : decode (mb M_Mdl_fits) 124 = .ok (.getfield 120, 3) := by decide +kernel
theorem d_Mdl_fits_127 : decode (mb M_Mdl_fits) 127 = .ok (.iload_n 2, 1) := by decide +kernel
theorem d_Mdl_fits_128 : decode (mb M_Mdl_fits) 128 = .ok (.iload 5, 2) := by decide +kernel
theorem d_Mdl_fits_130 : decode (mb M_Mdl_fits) 130 = .ok (.isub, 1) := by decide +kernel
theorem d_Mdl_fits_131 : decode (mb M_Mdl_fits) 131 = .ok (.iload 9, 2) := by decide +kernel
theorem d_Mdl_fits_133 : decode (mb M_Mdl_fits) 133 = .ok (.iadd, 1) := by decide +kernel
theorem d_Mdl_fits_134 : decode (mb M_Mdl_fits) 134 = .ok (.iaload, 1) := by decide +kernel
theorem d_Mdl_fits_135 : decode (mb M_Mdl_fits) 135 = .ok (.laload, 1) := by decide +kernel
theorem d_Mdl_fits_136 : decode (mb M_Mdl_fits) 136 = .ok (.aload_n 0, 1) := by decide +kernel
theorem d_Mdl_fits_137 : decode (mb M_Mdl_fits) 137 = .ok (.getfield 74, 3) := by decide +kernel
theorem d_Mdl_fits_140 : decode (mb M_Mdl_fits) 140 = .ok (.bipush 6, 2) := by decide +kernel
theorem d_Mdl_fits_142 : decode (mb M_Mdl_fits) 142 = .ok (.iload_n 1, 1) := by decide +kernel
theorem d_Mdl_fits_143 : decode (mb M_Mdl_fits) 143 = .ok (.imul, 1) := by decide +kernel
theorem d_Mdl_fits_144 : decode (mb M_Mdl_fits) 144 = .ok (.aload_n 0, 1) := by decide +kernel
theorem d_Mdl_fits_145 : decode (mb M_Mdl_fits) 145 = .ok (.getfield 68, 3) := by decide +kernel
theorem d_Mdl_fits_148 : decode (mb M_Mdl_fits) 148 = .ok (.iconst 4, 1) := by decide +kernel
theorem d_Mdl_fits_149 : decode (mb M_Mdl_fits) 149 = .ok (.iload_n 1, 1) := by decide +kernel
theorem d_Mdl_fits_150 : decode (mb M_Mdl_fits) 150 = .ok (.imul, 1) := by decide +kernel
theorem d_Mdl_fits_151 : decode (mb M_Mdl_fits) 151 = .ok (.iconst 2, 1) := by decide +kernel
theorem d_Mdl_fits_152 : decode (mb M_Mdl_fits) 152 = .ok (.iadd, 1) := by decide +kernel
theorem d_Mdl_fits_153 : decode (mb M_Mdl_fits) 153 = .ok (.iaload, 1) := by decide +kernel
theorem d_Mdl_fits_154 : decode (mb M_Mdl_fits) 154 = .ok (.iadd, 1) := by decide +kernel
theorem d_Mdl_fits_155 : decode (mb M_Mdl_fits) 155 = .ok (.iload 5, 2) := by decide +kernel
theorem d_Mdl_fits_157 : decode (mb M_Mdl_fits) 157 = .ok (.isub, 1) := by decide +kernel
theorem d_Mdl_fits_158 : decode (mb M_Mdl_fits) 158 = .ok (.iload 9, 2) := by decide +kernel
theorem d_Mdl_fits_160 : decode (mb M_Mdl_fits) 160 = .ok (.iadd, 1) := by decide +kernel
theorem d_Mdl_fits_161 : decode (mb M_Mdl_fits) 161 = .ok (.laload, 1) := by decide +kernel
theorem d_Mdl_fits_162 : decode (mb M_Mdl_fits) 162 = .ok (.lcmp, 1) := by decide +kernel
theorem d_Mdl_fits_163 : decode (mb M_Mdl_fits) 163 = .ok (.ifCond .ne 7, 3) := by decide +kernel
theorem d_Mdl_fits_166 : decode (mb M_Mdl_fits) 166 = .ok (.iconst 1, 1) := by decide +kernel
theorem d_Mdl_fits_167 : decode (mb M_Mdl_fits) 167 = .ok (.goto 4, 3) := by decide +kernel
theorem d_Mdl_fits_170 : decode (mb M_Mdl_fits) 170 = .ok (.iconst 0, 1) := by decide +kernel
theorem d_Mdl_fits_171 : decode (mb M_Mdl_fits) 171 = .ok (.istore 8, 2) := by decide +kernel
theorem d_Mdl_fits_173 : decode (mb M_Mdl_fits) 173 = .ok (.iinc 9 1, 3) := by decide +kernel
theorem d_Mdl_fits_176 : decode (mb M_Mdl_fits) 176 = .ok (.goto (-69), 3) := by decide +kernel
theorem d_Mdl_fits_179 : decode (mb M_Mdl_fits) 179 = .ok (.iconst 0, 1) := by decide +kernel
theorem d_Mdl_fits_180 : decode (mb M_Mdl_fits) 180 = .ok (.istore 9, 2) := by decide +kernel
theorem d_Mdl_fits_182 : decode (mb M_Mdl_fits) 182 = .ok (.iload 9, 2) := by decide +kernel
theorem d_Mdl_fits_184 : decode (mb M_Mdl_fits) 184 = .ok (.iload 7, 2) := by decide +kernel
theorem d_Mdl_fits_186 : decode (mb M_Mdl_fits) 186 = .ok (.if_icmp .ge 51, 3) := by decide +kernel
theorem d_Mdl_fits_189 : decode (mb M_Mdl_fits) 189 = .ok (.iload 8, 2) := by decide +kernel
theorem d_Mdl_fits_191 : decode (mb M_Mdl_fits) 191 = .ok (.ifCond .eq 46, 3) := by decide +kernel
theorem d_Mdl_fits_194 : decode (mb M_Mdl_fits) 194 = .ok (.aload_n 0, 1) := by decide +kernel
theorem d_Mdl_fits_195 : decode (mb M_Mdl_fits) 195 = .ok (.getfield 7, 3) := by decide +kernel
theorem d_Mdl_fits_198 : decode (mb M_Mdl_fits) 198 = .ok (.aload_n 0, 1) := by decide +kernel
theorem d_Mdl_fits_199 : decode (mb M_Mdl_fits) 199 = .ok (.getfield 120, 3) := by decide +kernel
theorem d_Mdl_fits_202 : decode (mb M_Mdl_fits) 202 = .ok (.iload_n 2, 1) := by decide +kernel
theorem d_Mdl_fits_203 : decode (mb M_Mdl_fits) 203 = .ok (.iload 9, 2) := by decide +kernel
theorem d_Mdl_fits_205 : decode (mb M_Mdl_fits) 205 = .ok (.iadd, 1) := by decide +kernel
theorem d_Mdl_fits_206 : decode (mb M_Mdl_fits) 206 = .ok (.iaload, 1) := by decide +kernel
theorem d_Mdl_fits_207 : decode (mb M_Mdl_fits) 207 = .ok (.laload, 1) := by decide +kernel
theorem d_Mdl_fits_208 : decode (mb M_Mdl_fits) 208 = .ok (.aload_n 0, 1) := by decide +kernel
theorem d_Mdl_fits_209 : decode (mb M_Mdl_fits) 209 = .ok (.getfield 71, 3) := by decide +kernel
theorem d_Mdl_fits_212 : decode (mb M_Mdl_fits) 212 = .ok (.bipush 40, 2) := by decide +kernel
theorem d_Mdl_fits_214 : decode (mb M_Mdl_fits) 214 = .ok (.iload_n 1, 1) := by decide +kernel
theorem d_Mdl_fits_215 : decode (mb M_Mdl_fits) 215 = .ok (.imul, 1) := by decide +kernel
theorem d_Mdl_fits_216 : decode (mb M_Mdl_fits) 216 = .ok (.iload 9, 2) := by decide +kernel
theorem d_Mdl_fits_218 : decode (mb M_Mdl_fits) 218 = .ok (.iadd, 1) := by decide +kernel
theorem d_Mdl_fits_219 : decode (mb M_Mdl_fits) 219 = .ok (.laload, 1) := by decide +kernel
theorem d_Mdl_fits_220 : decode (mb M_Mdl_fits) 220 = .ok (.lcmp, 1) := by decide +kernel
theorem d_Mdl_fits_221 : decode (mb M_Mdl_fits) 221 = .ok (.ifCond .ne 7, 3) := by decide +kernel
theorem d_Mdl_fits_224 : decode (mb M_Mdl_fits) 224 = .ok (.iconst 1, 1) := by decide +kernel
theorem d_Mdl_fits_225 : decode (mb M_Mdl_fits) 225 = .ok (.goto 4, 3) := by decide +kernel
theorem d_Mdl_fits_228 : decode (mb M_Mdl_fits) 228 = .ok (.iconst 0, 1) := by decide +kernel
theorem d_Mdl_fits_229 : decode (mb M_Mdl_fits) 229 = .ok (.istore 8, 2) := by decide +kernel
theorem d_Mdl_fits_231 : decode (mb M_Mdl_fits) 231 = .ok (.iinc 9 1, 3) := by decide +kernel
theorem d_Mdl_fits_234 : decode (mb M_Mdl_fits) 234 = .ok (.goto (-52), 3) := by decide +kernel
theorem d_Mdl_fits_237 : decode (mb M_Mdl_fits) 237 = .ok (.iconst 0, 1) := by decide +kernel
theorem d_Mdl_fits_238 : decode (mb M_Mdl_fits) 238 = .ok (.istore 9, 2) := by decide +kernel
theorem d_Mdl_fits_240 : decode (mb M_Mdl_fits) 240 = .ok (.iload 9, 2) := by decide +kernel
theorem d_Mdl_fits_242 : decode (mb M_Mdl_fits) 242 = .ok (.iload 6, 2) := by decide +kernel
theorem d_Mdl_fits_244 : decode (mb M_Mdl_fits) 244 = .ok (.if_icmp .ge 56, 3) := by decide +kernel
theorem d_Mdl_fits_247 : decode (mb M_Mdl_fits) 247 = .ok (.iload 8, 2) := by decide +kernel
theorem d_Mdl_fits_249 : decode (mb M_Mdl_fits) 249 = .ok (.ifCond .eq 51, 3) := by decide +kernel
theorem d_Mdl_fits_252 : decode (mb M_Mdl_fits) 252 = .ok (.aload_n 0, 1) := by decide +kernel
theorem d_Mdl_fits_253 : decode (mb M_Mdl_fits) 253 = .ok (.getfield 7, 3) := by decide +kernel
theorem d_Mdl_fits_256 : decode (mb M_Mdl_fits) 256 = .ok (.aload_n 0, 1) := by decide +kernel
theorem d_Mdl_fits_257 : decode (mb M_Mdl_fits) 257 = .ok (.getfield 120, 3) := by decide +kernel
theorem d_Mdl_fits_260 : decode (mb M_Mdl_fits) 260 = .ok (.iload_n 2, 1) := by decide +kernel
theorem d_Mdl_fits_261 : decode (mb M_Mdl_fits) 261 = .ok (.iload 7, 2) := by decide +kernel
theorem d_Mdl_fits_263 : decode (mb M_Mdl_fits) 263 = .ok (.iadd, 1) := by decide +kernel
theorem d_Mdl_fits_264 : decode (mb M_Mdl_fits) 264 = .ok (.iload 9, 2) := by decide +kernel
theorem d_Mdl_fits_266 : decode (mb M_Mdl_fits) 266 = .ok (.iadd, 1) := by decide +kernel
theorem d_Mdl_fits_267 : decode (mb M_Mdl_fits) 267 = .ok (.iaload, 1) := by decide +kernel
theorem d_Mdl_fits_268 : decode (mb M_Mdl_fits) 268 = .ok (.laload, 1) := by decide +kernel
theorem d_Mdl_fits_269 : decode (mb M_Mdl_fits) 269 = .ok (.aload_n 0, 1) := by decide +kernel
theorem d_Mdl_fits_270 : decode (mb M_Mdl_fits) 270 = .ok (.getfield 74, 3) := by decide +kernel
theorem d_Mdl_fits_273 : decode (mb M_Mdl_fits) 273 = .ok (.bipush 6, 2) := by decide +kernel
theorem d_Mdl_fits_275 : decode (mb M_Mdl_fits) 275 = .ok (.iload_n 1, 1) := by decide +kernel
theorem d_Mdl_fits_276 : decode (mb M_Mdl_fits) 276 = .ok (.imul, 1) := by decide +kernel
theorem d_Mdl_fits_277 : decode (mb M_Mdl_fits) 277 = .ok (.iconst 3, 1) := by decide +kernel
theorem d_Mdl_fits_278 : decode (mb M_Mdl_fits) 278 = .ok (.iadd, 1) := by decide +kernel
theorem d_Mdl_fits_279 : decode (mb M_Mdl_fits) 279 = .ok (.iload 9, 2) := by decide +kernel
theorem d_Mdl_fits_281 : decode (mb M_Mdl_fits) 281 = .ok (.iadd, 1) := by decide +kernel
theorem d_Mdl_fits_282 : decode (mb M_Mdl_fits) 282 = .ok (.laload, 1) := by decide +kernel
theorem d_Mdl_fits_283 : decode (mb M_Mdl_fits) 283 = .ok (.lcmp, 1) := by decide +kernel
theorem d_Mdl_fits_284 : decode (mb M_Mdl_fits) 284 = .ok (.ifCond .ne 7, 3) := by decide +kernel
theorem d_Mdl_fits_287 : decode (mb M_Mdl_fits) 287 = .ok (.iconst 1, 1) := by decide +kernel
theorem d_Mdl_fits_288 : decode (mb M_Mdl_fits) 288 = .ok (.goto 4, 3) := by decide +kernel
theorem d_Mdl_fits_291 : decode (mb M_Mdl_fits) 291 = .ok (.iconst 0, 1) := by decide +kernel
theorem d_Mdl_fits_292 : decode (mb M_Mdl_fits) 292 = .ok (.istore 8, 2) := by decide +kernel
theorem d_Mdl_fits_294 : decode (mb M_Mdl_fits) 294 = .ok (.iinc 9 1, 3) := by decide +kernel
theorem d_Mdl_fits_297 : decode (mb M_Mdl_fits) 297 = .ok (.goto (-57), 3) := by decide +kernel
theorem d_Mdl_fits_300 : decode (mb M_Mdl_fits) 300 = .ok (.iload 8, 2) := by decide +kernel
theorem d_Mdl_fits_302 : decode (mb M_Mdl_fits) 302 = .ok (.ireturn, 1) := by decide +kernel
theorem d_Mdl_hunk_0 : decode (mb M_Mdl_hunk) 0 = .ok (.aload_n 0, 1) := by decide +kernel
theorem d_Mdl_hunk_1 : decode (mb M_Mdl_hunk) 1 = .ok (.iload_n 1, 1) := by decide +kernel
theorem d_Mdl_hunk_2 : decode (mb M_Mdl_hunk) 2 = .ok (.invokevirtual 324, 3) := by decide +kernel
theorem d_Mdl_hunk_5 : decode (mb M_Mdl_hunk) 5 = .ok (.ifCond .eq 23, 3) := by decide +kernel
theorem d_Mdl_hunk_8 : decode (mb M_Mdl_hunk) 8 = .ok (.iload_n 2, 1) := by decide +kernel
theorem d_Mdl_hunk_9 : decode (mb M_Mdl_hunk) 9 = .ok (.iconst 0, 1) := by decide +kernel
theorem d_Mdl_hunk_10 : decode (mb M_Mdl_hunk) 10 = .ok (.aload_n 0, 1) := by decide +kernel
theorem d_Mdl_hunk_11 : decode (mb M_Mdl_hunk) 11 = .ok (.getfield 59, 3) := by decide +kernel
theorem d_Mdl_hunk_14 : decode (mb M_Mdl_hunk) 14 = .ok (.iload_n 1, 1) := by decide +kernel
theorem d_Mdl_hunk_15 : decode (mb M_Mdl_hunk) 15 = .ok (.iaload, 1) := by decide +kernel
theorem d_Mdl_hunk_16 : decode (mb M_Mdl_hunk) 16 = .ok (.iconst 1, 1) := by decide +kernel
theorem d_Mdl_hunk_17 : decode (mb M_Mdl_hunk) 17 = .ok (.isub, 1) := by decide +kernel
theorem d_Mdl_hunk_18 : decode (mb M_Mdl_hunk) 18 = .ok (.invokestatic 130, 3) := by decide +kernel
theorem d_Mdl_hunk_21 : decode (mb M_Mdl_hunk) 21 = .ok (.ifCond .eq 7, 3) := by decide +kernel
theorem d_Mdl_hunk_24 : decode (mb M_Mdl_hunk) 24 = .ok (.iconst 1, 1) := by decide +kernel
theorem d_Mdl_hunk_25 : decode (mb M_Mdl_hunk) 25 = .ok (.goto 4, 3) := by decide +kernel
theorem d_Mdl_hunk_28 : decode (mb M_Mdl_hunk) 28 = .ok (.iconst 0, 1) := by decide +kernel
theorem d_Mdl_hunk_29 : decode (mb M_Mdl_hunk) 29 = .ok (.istore 4, 2) := by decide +kernel
theorem d_Mdl_hunk_31 : decode (mb M_Mdl_hunk) 31 = .ok (.aload_n 0, 1) := by decide +kernel
theorem d_Mdl_hunk_32 : decode (mb M_Mdl_hunk) 32 = .ok (.iload 4, 2) := by decide +kernel
theorem d_Mdl_hunk_34 : decode (mb M_Mdl_hunk) 34 = .ok (.ifCond .ne 7, 3) := by decide +kernel
theorem d_Mdl_hunk_37 : decode (mb M_Mdl_hunk) 37 = .ok (.iconst 1, 1) := by decide +kernel
theorem d_Mdl_hunk_38 : decode (mb M_Mdl_hunk) 38 = .ok (.goto 17, 3) := by decide +kernel
theorem d_Mdl_hunk_41 : decode (mb M_Mdl_hunk) 41 = .ok (.iload_n 3, 1) := by decide +kernel
theorem d_Mdl_hunk_42 : decode (mb M_Mdl_hunk) 42 = .ok (.iconst 0, 1) := by decide +kernel
theorem d_Mdl_hunk_43 : decode (mb M_Mdl_hunk) 43 = .ok (.iconst 4, 1) := by decide +kernel
theorem d_Mdl_hunk_44 : decode (mb M_Mdl_hunk) 44 = .ok (.invokestatic 130, 3) := by decide +kernel
theorem d_Mdl_hunk_47 : decode (mb M_Mdl_hunk) 47 = .ok (.ifCond .eq 7, 3) := by decide +kernel
theorem d_Mdl_hunk_50 : decode (mb M_Mdl_hunk) 50 = .ok (.iconst 0, 1) := by decide +kernel
theorem d_Mdl_hunk_51 : decode (mb M_Mdl_hunk) 51 = .ok (.goto 4, 3) := by decide +kernel
theorem d_Mdl_hunk_54 : decode (mb M_Mdl_hunk) 54 = .ok (.iconst 2, 1) := by decide +kernel
theorem d_Mdl_hunk_55 : decode (mb M_Mdl_hunk) 55 = .ok (.invokevirtual 151, 3) := by decide +kernel
theorem d_Mdl_hunk_58 : decode (mb M_Mdl_hunk) 58 = .ok (.ifCond .eq 5, 3) := by decide +kernel
theorem d_Mdl_hunk_61 : decode (mb M_Mdl_hunk) 61 = .ok (.iconst 0, 1) := by decide +kernel
theorem d_Mdl_hunk_62 : decode (mb M_Mdl_hunk) 62 = .ok (.ireturn, 1) := by decide +kernel
theorem d_Mdl_hunk_63 : decode (mb M_Mdl_hunk) 63 = .ok (.bipush 21, 2) := by decide +kernel
theorem d_Mdl_hunk_65 : decode (mb M_Mdl_hunk) 65 = .ok (.iload_n 1, 1) := by decide +kernel
theorem d_Mdl_hunk_66 : decode (mb M_Mdl_hunk) 66 = .ok (.imul, 1) := by decide +kernel
theorem d_Mdl_hunk_67 : decode (mb M_Mdl_hunk) 67 = .ok (.iload_n 2, 1) := by decide +kernel
theorem d_Mdl_hunk_68 : decode (mb M_Mdl_hunk) 68 = .ok (.iadd, 1) := by decide +kernel
theorem d_Mdl_hunk_69 : decode (mb M_Mdl_hunk) 69 = .ok (.istore 5, 2) := by decide +kernel
theorem d_Mdl_hunk_71 : decode (mb M_Mdl_hunk) 71 = .ok (.iload_n 3, 1) := by decide +kernel
theorem d_Mdl_hunk_72 : decode (mb M_Mdl_hunk) 72 = .ok (.ifCond .ne 13, 3) := by decide +kernel
theorem d_Mdl_hunk_75 : decode (mb M_Mdl_hunk) 75 = .ok (.aload_n 0, 1) := by decide +kernel
theorem d_Mdl_hunk_76 : decode (mb M_Mdl_hunk) 76 = .ok (.getfield 62, 3) := by decide +kernel
theorem d_Mdl_hunk_79 : decode (mb M_Mdl_hunk) 79 = .ok (.iload 5, 2) := by decide +kernel
theorem d_Mdl_hunk_81 : decode (mb M_Mdl_hunk) 81 = .ok (.iaload, 1) := by decide +kernel
theorem d_Mdl_hunk_82 : decode (mb M_Mdl_hunk) 82 = .ok (.goto 16, 3) := by decide +kernel
theorem d_Mdl_hunk_85 : decode (mb M_Mdl_hunk) 85 = .ok (.aload_n 0, 1) := by decide +kernel
theorem d_Mdl_hunk_86 : decode (mb M_Mdl_hunk) 86 = .ok (.getfield 68, 3) := by decide +kernel
theorem d_Mdl_hunk_89 : decode (mb M_Mdl_hunk) 89 = .ok (.iconst 4, 1) := by decide +kernel
theorem d_Mdl_hunk_90 : decode (mb M_Mdl_hunk) 90 = .ok (.iload 5, 2) := by decide +kernel
theorem d_Mdl_hunk_92 : decode (mb M_Mdl_hunk) 92 = .ok (.imul, 1) := by decide +kernel
theorem d_Mdl_hunk_93 : decode (mb M_Mdl_hunk) 93 = .ok (.iload_n 3, 1) := by decide +kernel
theorem d_Mdl_hunk_94 : decode (mb M_Mdl_hunk) 94 = .ok (.iadd, 1) := by decide +kernel
theorem d_Mdl_hunk_95 : decode (mb M_Mdl_hunk) 95 = .ok (.iconst 1, 1) := by decide +kernel
theorem d_Mdl_hunk_96 : decode (mb M_Mdl_hunk) 96 = .ok (.isub, 1) := by decide +kernel
theorem d_Mdl_hunk_97 : decode (mb M_Mdl_hunk) 97 = .ok (.iaload, 1) := by decide +kernel
theorem d_Mdl_hunk_98 : decode (mb M_Mdl_hunk) 98 = .ok (.ireturn, 1) := by decide +kernel
theorem d_Mdl_id_0 : decode (mb M_Mdl_id) 0 = .ok (.aload_n 0, 1) := by decide +kernel
theorem d_Mdl_id_1 : decode (mb M_Mdl_id) 1 = .ok (.getfield 7, 3) := by decide +kernel
theorem d_Mdl_id_4 : decode (mb M_Mdl_id) 4 = .ok (.aload_n 0, 1) := by decide +kernel
theorem d_Mdl_id_5 : decode (mb M_Mdl_id) 5 = .ok (.getfield 159, 3) := by decide +kernel
theorem d_Mdl_id_8 : decode (mb M_Mdl_id) 8 = .ok (.lload_n 1, 1) := by decide +kernel
theorem d_Mdl_id_9 : decode (mb M_Mdl_id) 9 = .ok (.lastore, 1) := by decide +kernel
theorem d_Mdl_id_10 : decode (mb M_Mdl_id) 10 = .ok (.aload_n 0, 1) := by decide +kernel
theorem d_Mdl_id_11 : decode (mb M_Mdl_id) 11 = .ok (.getfield 13, 3) := by decide +kernel
theorem d_Mdl_id_14 : decode (mb M_Mdl_id) 14 = .ok (.aload_n 0, 1) := by decide +kernel
theorem d_Mdl_id_15 : decode (mb M_Mdl_id) 15 = .ok (.getfield 159, 3) := by decide +kernel
theorem d_Mdl_id_18 : decode (mb M_Mdl_id) 18 = .ok (.iload_n 3, 1) := by decide +kernel
theorem d_Mdl_id_19 : decode (mb M_Mdl_id) 19 = .ok (.iastore, 1) := by decide +kernel
theorem d_Mdl_id_20 : decode (mb M_Mdl_id) 20 = .ok (.aload_n 0, 1) := by decide +kernel
theorem d_Mdl_id_21 : decode (mb M_Mdl_id) 21 = .ok (.getfield 17, 3) := by decide +kernel
theorem d_Mdl_id_24 : decode (mb M_Mdl_id) 24 = .ok (.aload_n 0, 1) := by decide +kernel
theorem d_Mdl_id_25 : decode (mb M_Mdl_id) 25 = .ok (.getfield 159, 3) := by decide +kernel
theorem d_Mdl_id_28 : decode (mb M_Mdl_id) 28 = .ok (.iload 4, 2) := by decide +kernel
theorem d_Mdl_id_30 : decode (mb M_Mdl_id) 30 = .ok (.iastore, 1) := by decide +kernel
theorem d_Mdl_id_31 : decode (mb M_Mdl_id) 31 = .ok (.aload_n 0, 1) := by decide +kernel
theorem d_Mdl_id_32 : decode (mb M_Mdl_id) 32 = .ok (.dup, 1) := by decide +kernel
theorem d_Mdl_id_33 : decode (mb M_Mdl_id) 33 = .ok (.getfield 159, 3) := by decide +kernel
theorem d_Mdl_id_36 : decode (mb M_Mdl_id) 36 = .ok (.iconst 1, 1) := by decide +kernel
theorem d_Mdl_id_37 : decode (mb M_Mdl_id) 37 = .ok (.iadd, 1) := by decide +kernel
theorem d_Mdl_id_38 : decode (mb M_Mdl_id) 38 = .ok (.putfield 159, 3) := by decide +kernel
theorem d_Mdl_id_41 : decode (mb M_Mdl_id) 41 = .ok (.aload_n 0, 1) := by decide +kernel
theorem d_Mdl_id_42 : decode (mb M_Mdl_id) 42 = .ok (.getfield 159, 3) := by decide +kernel
theorem d_Mdl_id_45 : decode (mb M_Mdl_id) 45 = .ok (.iconst 1, 1) := by decide +kernel
theorem d_Mdl_id_46 : decode (mb M_Mdl_id) 46 = .ok (.isub, 1) := by decide +kernel
theorem d_Mdl_id_47 : decode (mb M_Mdl_id) 47 = .ok (.ireturn, 1) := by decide +kernel
theorem d_Mdl_in_0 : decode (mb M_Mdl_in) 0 = .ok (.iload_n 0, 1) := by decide +kernel
theorem d_Mdl_in_1 : decode (mb M_Mdl_in) 1 = .ok (.iload_n 1, 1) := by decide +kernel
theorem d_Mdl_in_2 : decode (mb M_Mdl_in) 2 = .ok (.if_icmp .lt 12, 3) := by decide +kernel
theorem d_Mdl_in_5 : decode (mb M_Mdl_in) 5 = .ok (.iload_n 0, 1) := by decide +kernel
theorem d_Mdl_in_6 : decode (mb M_Mdl_in) 6 = .ok (.iload_n 2, 1) := by decide +kernel
theorem d_Mdl_in_7 : decode (mb M_Mdl_in) 7 = .ok (.if_icmp .gt 7, 3) := by decide +kernel
theorem d_Mdl_in_10 : decode (mb M_Mdl_in) 10 = .ok (.iconst 1, 1) := by decide +kernel
theorem d_Mdl_in_11 : decode (mb M_Mdl_in) 11 = .ok (.goto 4, 3) := by decide +kernel
theorem d_Mdl_in_14 : decode (mb M_Mdl_in) 14 = .ok (.iconst 0, 1) := by decide +kernel
theorem d_Mdl_in_15 : decode (mb M_Mdl_in) 15 = .ok (.ireturn, 1) := by decide +kernel
theorem d_Mdl_init_0 : decode (mb M_Mdl_init) 0 = .ok (.aload_n 0, 1) := by decide +kernel
theorem d_Mdl_init_1 : decode (mb M_Mdl_init) 1 = .ok (.invokespecial 1, 3) := by decide +kernel
theorem d_Mdl_init_4 : decode (mb M_Mdl_init) 4 = .ok (.aload_n 0, 1) := by decide +kernel
theorem d_Mdl_init_5 : decode (mb M_Mdl_init) 5 = .ok (.sipush 16384, 3) := by decide +kernel
theorem d_Mdl_init_8 : decode (mb M_Mdl_init) 8 = .ok (.newarray .long, 2) := by decide +kernel
theorem d_Mdl_init_10 : decode (mb M_Mdl_init) 10 = .ok (.putfield 7, 3) := by decide +kernel
theorem d_Mdl_init_13 : decode (mb M_Mdl_init) 13 = .ok (.aload_n 0, 1) := by decide +kernel
theorem d_Mdl_init_14 : decode (mb M_Mdl_init) 14 = .ok (.sipush 16384, 3) := by decide +kernel
theorem d_Mdl_init_17 : decode (mb M_Mdl_init) 17 = .ok (.newarray .int, 2) := by decide +kernel
theorem d_Mdl_init_19 : decode (mb M_Mdl_init) 19 = .ok (.putfield 13, 3) := by decide +kernel
theorem d_Mdl_init_22 : decode (mb M_Mdl_init) 22 = .ok (.aload_n 0, 1) := by decide +kernel
theorem d_Mdl_init_23 : decode (mb M_Mdl_init) 23 = .ok (.sipush 16384, 3) := by decide +kernel
theorem d_Mdl_init_26 : decode (mb M_Mdl_init) 26 = .ok (.newarray .int, 2) := by decide +kernel
theorem d_Mdl_init_28 : decode (mb M_Mdl_init) 28 = .ok (.putfield 17, 3) := by decide +kernel
theorem d_Mdl_init_31 : decode (mb M_Mdl_init) 31 = .ok (.aload_n 0, 1) := by decide +kernel
theorem d_Mdl_init_32 : decode (mb M_Mdl_init) 32 = .ok (.bipush 40, 2) := by decide +kernel
theorem d_Mdl_init_34 : decode (mb M_Mdl_init) 34 = .ok (.newarray .int, 2) := by decide +kernel
theorem d_Mdl_init_36 : decode (mb M_Mdl_init) 36 = .ok (.putfield 20, 3) := by decide +kernel
theorem d_Mdl_init_39 : decode (mb M_Mdl_init) 39 = .ok (.aload_n 0, 1) := by decide +kernel
theorem d_Mdl_init_40 : decode (mb M_Mdl_init) 40 = .ok (.sipush 800, 3) := by decide +kernel
theorem d_Mdl_init_43 : decode (mb M_Mdl_init) 43 = .ok (.newarray .int, 2) := by decide +kernel
theorem d_Mdl_init_45 : decode (mb M_Mdl_init) 45 = .ok (.putfield 23, 3) := by decide +kernel
theorem d_Mdl_init_48 : decode (mb M_Mdl_init) 48 = .ok (.aload_n 0, 1) := by decide +kernel
theorem d_Mdl_init_49 : decode (mb M_Mdl_init) 49 = .ok (.bipush 40, 2) := by decide +kernel
theorem d_Mdl_init_51 : decode (mb M_Mdl_init) 51 = .ok (.newarray .int, 2) := by decide +kernel
theorem d_Mdl_init_53 : decode (mb M_Mdl_init) 53 = .ok (.putfield 26, 3) := by decide +kernel
theorem d_Mdl_init_56 : decode (mb M_Mdl_init) 56 = .ok (.aload_n 0, 1) := by decide +kernel
theorem d_Mdl_init_57 : decode (mb M_Mdl_init) 57 = .ok (.bipush 40, 2) := by decide +kernel
theorem d_Mdl_init_59 : decode (mb M_Mdl_init) 59 = .ok (.newarray .int, 2) := by decide +kernel
theorem d_Mdl_init_61 : decode (mb M_Mdl_init) 61 = .ok (.putfield 29, 3) := by decide +kernel
theorem d_Mdl_init_64 : decode (mb M_Mdl_init) 64 = .ok (.aload_n 0, 1) := by decide +kernel
theorem d_Mdl_init_65 : decode (mb M_Mdl_init) 65 = .ok (.bipush 40, 2) := by decide +kernel
theorem d_Mdl_init_67 : decode (mb M_Mdl_init) 67 = .ok (.newarray .int, 2) := by decide +kernel
theorem d_Mdl_init_69 : decode (mb M_Mdl_init) 69 = .ok (.putfield 32, 3) := by decide +kernel
theorem d_Mdl_init_72 : decode (mb M_Mdl_init) 72 = .ok (.aload_n 0, 1) := by decide +kernel
theorem d_Mdl_init_73 : decode (mb M_Mdl_init) 73 = .ok (.bipush 64, 2) := by decide +kernel
theorem d_Mdl_init_75 : decode (mb M_Mdl_init) 75 = .ok (.newarray .int, 2) := by decide +kernel
theorem d_Mdl_init_77 : decode (mb M_Mdl_init) 77 = .ok (.putfield 35, 3) := by decide +kernel
theorem d_Mdl_init_80 : decode (mb M_Mdl_init) 80 = .ok (.aload_n 0, 1) := by decide +kernel
theorem d_Mdl_init_81 : decode (mb M_Mdl_init) 81 = .ok (.bipush 63, 2) := by decide +kernel
theorem d_Mdl_init_83 : decode (mb M_Mdl_init) 83 = .ok (.newarray .int, 2) := by decide +kernel
theorem d_Mdl_init_85 : decode (mb M_Mdl_init) 85 = .ok (.putfield 38, 3) := by decide +kernel
theorem d_Mdl_init_88 : decode (mb M_Mdl_init) 88 = .ok (.aload_n 0, 1) := by decide +kernel
theorem d_Mdl_init_89 : decode (mb M_Mdl_init) 89 = .ok (.sipush 1260, 3) := by decide +kernel
theorem d_Mdl_init_92 : decode (mb M_Mdl_init) 92 = .ok (.newarray .int, 2) := by decide +kernel
theorem d_Mdl_init_94 : decode (mb M_Mdl_init) 94 = .ok (.putfield 41, 3) := by decide +kernel
theorem d_Mdl_init_97 : decode (mb M_Mdl_init) 97 = .ok (.aload_n 0, 1) := by decide +kernel
theorem d_Mdl_init_98 : decode (mb M_Mdl_init) 98 = .ok (.sipush 640, 3) := by decide +kernel
theorem d_Mdl_init_101 : decode (mb M_Mdl_init) 101 = .ok (.newarray .int, 2) := by decide +kernel
theorem d_Mdl_init_103 : decode (mb M_Mdl_init) 103 = .ok (.putfield 44, 3) := by decide +kernel
theorem d_Mdl_init_106 : decode (mb M_Mdl_init) 106 = .ok (.aload_n 0, 1) := by decide +kernel
theorem d_Mdl_init_107 : decode (mb M_Mdl_init) 107 = .ok (.sipush 640, 3) := by decide +kernel
theorem d_Mdl_init_110 : decode (mb M_Mdl_init) 110 = .ok (.newarray .int, 2) := by decide +kernel
theorem d_Mdl_init_112 : decode (mb M_Mdl_init) 112 = .ok (.putfield 47, 3) := by decide +kernel
theorem d_Mdl_init_115 : decode (mb M_Mdl_init) 115 = .ok (.aload_n 0, 1) := by decide +kernel
theorem d_Mdl_init_116 : decode (mb M_Mdl_init) 116 = .ok (.sipush 30720, 3) := by decide +kernel
theorem d_Mdl_init_119 : decode (mb M_Mdl_init) 119 = .ok (.newarray .int, 2) := by decide +kernel
theorem d_Mdl_init_121 : decode (mb M_Mdl_init) 121 = .ok (.putfield 50, 3) := by decide +kernel
theorem d_Mdl_init_124 : decode (mb M_Mdl_init) 124 = .ok (.aload_n 0, 1) := by decide +kernel
theorem d_Mdl_init_125 : decode (mb M_Mdl_init) 125 = .ok (.bipush 20, 2) := by decide +kernel
theorem d_Mdl_init_127 : decode (mb M_Mdl_init) 127 = .ok (.newarray .int, 2) := by decide +kernel
theorem d_Mdl_init_129 : decode (mb M_Mdl_init) 129 = .ok (.putfield 53, 3) := by decide +kernel
theorem d_Mdl_init_132 : decode (mb M_Mdl_init) 132 = .ok (.aload_n 0, 1) := by decide +kernel
theorem d_Mdl_init_133 : decode (mb M_Mdl_init) 133 = .ok (.bipush 20, 2) := by decide +kernel
theorem d_Mdl_init_135 : decode (mb M_Mdl_init) 135 = .ok (.newarray .int, 2) := by decide +kernel
theorem d_Mdl_init_137 : decode (mb M_Mdl_init) 137 = .ok (.putfield 56, 3) := by decide +kernel
theorem d_Mdl_init_140 : decode (mb M_Mdl_init) 140 = .ok (.aload_n 0, 1) := by decide +kernel
theorem d_Mdl_init_141 : decode (mb M_Mdl_init) 141 = .ok (.bipush 10, 2) := by decide +kernel
theorem d_Mdl_init_143 : decode (mb M_Mdl_init) 143 = .ok (.newarray .int, 2) := by decide +kernel
theorem d_Mdl_init_145 : decode (mb M_Mdl_init) 145 = .ok (.putfield 59, 3) := by decide +kernel
theorem d_Mdl_init_148 : decode (mb M_Mdl_init) 148 = .ok (.aload_n 0, 1) := by decide +kernel
theorem d_Mdl_init_149 : decode (mb M_Mdl_init) 149 = .ok (.sipush 210, 3) := by decide +kernel
theorem d_Mdl_init_152 : decode (mb M_Mdl_init) 152 = .ok (.newarray .int, 2) := by decide +kernel
theorem d_Mdl_init_154 : decode (mb M_Mdl_init) 154 = .ok (.putfield 62, 3) := by decide +kernel
theorem d_Mdl_init_157 : decode (mb M_Mdl_init) 157 = .ok (.aload_n 0, 1) := by decide +kernel
theorem d_Mdl_init_158 : decode (mb M_Mdl_init) 158 = .ok (.sipush 210, 3) := by decide +kernel
theorem d_Mdl_init_161 : decode (mb M_Mdl_init) 161 = .ok (.newarray .int, 2) := by decide +kernel
theorem d_Mdl_init_163 : decode (mb M_Mdl_init) 163 = .ok (.putfield 65, 3) := by decide +kernel
theorem d_Mdl_init_166 : decode (mb M_Mdl_init) 166 = .ok (.aload_n 0, 1) := by decide +kernel
theorem d_Mdl_init_167 : decode (mb M_Mdl_init) 167 = .ok (.sipush 840, 3) := by decide +kernel
theorem d_Mdl_init_170 : decode (mb M_Mdl_init) 170 = .ok (.newarray .int, 2) := by decide +kernel
theorem d_Mdl_init_172 : decode (mb M_Mdl_init) 172 = .ok (.putfield 68, 3) := by decide +kernel
theorem d_Mdl_init_175 : decode (mb M_Mdl_init) 175 = .ok (.aload_n 0, 1) := by decide +kernel
theorem d_Mdl_init_176 : decode (mb M_Mdl_init) 176 = .ok (.sipush 8400, 3) := by decide +kernel
theorem d_Mdl_init_179 : decode (mb M_Mdl_init) 179 = .ok (.newarray .long, 2) := by decide +kernel
theorem d_Mdl_init_181 : decode (mb M_Mdl_init) 181 = .ok (.putfield 71, 3) := by decide +kernel
theorem d_Mdl_init_184 : decode (mb M_Mdl_init) 184 = .ok (.aload_n 0, 1) := by decide +kernel
theorem d_Mdl_init_185 : decode (mb M_Mdl_init) 185 = .ok (.sipush 1260, 3) := by decide +kernel
theorem d_Mdl_init_188 : decode (mb M_Mdl_init) 188 = .ok (.newarray .long, 2) := by decide +kernel
theorem d_Mdl_init_190 : decode (mb M_Mdl_init) 190 = .ok (.putfield 74, 3) := by decide +kernel
theorem d_Mdl_init_193 : decode (mb M_Mdl_init) 193 = .ok (.aload_n 0, 1) := by decide +kernel
theorem d_Mdl_init_194 : decode (mb M_Mdl_init) 194 = .ok (.bipush 20, 2) := by decide +kernel
theorem d_Mdl_init_196 : decode (mb M_Mdl_init) 196 = .ok (.newarray .int, 2) := by decide +kernel
theorem d_Mdl_init_198 : decode (mb M_Mdl_init) 198 = .ok (.putfield 77, 3) := by decide +kernel
theorem d_Mdl_init_201 : decode (mb M_Mdl_init) 201 = .ok (.aload_n 0, 1) := by decide +kernel
theorem d_Mdl_init_202 : decode (mb M_Mdl_init) 202 = .ok (.bipush 20, 2) := by decide +kernel
theorem d_Mdl_init_204 : decode (mb M_Mdl_init) 204 = .ok (.newarray .int, 2) := by decide +kernel
theorem d_Mdl_init_206 : decode (mb M_Mdl_init) 206 = .ok (.putfield 80, 3) := by decide +kernel
theorem d_Mdl_init_209 : decode (mb M_Mdl_init) 209 = .ok (.aload_n 0, 1) := by decide +kernel
theorem d_Mdl_init_210 : decode (mb M_Mdl_init) 210 = .ok (.bipush 20, 2) := by decide +kernel
theorem d_Mdl_init_212 : decode (mb M_Mdl_init) 212 = .ok (.newarray .int, 2) := by decide +kernel
theorem d_Mdl_init_214 : decode (mb M_Mdl_init) 214 = .ok (.putfield 83, 3) := by decide +kernel
theorem d_Mdl_init_217 : decode (mb M_Mdl_init) 217 = .ok (.aload_n 0, 1) := by decide +kernel
theorem d_Mdl_init_218 : decode (mb M_Mdl_init) 218 = .ok (.bipush 20, 2) := by decide +kernel
theorem d_Mdl_init_220 : decode (mb M_Mdl_init) 220 = .ok (.newarray .boolean, 2) := by decide +kernel
theorem d_Mdl_init_222 : decode (mb M_Mdl_init) 222 = .ok (.putfield 86, 3) := by decide +kernel
theorem d_Mdl_init_225 : decode (mb M_Mdl_init) 225 = .ok (.aload_n 0, 1) := by decide +kernel
theorem d_Mdl_init_226 : decode (mb M_Mdl_init) 226 = .ok (.bipush 120, 2) := by decide +kernel
theorem d_Mdl_init_228 : decode (mb M_Mdl_init) 228 = .ok (.newarray .int, 2) := by decide +kernel
theorem d_Mdl_init_230 : decode (mb M_Mdl_init) 230 = .ok (.putfield 90, 3) := by decide +kernel
theorem d_Mdl_init_233 : decode (mb M_Mdl_init) 233 = .ok (.aload_n 0, 1) := by decide +kernel
theorem d_Mdl_init_234 : decode (mb M_Mdl_init) 234 = .ok (.bipush 81, 2) := by decide +kernel
theorem d_Mdl_init_236 : decode (mb M_Mdl_init) 236 = .ok (.newarray .int, 2) := by decide +kernel
theorem d_Mdl_init_238 : decode (mb M_Mdl_init) 238 = .ok (.putfield 93, 3) := by decide +kernel
theorem d_Mdl_init_241 : decode (mb M_Mdl_init) 241 = .ok (.aload_n 0, 1) := by decide +kernel
theorem d_Mdl_init_242 : decode (mb M_Mdl_init) 242 = .ok (.sipush 441, 3) := by decide +kernel
theorem d_Mdl_init_245 : decode (mb M_Mdl_init) 245 = .ok (.newarray .int, 2) := by decide +kernel
theorem d_Mdl_init_247 : decode (mb M_Mdl_init) 247 = .ok (.putfield 96, 3) := by decide +kernel
theorem d_Mdl_init_250 : decode (mb M_Mdl_init) 250 = .ok (.aload_n 0, 1) := by decide +kernel
theorem d_Mdl_init_251 : decode (mb M_Mdl_init) 251 = .ok (.bipush 20, 2) := by decide +kernel
theorem d_Mdl_init_253 : decode (mb M_Mdl_init) 253 = .ok (.newarray .int, 2) := by decide +kernel
theorem d_Mdl_init_255 : decode (mb M_Mdl_init) 255 = .ok (.putfield 99, 3) := by decide +kernel
theorem d_Mdl_init_258 : decode (mb M_Mdl_init) 258 = .ok (.aload_n 0, 1) := by decide +kernel
theorem d_Mdl_init_259 : decode (mb M_Mdl_init) 259 = .ok (.bipush 20, 2) := by decide +kernel
theorem d_Mdl_init_261 : decode (mb M_Mdl_init) 261 = .ok (.newarray .int, 2) := by decide +kernel
theorem d_Mdl_init_263 : decode (mb M_Mdl_init) 263 = .ok (.putfield 102, 3) := by decide +kernel
theorem d_Mdl_init_266 : decode (mb M_Mdl_init) 266 = .ok (.aload_n 0, 1) := by decide +kernel
theorem d_Mdl_init_267 : decode (mb M_Mdl_init) 267 = .ok (.bipush 44, 2) := by decide +kernel
theorem d_Mdl_init_269 : decode (mb M_Mdl_init) 269 = .ok (.newarray .int, 2) := by decide +kernel
theorem d_Mdl_init_271 : decode (mb M_Mdl_init) 271 = .ok (.putfield 105, 3) := by decide +kernel
theorem d_Mdl_init_274 : decode (mb M_Mdl_init) 274 = .ok (.aload_n 0, 1) := by decide +kernel
theorem d_Mdl_init_275 : decode (mb M_Mdl_init) 275 = .ok (.bipush 44, 2) := by decide +kernel
theorem d_Mdl_init_277 : decode (mb M_Mdl_init) 277 = .ok (.newarray .int, 2) := by decide +kernel
theorem d_Mdl_init_279 : decode (mb M_Mdl_init) 279 = .ok (.putfield 108, 3) := by decide +kernel
theorem d_Mdl_init_282 : decode (mb M_Mdl_init) 282 = .ok (.aload_n 0, 1) := by decide +kernel
theorem d_Mdl_init_283 : decode (mb M_Mdl_init) 283 = .ok (.bipush 20, 2) := by decide +kernel
theorem d_Mdl_init_285 : decode (mb M_Mdl_init) 285 = .ok (.newarray .int, 2) := by decide +kernel
theorem d_Mdl_init_287 : decode (mb M_Mdl_init) 287 = .ok (.putfield 111, 3) := by decide +kernel
theorem d_Mdl_init_290 : decode (mb M_Mdl_init) 290 = .ok (.aload_n 0, 1) := by decide +kernel
theorem d_Mdl_init_291 : decode (mb M_Mdl_init) 291 = .ok (.sipush 484, 3) := by decide +kernel
theorem d_Mdl_init_294 : decode (mb M_Mdl_init) 294 = .ok (.newarray .int, 2) := by decide +kernel
theorem d_Mdl_init_296 : decode (mb M_Mdl_init) 296 = .ok (.putfield 114, 3) := by decide +kernel
theorem d_Mdl_init_299 : decode (mb M_Mdl_init) 299 = .ok (.aload_n 0, 1) := by decide +kernel
theorem d_Mdl_init_300 : decode (mb M_Mdl_init) 300 = .ok (.sipush 484, 3) := by decide +kernel
theorem d_Mdl_init_303 : decode (mb M_Mdl_init) 303 = .ok (.newarray .int, 2) := by decide +kernel
theorem d_Mdl_init_305 : decode (mb M_Mdl_init) 305 = .ok (.putfield 117, 3) := by decide +kernel
theorem d_Mdl_init_308 : decode (mb M_Mdl_init) 308 = .ok (.aload_n 0, 1) := by decide +kernel
theorem d_Mdl_init_309 : decode (mb M_Mdl_init) 309 = .ok (.sipush 128, 3) := by decide +kernel
theorem d_Mdl_init_312 : decode (mb M_Mdl_init) 312 = .ok (.newarray .int, 2) := by decide +kernel
theorem d_Mdl_init_314 : decode (mb M_Mdl_init) 314 = .ok (.putfield 120, 3) := by decide +kernel
theorem d_Mdl_init_317 : decode (mb M_Mdl_init) 317 = .ok (.aload_n 0, 1) := by decide +kernel
theorem d_Mdl_init_318 : decode (mb M_Mdl_init) 318 = .ok (.iconst 1, 1) := by decide +kernel
theorem d_Mdl_init_319 : decode (mb M_Mdl_init) 319 = .ok (.putfield 123, 3) := by decide +kernel
theorem d_Mdl_init_322 : decode (mb M_Mdl_init) 322 = .ok (.aload_n 0, 1) := by decide +kernel
theorem d_Mdl_init_323 : decode (mb M_Mdl_init) 323 = .ok (.getfield 26, 3) := by decide +kernel
theorem d_Mdl_init_326 : decode (mb M_Mdl_init) 326 = .ok (.iconst 0, 1) := by decide +kernel
theorem d_Mdl_init_327 : decode (mb M_Mdl_init) 327 = .ok (.iconst (-1), 1) := by decide +kernel
theorem d_Mdl_init_328 : decode (mb M_Mdl_init) 328 = .ok (.iastore, 1) := by decide +kernel
theorem d_Mdl_init_329 : decode (mb M_Mdl_init) 329 = .ok (.aload_n 0, 1) := by decide +kernel
theorem d_Mdl_init_330 : decode (mb M_Mdl_init) 330 = .ok (.getfield 29, 3) := by decide +kernel
theorem d_Mdl_init_333 : decode (mb M_Mdl_init) 333 = .ok (.iconst 0, 1) := by decide +kernel
theorem d_Mdl_init_334 : decode (mb M_Mdl_init) 334 = .ok (.iconst (-1), 1) := by decide +kernel
theorem d_Mdl_init_335 : decode (mb M_Mdl_init) 335 = .ok (.iastore, 1) := by decide +kernel
theorem d_Mdl_init_336 : decode (mb M_Mdl_init) 336 = .ok (.aload_n 0, 1) := by decide +kernel
theorem d_Mdl_init_337 : decode (mb M_Mdl_init) 337 = .ok (.getfield 32, 3) := by decide +kernel
theorem d_Mdl_init_340 : decode (mb M_Mdl_init) 340 = .ok (.iconst 0, 1) := by decide +kernel
theorem d_Mdl_init_341 : decode (mb M_Mdl_init) 341 = .ok (.iconst (-1), 1) := by decide +kernel
theorem d_Mdl_init_342 : decode (mb M_Mdl_init) 342 = .ok (.iastore, 1) := by decide +kernel
theorem d_Mdl_init_343 : decode (mb M_Mdl_init) 343 = .ok (.return_, 1) := by decide +kernel
theorem d_Mdl_insert_0 : decode (mb M_Mdl_insert) 0 = .ok (.aload_n 0, 1) := by decide +kernel
theorem d_Mdl_insert_1 : decode (mb M_Mdl_insert) 1 = .ok (.getfield 178, 3) := by decide +kernel
theorem d_Mdl_insert_4 : decode (mb M_Mdl_insert) 4 = .ok (.ifCond .eq 19, 3) := by decide +kernel
theorem d_Mdl_insert_7 : decode (mb M_Mdl_insert) 7 = .ok (.iload_n 1, 1) := by decide +kernel
theorem d_Mdl_insert_8 : decode (mb M_Mdl_insert) 8 = .ok (.iconst 0, 1) := by decide +kernel
theorem d_Mdl_insert_9 : decode (mb M_Mdl_insert) 9 = .ok (.aload_n 0, 1) := by decide +kernel
theorem d_Mdl_insert_10 : decode (mb M_Mdl_insert) 10 = .ok (.invokevirtual 197, 3) := by decide +kernel
theorem d_Mdl_insert_13 : decode (mb M_Mdl_insert) 13 = .ok (.invokestatic 130, 3) := by decide +kernel
theorem d_Mdl_insert_16 : decode (mb M_Mdl_insert) 16 = .ok (.ifCond .eq 7, 3) := by decide +kernel
theorem d_Mdl_insert_19 : decode (mb M_Mdl_insert) 19 = .ok (.iconst 1, 1) := by decide +kernel
theorem d_Mdl_insert_20 : decode (mb M_Mdl_insert) 20 = .ok (.goto 4, 3) := by decide +kernel
theorem d_Mdl_insert_23 : decode (mb M_Mdl_insert) 23 = .ok (.iconst 0, 1) := by decide +kernel
theorem d_Mdl_insert_24 : decode (mb M_Mdl_insert) 24 = .ok (.istore 4, 2) := by decide +kernel
theorem d_Mdl_insert_26 : decode (mb M_Mdl_insert) 26 = .ok (.aload_n 0, 1) := by decide +kernel
theorem d_Mdl_insert_27 : decode (mb M_Mdl_insert) 27 = .ok (.iload 4, 2) := by decide +kernel
theorem d_Mdl_insert_29 : decode (mb M_Mdl_insert) 29 = .ok (.ifCond .ne 7, 3) := by decide +kernel
theorem d_Mdl_insert_32 : decode (mb M_Mdl_insert) 32 = .ok (.iconst 1, 1) := by decide +kernel
theorem d_Mdl_insert_33 : decode (mb M_Mdl_insert) 33 = .ok (.goto 35, 3) := by decide +kernel
theorem d_Mdl_insert_36 : decode (mb M_Mdl_insert) 36 = .ok (.lload_n 2, 1) := by decide +kernel
theorem d_Mdl_insert_37 : decode (mb M_Mdl_insert) 37 = .ok (.invokestatic 147, 3) := by decide +kernel
theorem d_Mdl_insert_40 : decode (mb M_Mdl_insert) 40 = .ok (.ifCond .ne 7, 3) := by decide +kernel
theorem d_Mdl_insert_43 : decode (mb M_Mdl_insert) 43 = .ok (.iconst 2, 1) := by decide +kernel
theorem d_Mdl_insert_44 : decode (mb M_Mdl_insert) 44 = .ok (.goto 24, 3) := by decide +kernel
theorem d_Mdl_insert_47 : decode (mb M_Mdl_insert) 47 = .ok (.aload_n 0, 1) := by decide +kernel
theorem d_Mdl_insert_48 : decode (mb M_Mdl_insert) 48 = .ok (.invokevirtual 201, 3) := by decide +kernel
theorem d_Mdl_insert_51 : decode (mb M_Mdl_insert) 51 = .ok (.ifCond .eq 12, 3) := by decide +kernel
theorem d_Mdl_insert_54 : decode (mb M_Mdl_insert) 54 = .ok (.aload_n 0, 1) := by decide +kernel
theorem d_Mdl_insert_55 : decode (mb M_Mdl_insert) 55 = .ok (.getfield 194, 3) := by decide +kernel
theorem d_Mdl_insert_58 : decode (mb M_Mdl_insert) 58 = .ok (.bipush 20, 2) := by decide +kernel
theorem d_Mdl_insert_60 : decode (mb M_Mdl_insert) 60 = .ok (.if_icmp .ne 7, 3) := by decide +kernel
theorem d_Mdl_insert_63 : decode (mb M_Mdl_insert) 63 = .ok (.iconst 3, 1) := by decide +kernel
theorem d_Mdl_insert_64 : decode (mb M_Mdl_insert) 64 = .ok (.goto 4, 3) := by decide +kernel
theorem d_Mdl_insert_67 : decode (mb M_Mdl_insert) 67 = .ok (.iconst 0, 1) := by decide +kernel
theorem d_Mdl_insert_68 : decode (mb M_Mdl_insert) 68 = .ok (.invokevirtual 151, 3) := by decide +kernel
theorem d_Mdl_insert_71 : decode (mb M_Mdl_insert) 71 = .ok (.ifCond .eq 5, 3) := by decide +kernel
theorem d_Mdl_insert_74 : decode (mb M_Mdl_insert) 74 = .ok (.iconst 0, 1) := by decide +kernel
theorem d_Mdl_insert_75 : decode (mb M_Mdl_insert) 75 = .ok (.ireturn, 1) := by decide +kernel
theorem d_Mdl_insert_76 : decode (mb M_Mdl_insert) 76 = .ok (.aload_n 0, 1) := by decide +kernel
theorem d_Mdl_insert_77 : decode (mb M_Mdl_insert) 77 = .ok (.invokevirtual 205, 3) := by decide +kernel
theorem d_Mdl_insert_80 : decode (mb M_Mdl_insert) 80 = .ok (.aload_n 0, 1) := by decide +kernel
theorem d_Mdl_insert_81 : decode (mb M_Mdl_insert) 81 = .ok (.iload_n 1, 1) := by decide +kernel
theorem d_Mdl_insert_82 : decode (mb M_Mdl_insert) 82 = .ok (.aload_n 0, 1) := by decide +kernel
theorem d_Mdl_insert_83 : decode (mb M_Mdl_insert) 83 = .ok (.lload_n 2, 1) := by decide +kernel
theorem d_Mdl_insert_84 : decode (mb M_Mdl_insert) 84 = .ok (.invokevirtual 208, 3) := by decide +kernel
theorem d_Mdl_insert_87 : decode (mb M_Mdl_insert) 87 = .ok (.invokevirtual 211, 3) := by decide +kernel
theorem d_Mdl_insert_90 : decode (mb M_Mdl_insert) 90 = .ok (.aload_n 0, 1) := by decide +kernel
theorem d_Mdl_insert_91 : decode (mb M_Mdl_insert) 91 = .ok (.getfield 194, 3) := by decide +kernel
theorem d_Mdl_insert_94 : decode (mb M_Mdl_insert) 94 = .ok (.ireturn, 1) := by decide +kernel
theorem d_Mdl_isAbove_0 : decode (mb M_Mdl_isAbove) 0 = .ok (.aload_n 0, 1) := by decide +kernel
theorem d_Mdl_isAbove_1 : decode (mb M_Mdl_isAbove) 1 = .ok (.aload_n 0, 1) := by decide +kernel
theorem d_Mdl_isAbove_2 : decode (mb M_Mdl_isAbove) 2 = .ok (.iload_n 1, 1) := by decide +kernel
theorem d_Mdl_isAbove_3 : decode (mb M_Mdl_isAbove) 3 = .ok (.invokevirtual 172, 3) := by decide +kernel
theorem d_Mdl_isAbove_6 : decode (mb M_Mdl_isAbove) 6 = .ok (.ifCond .eq 15, 3) := by decide +kernel
theorem d_Mdl_isAbove_9 : decode (mb M_Mdl_isAbove) 9 = .ok (.aload_n 0, 1) := by decide +kernel
theorem d_Mdl_isAbove_10 : decode (mb M_Mdl_isAbove) 10 = .ok (.iload_n 2, 1) := by decide +kernel
theorem d_Mdl_isAbove_11 : decode (mb M_Mdl_isAbove) 11 = .ok (.invokevirtual 172, 3) := by decide +kernel
theorem d_Mdl_isAbove_14 : decode (mb M_Mdl_isAbove) 14 = .ok (.ifCond .eq 7, 3) := by decide +kernel
theorem d_Mdl_isAbove_17 : decode (mb M_Mdl_isAbove) 17 = .ok (.iconst 0, 1) := by decide +kernel
theorem d_Mdl_isAbove_18 : decode (mb M_Mdl_isAbove) 18 = .ok (.goto 4, 3) := by decide +kernel
theorem d_Mdl_isAbove_21 : decode (mb M_Mdl_isAbove) 21 = .ok (.iconst 1, 1) := by decide +kernel
theorem d_Mdl_isAbove_22 : decode (mb M_Mdl_isAbove) 22 = .ok (.invokevirtual 151, 3) := by decide +kernel
theorem d_Mdl_isAbove_25 : decode (mb M_Mdl_isAbove) 25 = .ok (.ifCond .ne 16, 3) := by decide +kernel
theorem d_Mdl_isAbove_28 : decode (mb M_Mdl_isAbove) 28 = .ok (.aload_n 0, 1) := by decide +kernel
theorem d_Mdl_isAbove_29 : decode (mb M_Mdl_isAbove) 29 = .ok (.iload_n 1, 1) := by decide +kernel
theorem d_Mdl_isAbove_30 : decode (mb M_Mdl_isAbove) 30 = .ok (.iload_n 2, 1) := by decide +kernel
theorem d_Mdl_isAbove_31 : decode (mb M_Mdl_isAbove) 31 = .ok (.invokevirtual 238, 3) := by decide +kernel
theorem d_Mdl_isAbove_34 : decode (mb M_Mdl_isAbove) 34 = .ok (.ifCond .eq 7, 3) := by decide +kernel
theorem d_Mdl_isAbove_37 : decode (mb M_Mdl_isAbove) 37 = .ok (.iconst 1, 1) := by decide +kernel
theorem d_Mdl_isAbove_38 : decode (mb M_Mdl_isAbove) 38 = .ok (.goto 4, 3) := by decide +kernel
theorem d_Mdl_isAbove_41 : decode (mb M_Mdl_isAbove) 41 = .ok (.iconst 0, 1) := by decide +kernel
theorem d_Mdl_isAbove_42 : decode (mb M_Mdl_isAbove) 42 = .ok (.ireturn, 1) := by decide +kernel
theorem d_Mdl_isBelow_0 : decode (mb M_Mdl_isBelow) 0 = .ok (.aload_n 0, 1) := by decide +kernel
theorem d_Mdl_isBelow_1 : decode (mb M_Mdl_isBelow) 1 = .ok (.getfield 111, 3) := by decide +kernel
theorem d_Mdl_isBelow_4 : decode (mb M_Mdl_isBelow) 4 = .ok (.iload_n 1, 1) := by decide +kernel
theorem d_Mdl_isBelow_5 : decode (mb M_Mdl_isBelow) 5 = .ok (.iaload, 1) := by decide +kernel
theorem d_Mdl_isBelow_6 : decode (mb M_Mdl_isBelow) 6 = .ok (.istore_n 3, 1) := by decide +kernel
theorem d_Mdl_isBelow_7 : decode (mb M_Mdl_isBelow) 7 = .ok (.iload_n 3, 1) := by decide +kernel
theorem d_Mdl_isBelow_8 : decode (mb M_Mdl_isBelow) 8 = .ok (.iconst (-1), 1) := by decide +kernel
theorem d_Mdl_isBelow_9 : decode (mb M_Mdl_isBelow) 9 = .ok (.if_icmp .eq 18, 3) := by decide +kernel
theorem d_Mdl_isBelow_12 : decode (mb M_Mdl_isBelow) 12 = .ok (.iload_n 3, 1) := by decide +kernel
theorem d_Mdl_isBelow_13 : decode (mb M_Mdl_isBelow) 13 = .ok (.iload_n 2, 1) := by decide +kernel
theorem d_Mdl_isBelow_14 : decode (mb M_Mdl_isBelow) 14 = .ok (.if_icmp .eq 13, 3) := by decide +kernel
theorem d_Mdl_isBelow_17 : decode (mb M_Mdl_isBelow) 17 = .ok (.aload_n 0, 1) := by decide +kernel
theorem d_Mdl_isBelow_18 : decode (mb M_Mdl_isBelow) 18 = .ok (.getfield 111, 3) := by decide +kernel
theorem d_Mdl_isBelow_21 : decode (mb M_Mdl_isBelow) 21 = .ok (.iload_n 3, 1) := by decide +kernel
theorem d_Mdl_isBelow_22 : decode (mb M_Mdl_isBelow) 22 = .ok (.iaload, 1) := by decide +kernel
theorem d_Mdl_isBelow_23 : decode (mb M_Mdl_isBelow) 23 = .ok (.istore_n 3, 1) := by decide +kernel
theorem d_Mdl_isBelow_24 : decode (mb M_Mdl_isBelow) 24 = .ok (.goto (-17), 3) := by decide +kernel
theorem d_Mdl_isBelow_27 : decode (mb M_Mdl_isBelow) 27 = .ok (.iload_n 3, 1) := by decide +kernel
theorem d_Mdl_isBelow_28 : decode (mb M_Mdl_isBelow) 28 = .ok (.iconst (-1), 1) := by decide +kernel
theorem d_Mdl_isBelow_29 : decode (mb M_Mdl_isBelow) 29 = .ok (.if_icmp .eq 7, 3) := by decide +kernel
theorem d_Mdl_isBelow_32 : decode (mb M_Mdl_isBelow) 32 = .ok (.iconst 1, 1) := by decide +kernel
theorem d_Mdl_isBelow_33 : decode (mb M_Mdl_isBelow) 33 = .ok (.goto 4, 3) := by decide +kernel
theorem d_Mdl_isBelow_36 : decode (mb M_Mdl_isBelow) 36 = .ok (.iconst 0, 1) := by decide +kernel
theorem d_Mdl_isBelow_37 : decode (mb M_Mdl_isBelow) 37 = .ok (.ireturn, 1) := by decide +kernel
theorem d_Mdl_isCompared_0 : decode (mb M_Mdl_isCompared) 0 = .ok (.aload_n 0, 1) := by decide +kernel
theorem d_Mdl_isCompared_1 : decode (mb M_Mdl_isCompared) 1 = .ok (.getfield 253, 3) := by decide +kernel
theorem d_Mdl_isCompared_4 : decode (mb M_Mdl_isCompared) 4 = .ok (.ifCond .eq 21, 3) := by decide +kernel
theorem d_Mdl_isCompared_7 : decode (mb M_Mdl_isCompared) 7 = .ok (.iload_n 1, 1) := by decide +kernel
theorem d_Mdl_isCompared_8 : decode (mb M_Mdl_isCompared) 8 = .ok (.iconst 0, 1) := by decide +kernel
theorem d_Mdl_isCompared_9 : decode (mb M_Mdl_isCompared) 9 = .ok (.aload_n 0, 1) := by decide +kernel
theorem d_Mdl_isCompared_10 : decode (mb M_Mdl_isCompared) 10 = .ok (.getfield 256, 3) := by decide +kernel
theorem d_Mdl_isCompared_13 : decode (mb M_Mdl_isCompared) 13 = .ok (.iconst 1, 1) := by decide +kernel
theorem d_Mdl_isCompared_14 : decode (mb M_Mdl_isCompared) 14 = .ok (.isub, 1) := by decide +kernel
theorem d_Mdl_isCompared_15 : decode (mb M_Mdl_isCompared) 15 = .ok (.invokestatic 130, 3) := by decide +kernel
theorem d_Mdl_isCompared_18 : decode (mb M_Mdl_isCompared) 18 = .ok (.ifCond .eq 7, 3) := by decide +kernel
theorem d_Mdl_isCompared_21 : decode (mb M_Mdl_isCompared) 21 = .ok (.iconst 1, 1) := by decide +kernel
theorem d_Mdl_isCompared_22 : decode (mb M_Mdl_isCompared) 22 = .ok (.goto 4, 3) := by decide +kernel
theorem d_Mdl_isCompared_25 : decode (mb M_Mdl_isCompared) 25 = .ok (.iconst 0, 1) := by decide +kernel
theorem d_Mdl_isCompared_26 : decode (mb M_Mdl_isCompared) 26 = .ok (.ireturn, 1) := by decide +kernel
theorem d_Mdl_isConflict_0 : decode (mb M_Mdl_isConflict) 0 = .ok (.aload_n 0, 1) := by decide +kernel
theorem d_Mdl_isConflict_1 : decode (mb M_Mdl_isConflict) 1 = .ok (.getfield 178, 3) := by decide +kernel
theorem d_Mdl_isConflict_4 : decode (mb M_Mdl_isConflict) 4 = .ok (.ifCond .eq 21, 3) := by decide +kernel
theorem d_Mdl_isConflict_7 : decode (mb M_Mdl_isConflict) 7 = .ok (.iload_n 1, 1) := by decide +kernel
theorem d_Mdl_isConflict_8 : decode (mb M_Mdl_isConflict) 8 = .ok (.iconst 0, 1) := by decide +kernel
theorem d_Mdl_isConflict_9 : decode (mb M_Mdl_isConflict) 9 = .ok (.aload_n 0, 1) := by decide +kernel
theorem d_Mdl_isConflict_10 : decode (mb M_Mdl_isConflict) 10 = .ok (.getfield 185, 3) := by decide +kernel
theorem d_Mdl_isConflict_13 : decode (mb M_Mdl_isConflict) 13 = .ok (.iconst 1, 1) := by decide +kernel
theorem d_Mdl_isConflict_14 : decode (mb M_Mdl_isConflict) 14 = .ok (.isub, 1) := by decide +kernel
theorem d_Mdl_isConflict_15 : decode (mb M_Mdl_isConflict) 15 = .ok (.invokestatic 130, 3) := by decide +kernel
theorem d_Mdl_isConflict_18 : decode (mb M_Mdl_isConflict) 18 = .ok (.ifCond .eq 7, 3) := by decide +kernel
theorem d_Mdl_isConflict_21 : decode (mb M_Mdl_isConflict) 21 = .ok (.iconst 1, 1) := by decide +kernel
theorem d_Mdl_isConflict_22 : decode (mb M_Mdl_isConflict) 22 = .ok (.goto 4, 3) := by decide +kernel
theorem d_Mdl_isConflict_25 : decode (mb M_Mdl_isConflict) 25 = .ok (.iconst 0, 1) := by decide +kernel
theorem d_Mdl_isConflict_26 : decode (mb M_Mdl_isConflict) 26 = .ok (.ireturn, 1) := by decide +kernel
theorem d_Mdl_isKey_0 : decode (mb M_Mdl_isKey) 0 = .ok (.iconst 1, 1) := by decide +kernel
theorem d_Mdl_isKey_1 : decode (mb M_Mdl_isKey) 1 = .ok (.istore 4, 2) := by decide +kernel
theorem d_Mdl_isKey_3 : decode (mb M_Mdl_isKey) 3 = .ok (.iload_n 2, 1) := by decide +kernel
theorem d_Mdl_isKey_4 : decode (mb M_Mdl_isKey) 4 = .ok (.iconst 1, 1) := by decide +kernel
theorem d_Mdl_isKey_5 : decode (mb M_Mdl_isKey) 5 = .ok (.iadd, 1) := by decide +kernel
theorem d_Mdl_isKey_6 : decode (mb M_Mdl_isKey) 6 = .ok (.istore 5, 2) := by decide +kernel
theorem d_Mdl_isKey_8 : decode (mb M_Mdl_isKey) 8 = .ok (.iload 5, 2) := by decide +kernel
theorem d_Mdl_isKey_10 : decode (mb M_Mdl_isKey) 10 = .ok (.iload_n 3, 1) := by decide +kernel
theorem d_Mdl_isKey_11 : decode (mb M_Mdl_isKey) 11 = .ok (.if_icmp .gt 47, 3) := by decide +kernel
theorem d_Mdl_isKey_14 : decode (mb M_Mdl_isKey) 14 = .ok (.iload 4, 2) := by decide +kernel
theorem d_Mdl_isKey_16 : decode (mb M_Mdl_isKey) 16 = .ok (.ifCond .eq 33, 3) := by decide +kernel
theorem d_Mdl_isKey_19 : decode (mb M_Mdl_isKey) 19 = .ok (.aload_n 0, 1) := by decide +kernel
theorem d_Mdl_isKey_20 : decode (mb M_Mdl_isKey) 20 = .ok (.getfield 108, 3) := by decide +kernel
theorem d_Mdl_isKey_23 : decode (mb M_Mdl_isKey) 23 = .ok (.bipush 22, 2) := by decide +kernel
theorem d_Mdl_isKey_25 : decode (mb M_Mdl_isKey) 25 = .ok (.iload_n 1, 1) := by decide +kernel
theorem d_Mdl_isKey_26 : decode (mb M_Mdl_isKey) 26 = .ok (.imul, 1) := by decide +kernel
theorem d_Mdl_isKey_27 : decode (mb M_Mdl_isKey) 27 = .ok (.iload 5, 2) := by decide +kernel
theorem d_Mdl_isKey_29 : decode (mb M_Mdl_isKey) 29 = .ok (.iadd, 1) := by decide +kernel
theorem d_Mdl_isKey_30 : decode (mb M_Mdl_isKey) 30 = .ok (.iaload, 1) := by decide +kernel
theorem d_Mdl_isKey_31 : decode (mb M_Mdl_isKey) 31 = .ok (.aload_n 0, 1) := by decide +kernel
theorem d_Mdl_isKey_32 : decode (mb M_Mdl_isKey) 32 = .ok (.getfield 108, 3) := by decide +kernel
theorem d_Mdl_isKey_35 : decode (mb M_Mdl_isKey) 35 = .ok (.bipush 22, 2) := by decide +kernel
theorem d_Mdl_isKey_37 : decode (mb M_Mdl_isKey) 37 = .ok (.iload_n 1, 1) := by decide +kernel
theorem d_Mdl_isKey_38 : decode (mb M_Mdl_isKey) 38 = .ok (.imul, 1) := by decide +kernel
theorem d_Mdl_isKey_39 : decode (mb M_Mdl_isKey) 39 = .ok (.iload_n 2, 1) := by decide +kernel
theorem d_Mdl_isKey_40 : decode (mb M_Mdl_isKey) 40 = .ok (.iadd, 1) := by decide +kernel
theorem d_Mdl_isKey_41 : decode (mb M_Mdl_isKey) 41 = .ok (.iaload, 1) := by decide +kernel
theorem d_Mdl_isKey_42 : decode (mb M_Mdl_isKey) 42 = .ok (.if_icmp .eq 7, 3) := by decide +kernel
theorem d_Mdl_isKey_45 : decode (mb M_Mdl_isKey) 45 = .ok (.iconst 1, 1) := by decide +kernel
theorem d_Mdl_isKey_46 : decode (mb M_Mdl_isKey) 46 = .ok (.goto 4, 3) := by decide +kernel
theorem d_Mdl_isKey_49 : decode (mb M_Mdl_isKey) 49 = .ok (.iconst 0, 1) := by decide +kernel
theorem d_Mdl_isKey_50 : decode (mb M_Mdl_isKey) 50 = .ok (.istore 4, 2) := by decide +kernel
theorem d_Mdl_isKey_52 : decode (mb M_Mdl_isKey) 52 = .ok (.iinc 5 1, 3) := by decide +kernel
theorem d_Mdl_isKey_55 : decode (mb M_Mdl_isKey) 55 = .ok (.goto (-47), 3) := by decide +kernel
theorem d_Mdl_isKey_58 : decode (mb M_Mdl_isKey) 58 = .ok (.iload 4, 2) := by decide +kernel
theorem d_Mdl_isKey_60 : decode (mb M_Mdl_isKey) 60 = .ok (.ireturn, 1) := by decide +kernel
theorem d_Mdl_isLine_0 : decode (mb M_Mdl_isLine) 0 = .ok (.lload_n 0, 1) := by decide +kernel
theorem d_Mdl_isLine_1 : decode (mb M_Mdl_isLine) 1 = .ok (.invokestatic 140, 3) := by decide +kernel
theorem d_Mdl_isLine_4 : decode (mb M_Mdl_isLine) 4 = .ok (.istore_n 2, 1) := by decide +kernel
theorem d_Mdl_isLine_5 : decode (mb M_Mdl_isLine) 5 = .ok (.lload_n 0, 1) := by decide +kernel
theorem d_Mdl_isLine_6 : decode (mb M_Mdl_isLine) 6 = .ok (.invokestatic 144, 3) := by decide +kernel
theorem d_Mdl_isLine_9 : decode (mb M_Mdl_isLine) 9 = .ok (.ifCond .le 7, 3) := by decide +kernel
theorem d_Mdl_isLine_12 : decode (mb M_Mdl_isLine) 12 = .ok (.iconst 1, 1) := by decide +kernel
theorem d_Mdl_isLine_13 : decode (mb M_Mdl_isLine) 13 = .ok (.goto 4, 3) := by decide +kernel
theorem d_Mdl_isLine_16 : decode (mb M_Mdl_isLine) 16 = .ok (.iconst 0, 1) := by decide +kernel
theorem d_Mdl_isLine_17 : decode (mb M_Mdl_isLine) 17 = .ok (.istore_n 3, 1) := by decide +kernel
theorem d_Mdl_isLine_18 : decode (mb M_Mdl_isLine) 18 = .ok (.iconst 0, 1) := by decide +kernel
theorem d_Mdl_isLine_19 : decode (mb M_Mdl_isLine) 19 = .ok (.istore 4, 2) := by decide +kernel
theorem d_Mdl_isLine_21 : decode (mb M_Mdl_isLine) 21 = .ok (.iload 4, 2) := by decide +kernel
theorem d_Mdl_isLine_23 : decode (mb M_Mdl_isLine) 23 = .ok (.bipush 8, 2) := by decide +kernel
theorem d_Mdl_isLine_25 : decode (mb M_Mdl_isLine) 25 = .ok (.if_icmp .ge 60, 3) := by decide +kernel
theorem d_Mdl_isLine_28 : decode (mb M_Mdl_isLine) 28 = .ok (.lload_n 0, 1) := by decide +kernel
theorem d_Mdl_isLine_29 : decode (mb M_Mdl_isLine) 29 = .ok (.iload 4, 2) := by decide +kernel
theorem d_Mdl_isLine_31 : decode (mb M_Mdl_isLine) 31 = .ok (.invokestatic 136, 3) := by decide +kernel
theorem d_Mdl_isLine_34 : decode (mb M_Mdl_isLine) 34 = .ok (.istore 5, 2) := by decide +kernel
theorem d_Mdl_isLine_36 : decode (mb M_Mdl_isLine) 36 = .ok (.iload_n 3, 1) := by decide +kernel
theorem d_Mdl_isLine_37 : decode (mb M_Mdl_isLine) 37 = .ok (.ifCond .eq 40, 3) := by decide +kernel
theorem d_Mdl_isLine_40 : decode (mb M_Mdl_isLine) 40 = .ok (.iload 4, 2) := by decide +kernel
theorem d_Mdl_isLine_42 : decode (mb M_Mdl_isLine) 42 = .ok (.iload_n 2, 1) := by decide +kernel
theorem d_Mdl_isLine_43 : decode (mb M_Mdl_isLine) 43 = .ok (.if_icmp .ge 25, 3) := by decide +kernel
theorem d_Mdl_isLine_46 : decode (mb M_Mdl_isLine) 46 = .ok (.iload 5, 2) := by decide +kernel
theorem d_Mdl_isLine_48 : decode (mb M_Mdl_isLine) 48 = .ok (.bipush 32, 2) := by decide +kernel
theorem d_Mdl_isLine_50 : decode (mb M_Mdl_isLine) 50 = .ok (.if_icmp .eq 23, 3) := by decide +kernel
theorem d_Mdl_isLine_53 : decode (mb M_Mdl_isLine) 53 = .ok (.iload 5, 2) := by decide +kernel
theorem d_Mdl_isLine_55 : decode (mb M_Mdl_isLine) 55 = .ok (.bipush 97, 2) := by decide +kernel
theorem d_Mdl_isLine_57 : decode (mb M_Mdl_isLine) 57 = .ok (.bipush 122, 2) := by decide +kernel
theorem d_Mdl_isLine_59 : decode (mb M_Mdl_isLine) 59 = .ok (.invokestatic 130, 3) := by decide +kernel
theorem d_Mdl_isLine_62 : decode (mb M_Mdl_isLine) 62 = .ok (.ifCond .eq 15, 3) := by decide +kernel
theorem d_Mdl_isLine_65 : decode (mb M_Mdl_isLine) 65 = .ok (.goto 8, 3) := by decide +kernel
theorem d_Mdl_isLine_68 : decode (mb M_Mdl_isLine) 68 = .ok (.iload 5, 2) := by decide +kernel
theorem d_Mdl_isLine_70 : decode (mb M_Mdl_isLine) 70 = .ok (.ifCond .ne 7, 3) := by decide +kernel
theorem d_Mdl_isLine_73 : decode (mb M_Mdl_isLine) 73 = .ok (.iconst 1, 1) := by decide +kernel
theorem d_Mdl_isLine_74 : decode (mb M_Mdl_isLine) 74 = .ok (.goto 4, 3) := by decide +kernel
theorem d_Mdl_isLine_77 : decode (mb M_Mdl_isLine) 77 = .ok (.iconst 0, 1) := by decide +kernel
theorem d_Mdl_isLine_78 : decode (mb M_Mdl_isLine) 78 = .ok (.istore_n 3, 1) := by decide +kernel
theorem d_Mdl_isLine_79 : decode (mb M_Mdl_isLine) 79 = .ok (.iinc 4 1, 3) := by decide +kernel
theorem d_Mdl_isLine_82 : decode (mb M_Mdl_isLine) 82 = .ok (.goto (-61), 3) := by decide +kernel
theorem d_Mdl_isLine_85 : decode (mb M_Mdl_isLine) 85 = .ok (.iload_n 3, 1) := by decide +kernel
theorem d_Mdl_isLine_86 : decode (mb M_Mdl_isLine) 86 = .ok (.ireturn, 1) := by decide +kernel
theorem d_Mdl_isLineOf_0 : decode (mb M_Mdl_isLineOf) 0 = .ok (.aload_n 0, 1) := by decide +kernel
theorem d_Mdl_isLineOf_1 : decode (mb M_Mdl_isLineOf) 1 = .ok (.iload_n 1, 1) := by decide +kernel
theorem d_Mdl_isLineOf_2 : decode (mb M_Mdl_isLineOf) 2 = .ok (.invokevirtual 172, 3) := by decide +kernel
theorem d_Mdl_isLineOf_5 : decode (mb M_Mdl_isLineOf) 5 = .ok (.ifCond .eq 23, 3) := by decide +kernel
theorem d_Mdl_isLineOf_8 : decode (mb M_Mdl_isLineOf) 8 = .ok (.iload_n 2, 1) := by decide +kernel
theorem d_Mdl_isLineOf_9 : decode (mb M_Mdl_isLineOf) 9 = .ok (.iconst 0, 1) := by decide +kernel
theorem d_Mdl_isLineOf_10 : decode (mb M_Mdl_isLineOf) 10 = .ok (.aload_n 0, 1) := by decide +kernel
theorem d_Mdl_isLineOf_11 : decode (mb M_Mdl_isLineOf) 11 = .ok (.getfield 20, 3) := by decide +kernel
theorem d_Mdl_isLineOf_14 : decode (mb M_Mdl_isLineOf) 14 = .ok (.iload_n 1, 1) := by decide +kernel
theorem d_Mdl_isLineOf_15 : decode (mb M_Mdl_isLineOf) 15 = .ok (.iaload, 1) := by decide +kernel
theorem d_Mdl_isLineOf_16 : decode (mb M_Mdl_isLineOf) 16 = .ok (.iconst 1, 1) := by decide +kernel
theorem d_Mdl_isLineOf_17 : decode (mb M_Mdl_isLineOf) 17 = .ok (.isub, 1) := by decide +kernel
theorem d_Mdl_isLineOf_18 : decode (mb M_Mdl_isLineOf) 18 = .ok (.invokestatic 130, 3) := by decide +kernel
theorem d_Mdl_isLineOf_21 : decode (mb M_Mdl_isLineOf) 21 = .ok (.ifCond .eq 7, 3) := by decide +kernel
theorem d_Mdl_isLineOf_24 : decode (mb M_Mdl_isLineOf) 24 = .ok (.iconst 1, 1) := by decide +kernel
theorem d_Mdl_isLineOf_25 : decode (mb M_Mdl_isLineOf) 25 = .ok (.goto 4, 3) := by decide +kernel
theorem d_Mdl_isLineOf_28 : decode (mb M_Mdl_isLineOf) 28 = .ok (.iconst 0, 1) := by decide +kernel
theorem d_Mdl_isLineOf_29 : decode (mb M_Mdl_isLineOf) 29 = .ok (.ireturn, 1) := by decide +kernel
theorem d_Mdl_isOver_0 : decode (mb M_Mdl_isOver) 0 = .ok (.iload_n 1, 1) := by decide +kernel
theorem d_Mdl_isOver_1 : decode (mb M_Mdl_isOver) 1 = .ok (.iload_n 2, 1) := by decide +kernel
theorem d_Mdl_isOver_2 : decode (mb M_Mdl_isOver) 2 = .ok (.if_icmp .eq 21, 3) := by decide +kernel
theorem d_Mdl_isOver_5 : decode (mb M_Mdl_isOver) 5 = .ok (.aload_n 0, 1) := by decide +kernel
theorem d_Mdl_isOver_6 : decode (mb M_Mdl_isOver) 6 = .ok (.iload_n 1, 1) := by decide +kernel
theorem d_Mdl_isOver_7 : decode (mb M_Mdl_isOver) 7 = .ok (.invokevirtual 234, 3) := by decide +kernel
theorem d_Mdl_isOver_10 : decode (mb M_Mdl_isOver) 10 = .ok (.iload_n 2, 1) := by decide +kernel
theorem d_Mdl_isOver_11 : decode (mb M_Mdl_isOver) 11 = .ok (.lshr, 1) := by decide +kernel
theorem d_Mdl_isOver_12 : decode (mb M_Mdl_isOver) 12 = .ok (.lconst 1, 1) := by decide +kernel
theorem d_Mdl_isOver_13 : decode (mb M_Mdl_isOver) 13 = .ok (.land, 1) := by decide +kernel
theorem d_Mdl_isOver_14 : decode (mb M_Mdl_isOver) 14 = .ok (.lconst 1, 1) := by decide +kernel
theorem d_Mdl_isOver_15 : decode (mb M_Mdl_isOver) 15 = .ok (.lcmp, 1) := by decide +kernel
theorem d_Mdl_isOver_16 : decode (mb M_Mdl_isOver) 16 = .ok (.ifCond .ne 7, 3) := by decide +kernel
theorem d_Mdl_isOver_19 : decode (mb M_Mdl_isOver) 19 = .ok (.iconst 1, 1) := by decide +kernel
theorem d_Mdl_isOver_20 : decode (mb M_Mdl_isOver) 20 = .ok (.goto 4, 3) := by decide +kernel
theorem d_Mdl_isOver_23 : decode (mb M_Mdl_isOver) 23 = .ok (.iconst 0, 1) := by decide +kernel
theorem d_Mdl_isOver_24 : decode (mb M_Mdl_isOver) 24 = .ok (.ireturn, 1) := by decide +kernel
theorem d_Mdl_isPatch_0 : decode (mb M_Mdl_isPatch) 0 = .ok (.iload_n 1, 1) := by decide +kernel
theorem d_Mdl_isPatch_1 : decode (mb M_Mdl_isPatch) 1 = .ok (.iconst 0, 1) := by decide +kernel
theorem d_Mdl_isPatch_2 : decode (mb M_Mdl_isPatch) 2 = .ok (.aload_n 0, 1) := by decide +kernel
theorem d_Mdl_isPatch_3 : decode (mb M_Mdl_isPatch) 3 = .ok (.getfield 317, 3) := by decide +kernel
theorem d_Mdl_isPatch_6 : decode (mb M_Mdl_isPatch) 6 = .ok (.iconst 1, 1) := by decide +kernel
theorem d_Mdl_isPatch_7 : decode (mb M_Mdl_isPatch) 7 = .ok (.isub, 1) := by decide +kernel
theorem d_Mdl_isPatch_8 : decode (mb M_Mdl_isPatch) 8 = .ok (.invokestatic 130, 3) := by decide +kernel
theorem d_Mdl_isPatch_11 : decode (mb M_Mdl_isPatch) 11 = .ok (.ireturn, 1) := by decide +kernel
theorem d_Mdl_isPerson_0 : decode (mb M_Mdl_isPerson) 0 = .ok (.iload_n 0, 1) := by decide +kernel
theorem d_Mdl_isPerson_1 : decode (mb M_Mdl_isPerson) 1 = .ok (.iconst 0, 1) := by decide +kernel
theorem d_Mdl_isPerson_2 : decode (mb M_Mdl_isPerson) 2 = .ok (.iconst 5, 1) := by decide +kernel
theorem d_Mdl_isPerson_3 : decode (mb M_Mdl_isPerson) 3 = .ok (.invokestatic 130, 3) := by decide +kernel
theorem d_Mdl_isPerson_6 : decode (mb M_Mdl_isPerson) 6 = .ok (.ireturn, 1) := by decide +kernel
theorem d_Mdl_isPlace_0 : decode (mb M_Mdl_isPlace) 0 = .ok (.aload_n 0, 1) := by decide +kernel
theorem d_Mdl_isPlace_1 : decode (mb M_Mdl_isPlace) 1 = .ok (.getfield 178, 3) := by decide +kernel
theorem d_Mdl_isPlace_4 : decode (mb M_Mdl_isPlace) 4 = .ok (.ifCond .eq 21, 3) := by decide +kernel
theorem d_Mdl_isPlace_7 : decode (mb M_Mdl_isPlace) 7 = .ok (.iload_n 1, 1) := by decide +kernel
theorem d_Mdl_isPlace_8 : decode (mb M_Mdl_isPlace) 8 = .ok (.iconst 0, 1) := by decide +kernel
theorem d_Mdl_isPlace_9 : decode (mb M_Mdl_isPlace) 9 = .ok (.aload_n 0, 1) := by decide +kernel
theorem d_Mdl_isPlace_10 : decode (mb M_Mdl_isPlace) 10 = .ok (.invokevirtual 197, 3) := by decide +kernel
theorem d_Mdl_isPlace_13 : decode (mb M_Mdl_isPlace) 13 = .ok (.iconst 1, 1) := by decide +kernel
theorem d_Mdl_isPlace_14 : decode (mb M_Mdl_isPlace) 14 = .ok (.isub, 1) := by decide +kernel
theorem d_Mdl_isPlace_15 : decode (mb M_Mdl_isPlace) 15 = .ok (.invokestatic 130, 3) := by decide +kernel
theorem d_Mdl_isPlace_18 : decode (mb M_Mdl_isPlace) 18 = .ok (.ifCond .eq 7, 3) := by decide +kernel
theorem d_Mdl_isPlace_21 : decode (mb M_Mdl_isPlace) 21 = .ok (.iconst 1, 1) := by decide +kernel
theorem d_Mdl_isPlace_22 : decode (mb M_Mdl_isPlace) 22 = .ok (.goto 4, 3) := by decide +kernel
theorem d_Mdl_isPlace_25 : decode (mb M_Mdl_isPlace) 25 = .ok (.iconst 0, 1) := by decide +kernel
theorem d_Mdl_isPlace_26 : decode (mb M_Mdl_isPlace) 26 = .ok (.ireturn, 1) := by decide +kernel
theorem d_Mdl_isReview_0 : decode (mb M_Mdl_isReview) 0 = .ok (.iload_n 1, 1) := by decide +kernel
theorem d_Mdl_isReview_1 : decode (mb M_Mdl_isReview) 1 = .ok (.iconst 0, 1) := by decide +kernel
theorem d_Mdl_isReview_2 : decode (mb M_Mdl_isReview) 2 = .ok (.aload_n 0, 1) := by decide +kernel
theorem d_Mdl_isReview_3 : decode (mb M_Mdl_isReview) 3 = .ok (.getfield 348, 3) := by decide +kernel
theorem d_Mdl_isReview_6 : decode (mb M_Mdl_isReview) 6 = .ok (.iconst 1, 1) := by decide +kernel
theorem d_Mdl_isReview_7 : decode (mb M_Mdl_isReview) 7 = .ok (.isub, 1) := by decide +kernel
theorem d_Mdl_isReview_8 : decode (mb M_Mdl_isReview) 8 = .ok (.invokestatic 130, 3) := by decide +kernel
theorem d_Mdl_isReview_11 : decode (mb M_Mdl_isReview) 11 = .ok (.ireturn, 1) := by decide +kernel
theorem d_Mdl_isSettled_0 : decode (mb M_Mdl_isSettled) 0 = .ok (.aload_n 0, 1) := by decide +kernel
theorem d_Mdl_isSettled_1 : decode (mb M_Mdl_isSettled) 1 = .ok (.getfield 188, 3) := by decide +kernel
theorem d_Mdl_isSettled_4 : decode (mb M_Mdl_isSettled) 4 = .ok (.iconst 1, 1) := by decide +kernel
theorem d_Mdl_isSettled_5 : decode (mb M_Mdl_isSettled) 5 = .ok (.aload_n 0, 1) := by decide +kernel
theorem d_Mdl_isSettled_6 : decode (mb M_Mdl_isSettled) 6 = .ok (.getfield 185, 3) := by decide +kernel
theorem d_Mdl_isSettled_9 : decode (mb M_Mdl_isSettled) 9 = .ok (.ishl, 1) := by decide +kernel
theorem d_Mdl_isSettled_10 : decode (mb M_Mdl_isSettled) 10 = .ok (.iconst 1, 1) := by decide +kernel
theorem d_Mdl_isSettled_11 : decode (mb M_Mdl_isSettled) 11 = .ok (.isub, 1) := by decide +kernel
theorem d_Mdl_isSettled_12 : decode (mb M_Mdl_isSettled) 12 = .ok (.if_icmp .ne 7, 3) := by decide +kernel
theorem d_Mdl_isSettled_15 : decode (mb M_Mdl_isSettled) 15 = .ok (.iconst 1, 1) := by decide +kernel
theorem d_Mdl_isSettled_16 : decode (mb M_Mdl_isSettled) 16 = .ok (.goto 4, 3) := by decide +kernel
theorem d_Mdl_isSettled_19 : decode (mb M_Mdl_isSettled) 19 = .ok (.iconst 0, 1) := by decide +kernel
theorem d_Mdl_isSettled_20 : decode (mb M_Mdl_isSettled) 20 = .ok (.ireturn, 1) := by decide +kernel
theorem d_Mdl_isTaken_0 : decode (mb M_Mdl_isTaken) 0 = .ok (.iconst 0, 1) := by decide +kernel
theorem d_Mdl_isTaken_1 : decode (mb M_Mdl_isTaken) 1 = .ok (.istore_n 2, 1) := by decide +kernel
theorem d_Mdl_isTaken_2 : decode (mb M_Mdl_isTaken) 2 = .ok (.iconst 0, 1) := by decide +kernel
theorem d_Mdl_isTaken_3 : decode (mb M_Mdl_isTaken) 3 = .ok (.istore_n 3, 1) := by decide +kernel
theorem d_Mdl_isTaken_4 : decode (mb M_Mdl_isTaken) 4 = .ok (.iload_n 3, 1) := by decide +kernel
theorem d_Mdl_isTaken_5 : decode (mb M_Mdl_isTaken) 5 = .ok (.aload_n 0, 1) := by decide +kernel
theorem d_Mdl_isTaken_6 : decode (mb M_Mdl_isTaken) 6 = .ok (.getfield 256, 3) := by decide +kernel
theorem d_Mdl_isTaken_9 : decode (mb M_Mdl_isTaken) 9 = .ok (.if_icmp .ge 39, 3) := by decide +kernel
theorem d_Mdl_isTaken_12 : decode (mb M_Mdl_isTaken) 12 = .ok (.iload_n 2, 1) := by decide +kernel
theorem d_Mdl_isTaken_13 : decode (mb M_Mdl_isTaken) 13 = .ok (.ifCond .ne 23, 3) := by decide +kernel
theorem d_Mdl_isTaken_16 : decode (mb M_Mdl_isTaken) 16 = .ok (.aload_n 0, 1) := by decide +kernel
theorem d_Mdl_isTaken_17 : decode (mb M_Mdl_isTaken) 17 = .ok (.getfield 53, 3) := by decide +kernel
theorem d_Mdl_isTaken_20 : decode (mb M_Mdl_isTaken) 20 = .ok (.iload_n 3, 1) := by decide +kernel
theorem d_Mdl_isTaken_21 : decode (mb M_Mdl_isTaken) 21 = .ok (.iaload, 1) := by decide +kernel
theorem d_Mdl_isTaken_22 : decode (mb M_Mdl_isTaken) 22 = .ok (.iload_n 1, 1) := by decide +kernel
theorem d_Mdl_isTaken_23 : decode (mb M_Mdl_isTaken) 23 = .ok (.if_icmp .eq 13, 3) := by decide +kernel
theorem d_Mdl_isTaken_26 : decode (mb M_Mdl_isTaken) 26 = .ok (.aload_n 0, 1) := by decide +kernel
theorem d_Mdl_isTaken_27 : decode (mb M_Mdl_isTaken) 27 = .ok (.getfield 56, 3) := by decide +kernel
theorem d_Mdl_isTaken_30 : decode (mb M_Mdl_isTaken) 30 = .ok (.iload_n 3, 1) := by decide +kernel
theorem d_Mdl_isTaken_31 : decode (mb M_Mdl_isTaken) 31 = .ok (.iaload, 1) := by decide +kernel
theorem d_Mdl_isTaken_32 : decode (mb M_Mdl_isTaken) 32 = .ok (.iload_n 1, 1) := by decide +kernel
theorem d_Mdl_isTaken_33 : decode (mb M_Mdl_isTaken) 33 = .ok (.if_icmp .ne 7, 3) := by decide +kernel
theorem d_Mdl_isTaken_36 : decode (mb M_Mdl_isTaken) 36 = .ok (.iconst 1, 1) := by decide +kernel
theorem d_Mdl_isTaken_37 : decode (mb M_Mdl_isTaken) 37 = .ok (.goto 4, 3) := by decide +kernel
theorem d_Mdl_isTaken_40 : decode (mb M_Mdl_isTaken) 40 = .ok (.iconst 0, 1) := by decide +kernel
theorem d_Mdl_isTaken_41 : decode (mb M_Mdl_isTaken) 41 = .ok (.istore_n 2, 1) := by decide +kernel
theorem d_Mdl_isTaken_42 : decode (mb M_Mdl_isTaken) 42 = .ok (.iinc 3 1, 3) := by decide +kernel
theorem d_Mdl_isTaken_45 : decode (mb M_Mdl_isTaken) 45 = .ok (.goto (-41), 3) := by decide +kernel
theorem d_Mdl_isTaken_48 : decode (mb M_Mdl_isTaken) 48 = .ok (.iload_n 2, 1) := by decide +kernel
theorem d_Mdl_isTaken_49 : decode (mb M_Mdl_isTaken) 49 = .ok (.ireturn, 1) := by decide +kernel
theorem d_Mdl_isVersion_0 : decode (mb M_Mdl_isVersion) 0 = .ok (.iload_n 1, 1) := by decide +kernel
theorem d_Mdl_isVersion_1 : decode (mb M_Mdl_isVersion) 1 = .ok (.iconst 0, 1) := by decide +kernel
theorem d_Mdl_isVersion_2 : decode (mb M_Mdl_isVersion) 2 = .ok (.aload_n 0, 1) := by decide +kernel
theorem d_Mdl_isVersion_3 : decode (mb M_Mdl_isVersion) 3 = .ok (.getfield 123, 3) := by decide +kernel
theorem d_Mdl_isVersion_6 : decode (mb M_Mdl_isVersion) 6 = .ok (.iconst 1, 1) := by decide +kernel
theorem d_Mdl_isVersion_7 : decode (mb M_Mdl_isVersion) 7 = .ok (.isub, 1) := by decide +kernel
theorem d_Mdl_isVersion_8 : decode (mb M_Mdl_isVersion) 8 = .ok (.invokestatic 130, 3) := by decide +kernel
theorem d_Mdl_isVersion_11 : decode (mb M_Mdl_isVersion) 11 = .ok (.ireturn, 1) := by decide +kernel
theorem d_Mdl_land_0 : decode (mb M_Mdl_land) 0 = .ok (.aload_n 0, 1) := by decide +kernel
theorem d_Mdl_land_1 : decode (mb M_Mdl_land) 1 = .ok (.iload_n 1, 1) := by decide +kernel
theorem d_Mdl_land_2 : decode (mb M_Mdl_land) 2 = .ok (.invokevirtual 351, 3) := by decide +kernel
theorem d_Mdl_land_5 : decode (mb M_Mdl_land) 5 = .ok (.istore_n 2, 1) := by decide +kernel
theorem d_Mdl_land_6 : decode (mb M_Mdl_land) 6 = .ok (.iload_n 2, 1) := by decide +kernel
theorem d_Mdl_land_7 : decode (mb M_Mdl_land) 7 = .ok (.ifCond .eq 40, 3) := by decide +kernel
theorem d_Mdl_land_10 : decode (mb M_Mdl_land) 10 = .ok (.aload_n 0, 1) := by decide +kernel
theorem d_Mdl_land_11 : decode (mb M_Mdl_land) 11 = .ok (.iload_n 1, 1) := by decide +kernel
theorem d_Mdl_land_12 : decode (mb M_Mdl_land) 12 = .ok (.invokevirtual 354, 3) := by decide +kernel
theorem d_Mdl_land_15 : decode (mb M_Mdl_land) 15 = .ok (.iconst 1, 1) := by decide +kernel
theorem d_Mdl_land_16 : decode (mb M_Mdl_land) 16 = .ok (.if_icmp .ne 31, 3) := by decide +kernel
theorem d_Mdl_land_19 : decode (mb M_Mdl_land) 19 = .ok (.aload_n 0, 1) := by decide +kernel
theorem d_Mdl_land_20 : decode (mb M_Mdl_land) 20 = .ok (.getfield 83, 3) := by decide +kernel
theorem d_Mdl_land_23 : decode (mb M_Mdl_land) 23 = .ok (.iload_n 1, 1) := by decide +kernel
theorem d_Mdl_land_24 : decode (mb M_Mdl_land) 24 = .ok (.iaload, 1) := by decide +kernel
theorem d_Mdl_land_25 : decode (mb M_Mdl_land) 25 = .ok (.iconst (-1), 1) := by decide +kernel
theorem d_Mdl_land_26 : decode (mb M_Mdl_land) 26 = .ok (.if_icmp .eq 17, 3) := by decide +kernel
theorem d_Mdl_land_29 : decode (mb M_Mdl_land) 29 = .ok (.aload_n 0, 1) := by decide +kernel
theorem d_Mdl_land_30 : decode (mb M_Mdl_land) 30 = .ok (.getfield 86, 3) := by decide +kernel
theorem d_Mdl_land_33 : decode (mb M_Mdl_land) 33 = .ok (.aload_n 0, 1) := by decide +kernel
theorem d_Mdl_land_34 : decode (mb M_Mdl_land) 34 = .ok (.getfield 83, 3) := by decide +kernel
theorem d_Mdl_land_37 : decode (mb M_Mdl_land) 37 = .ok (.iload_n 1, 1) := by decide +kernel
theorem d_Mdl_land_38 : decode (mb M_Mdl_land) 38 = .ok (.iaload, 1) := by decide +kernel
theorem d_Mdl_land_39 : decode (mb M_Mdl_land) 39 = .ok (.baload, 1) := by decide +kernel
theorem d_Mdl_land_40 : decode (mb M_Mdl_land) 40 = .ok (.ifCond .eq 7, 3) := by decide +kernel
theorem d_Mdl_land_43 : decode (mb M_Mdl_land) 43 = .ok (.iconst 1, 1) := by decide +kernel
theorem d_Mdl_land_44 : decode (mb M_Mdl_land) 44 = .ok (.goto 4, 3) := by decide +kernel
theorem d_Mdl_land_47 : decode (mb M_Mdl_land) 47 = .ok (.iconst 0, 1) := by decide +kernel
theorem d_Mdl_land_48 : decode (mb M_Mdl_land) 48 = .ok (.istore_n 3, 1) := by decide +kernel
theorem d_Mdl_land_49 : decode (mb M_Mdl_land) 49 = .ok (.aload_n 0, 1) := by decide +kernel
theorem d_Mdl_land_50 : decode (mb M_Mdl_land) 50 = .ok (.iload_n 2, 1) := by decide +kernel
theorem d_Mdl_land_51 : decode (mb M_Mdl_land) 51 = .ok (.ifCond .ne 7, 3) := by decide +kernel
theorem d_Mdl_land_54 : decode (mb M_Mdl_land) 54 = .ok (.iconst 1, 1) := by decide +kernel
theorem d_Mdl_land_55 : decode (mb M_Mdl_land) 55 = .ok (.goto 12, 3) := by decide +kernel
theorem d_Mdl_land_58 : decode (mb M_Mdl_land) 58 = .ok (.iload_n 3, 1) := by decide +kernel
theorem d_Mdl_land_59 : decode (mb M_Mdl_land) 59 = .ok (.ifCond .eq 7, 3) := by decide +kernel
theorem d_Mdl_land_62 : decode (mb M_Mdl_land) 62 = .ok (.iconst 0, 1) := by decide +kernel
theorem d_Mdl_land_63 : decode (mb M_Mdl_land) 63 = .ok (.goto 4, 3) := by decide +kernel
theorem d_Mdl_land_66 : decode (mb M_Mdl_land) 66 = .ok (.iconst 2, 1) := by decide +kernel
theorem d_Mdl_land_67 : decode (mb M_Mdl_land) 67 = .ok (.invokevirtual 151, 3) := by decide +kernel
theorem d_Mdl_land_70 : decode (mb M_Mdl_land) 70 = .ok (.ifCond .eq 5, 3) := by decide +kernel
theorem d_Mdl_land_73 : decode (mb M_Mdl_land) 73 = .ok (.iconst 0, 1) := by decide +kernel
theorem d_Mdl_land_74 : decode (mb M_Mdl_land) 74 = .ok (.ireturn, 1) := by decide +kernel
theorem d_Mdl_land_75 : decode (mb M_Mdl_land) 75 = .ok (.aload_n 0, 1) := by decide +kernel
theorem d_Mdl_land_76 : decode (mb M_Mdl_land) 76 = .ok (.getfield 86, 3) := by decide +kernel
theorem d_Mdl_land_79 : decode (mb M_Mdl_land) 79 = .ok (.iload_n 1, 1) := by decide +kernel
theorem d_Mdl_land_80 : decode (mb M_Mdl_land) 80 = .ok (.iconst 1, 1) := by decide +kernel
theorem d_Mdl_land_81 : decode (mb M_Mdl_land) 81 = .ok (.bastore, 1) := by decide +kernel
theorem d_Mdl_land_82 : decode (mb M_Mdl_land) 82 = .ok (.iconst 0, 1) := by decide +kernel
theorem d_Mdl_land_83 : decode (mb M_Mdl_land) 83 = .ok (.istore 4, 2) := by decide +kernel
theorem d_Mdl_land_85 : decode (mb M_Mdl_land) 85 = .ok (.iconst 0, 1) := by decide +kernel
theorem d_Mdl_land_86 : decode (mb M_Mdl_land) 86 = .ok (.istore 5, 2) := by decide +kernel
theorem d_Mdl_land_88 : decode (mb M_Mdl_land) 88 = .ok (.iload 5, 2) := by decide +kernel
theorem d_Mdl_land_90 : decode (mb M_Mdl_land) 90 = .ok (.aload_n 0, 1) := by decide +kernel
theorem d_Mdl_land_91 : decode (mb M_Mdl_land) 91 = .ok (.getfield 348, 3) := by decide +kernel
theorem d_Mdl_land_94 : decode (mb M_Mdl_land) 94 = .ok (.if_icmp .ge 40, 3) := by decide +kernel
theorem d_Mdl_land_97 : decode (mb M_Mdl_land) 97 = .ok (.iload 4, 2) := by decide +kernel
theorem d_Mdl_land_99 : decode (mb M_Mdl_land) 99 = .ok (.aload_n 0, 1) := by decide +kernel
theorem d_Mdl_land_100 : decode (mb M_Mdl_land) 100 = .ok (.getfield 83, 3) := by decide +kernel
theorem d_Mdl_land_103 : decode (mb M_Mdl_land) 103 = .ok (.iload 5, 2) := by decide +kernel
theorem d_Mdl_land_105 : decode (mb M_Mdl_land) 105 = .ok (.iaload, 1) := by decide +kernel
theorem d_Mdl_land_106 : decode (mb M_Mdl_land) 106 = .ok (.iload_n 1, 1) := by decide +kernel
theorem d_Mdl_land_107 : decode (mb M_Mdl_land) 107 = .ok (.if_icmp .ne 17, 3) := by decide +kernel
theorem d_Mdl_land_110 : decode (mb M_Mdl_land) 110 = .ok (.aload_n 0, 1) := by decide +kernel
theorem d_Mdl_land_111 : decode (mb M_Mdl_land) 111 = .ok (.getfield 86, 3) := by decide +kernel
theorem d_Mdl_land_114 : decode (mb M_Mdl_land) 114 = .ok (.iload 5, 2) := by decide +kernel
theorem d_Mdl_land_116 : decode (mb M_Mdl_land) 116 = .ok (.baload, 1) := by decide +kernel
theorem d_Mdl_land_117 : decode (mb M_Mdl_land) 117 = .ok (.ifCond .ne 7, 3) := by decide +kernel
theorem d_Mdl_land_120 : decode (mb M_Mdl_land) 120 = .ok (.iconst 1, 1) := by decide +kernel
theorem d_Mdl_land_121 : decode (mb M_Mdl_land) 121 = .ok (.goto 4, 3) := by decide +kernel
theorem d_Mdl_land_124 : decode (mb M_Mdl_land) 124 = .ok (.iconst 0, 1) := by decide +kernel
theorem d_Mdl_land_125 : decode (mb M_Mdl_land) 125 = .ok (.iadd, 1) := by decide +kernel
theorem d_Mdl_land_126 : decode (mb M_Mdl_land) 126 = .ok (.istore 4, 2) := by decide +kernel
theorem d_Mdl_land_128 : decode (mb M_Mdl_land) 128 = .ok (.iinc 5 1, 3) := by decide +kernel
theorem d_Mdl_land_131 : decode (mb M_Mdl_land) 131 = .ok (.goto (-43), 3) := by decide +kernel
theorem d_Mdl_land_134 : decode (mb M_Mdl_land) 134 = .ok (.iload 4, 2) := by decide +kernel
theorem d_Mdl_land_136 : decode (mb M_Mdl_land) 136 = .ok (.ireturn, 1) := by decide +kernel
theorem d_Mdl_lay_0 : decode (mb M_Mdl_lay) 0 = .ok (.aload_n 0, 1) := by decide +kernel
theorem d_Mdl_lay_1 : decode (mb M_Mdl_lay) 1 = .ok (.iload_n 1, 1) := by decide +kernel
theorem d_Mdl_lay_2 : decode (mb M_Mdl_lay) 2 = .ok (.invokevirtual 324, 3) := by decide +kernel
theorem d_Mdl_lay_5 : decode (mb M_Mdl_lay) 5 = .ok (.istore_n 3, 1) := by decide +kernel
theorem d_Mdl_lay_6 : decode (mb M_Mdl_lay) 6 = .ok (.iload_n 2, 1) := by decide +kernel
theorem d_Mdl_lay_7 : decode (mb M_Mdl_lay) 7 = .ok (.iconst 0, 1) := by decide +kernel
theorem d_Mdl_lay_8 : decode (mb M_Mdl_lay) 8 = .ok (.iconst 2, 1) := by decide +kernel
theorem d_Mdl_lay_9 : decode (mb M_Mdl_lay) 9 = .ok (.invokestatic 130, 3) := by decide +kernel
theorem d_Mdl_lay_12 : decode (mb M_Mdl_lay) 12 = .ok (.istore 4, 2) := by decide +kernel
theorem d_Mdl_lay_14 : decode (mb M_Mdl_lay) 14 = .ok (.iload_n 3, 1) := by decide +kernel
theorem d_Mdl_lay_15 : decode (mb M_Mdl_lay) 15 = .ok (.ifCond .eq 26, 3) := by decide +kernel
theorem d_Mdl_lay_18 : decode (mb M_Mdl_lay) 18 = .ok (.iload 4, 2) := by decide +kernel
theorem d_Mdl_lay_20 : decode (mb M_Mdl_lay) 20 = .ok (.ifCond .eq 21, 3) := by decide +kernel
theorem d_Mdl_lay_23 : decode (mb M_Mdl_lay) 23 = .ok (.aload_n 0, 1) := by decide +kernel
theorem d_Mdl_lay_24 : decode (mb M_Mdl_lay) 24 = .ok (.getfield 178, 3) := by decide +kernel
theorem d_Mdl_lay_27 : decode (mb M_Mdl_lay) 27 = .ok (.ifCond .eq 14, 3) := by decide +kernel
theorem d_Mdl_lay_30 : decode (mb M_Mdl_lay) 30 = .ok (.aload_n 0, 1) := by decide +kernel
theorem d_Mdl_lay_31 : decode (mb M_Mdl_lay) 31 = .ok (.invokevirtual 201, 3) := by decide +kernel
theorem d_Mdl_lay_34 : decode (mb M_Mdl_lay) 34 = .ok (.ifCond .eq 7, 3) := by decide +kernel
theorem d_Mdl_lay_37 : decode (mb M_Mdl_lay) 37 = .ok (.iconst 1, 1) := by decide +kernel
theorem d_Mdl_lay_38 : decode (mb M_Mdl_lay) 38 = .ok (.goto 4, 3) := by decide +kernel
theorem d_Mdl_lay_41 : decode (mb M_Mdl_lay) 41 = .ok (.iconst 0, 1) := by decide +kernel
theorem d_Mdl_lay_42 : decode (mb M_Mdl_lay) 42 = .ok (.istore 5, 2) := by decide +kernel
theorem d_Mdl_lay_44 : decode (mb M_Mdl_lay) 44 = .ok (.aload_n 0, 1) := by decide +kernel
theorem d_Mdl_lay_45 : decode (mb M_Mdl_lay) 45 = .ok (.getfield 159, 3) := by decide +kernel
theorem d_Mdl_lay_48 : decode (mb M_Mdl_lay) 48 = .ok (.istore 6, 2) := by decide +kernel
theorem d_Mdl_lay_50 : decode (mb M_Mdl_lay) 50 = .ok (.iload 5, 2) := by decide +kernel
theorem d_Mdl_lay_52 : decode (mb M_Mdl_lay) 52 = .ok (.ifCond .eq 12, 3) := by decide +kernel
theorem d_Mdl_lay_55 : decode (mb M_Mdl_lay) 55 = .ok (.aload_n 0, 1) := by decide +kernel
theorem d_Mdl_lay_56 : decode (mb M_Mdl_lay) 56 = .ok (.iload_n 1, 1) := by decide +kernel
theorem d_Mdl_lay_57 : decode (mb M_Mdl_lay) 57 = .ok (.iload_n 2, 1) := by decide +kernel
theorem d_Mdl_lay_58 : decode (mb M_Mdl_lay) 58 = .ok (.invokevirtual 342, 3) := by decide +kernel
theorem d_Mdl_lay_61 : decode (mb M_Mdl_lay) 61 = .ok (.goto 4, 3) := by decide +kernel
theorem d_Mdl_lay_64 : decode (mb M_Mdl_lay) 64 = .ok (.iconst 0, 1) := by decide +kernel
theorem d_Mdl_lay_65 : decode (mb M_Mdl_lay) 65 = .ok (.istore 7, 2) := by decide +kernel
theorem d_Mdl_lay_67 : decode (mb M_Mdl_lay) 67 = .ok (.iload 5, 2) := by decide +kernel
theorem d_Mdl_lay_69 : decode (mb M_Mdl_lay) 69 = .ok (.ifCond .eq 16, 3) := by decide +kernel
theorem d_Mdl_lay_72 : decode (mb M_Mdl_lay) 72 = .ok (.aload_n 0, 1) := by decide +kernel
theorem d_Mdl_lay_73 : decode (mb M_Mdl_lay) 73 = .ok (.getfield 327, 3) := by decide +kernel
theorem d_Mdl_lay_76 : decode (mb M_Mdl_lay) 76 = .ok (.bipush 20, 2) := by decide +kernel
theorem d_Mdl_lay_78 : decode (mb M_Mdl_lay) 78 = .ok (.if_icmp .gt 7, 3) := by decide +kernel
theorem d_Mdl_lay_81 : decode (mb M_Mdl_lay) 81 = .ok (.iconst 1, 1) := by decide +kernel
theorem d_Mdl_lay_82 : decode (mb M_Mdl_lay) 82 = .ok (.goto 4, 3) := by decide +kernel
theorem d_Mdl_lay_85 : decode (mb M_Mdl_lay) 85 = .ok (.iconst 0, 1) := by decide +kernel
theorem d_Mdl_lay_86 : decode (mb M_Mdl_lay) 86 = .ok (.istore 5, 2) := by decide +kernel
theorem d_Mdl_lay_88 : decode (mb M_Mdl_lay) 88 = .ok (.aload_n 0, 1) := by decide +kernel
theorem d_Mdl_lay_89 : decode (mb M_Mdl_lay) 89 = .ok (.iload 5, 2) := by decide +kernel
theorem d_Mdl_lay_91 : decode (mb M_Mdl_lay) 91 = .ok (.ifCond .eq 10, 3) := by decide +kernel
theorem d_Mdl_lay_94 : decode (mb M_Mdl_lay) 94 = .ok (.aload_n 0, 1) := by decide +kernel
theorem d_Mdl_lay_95 : decode (mb M_Mdl_lay) 95 = .ok (.getfield 159, 3) := by decide +kernel
theorem d_Mdl_lay_98 : decode (mb M_Mdl_lay) 98 = .ok (.goto 5, 3) := by decide +kernel
theorem d_Mdl_lay_101 : decode (mb M_Mdl_lay) 101 = .ok (.iload 6, 2) := by decide +kernel
theorem d_Mdl_lay_103 : decode (mb M_Mdl_lay) 103 = .ok (.putfield 159, 3) := by decide +kernel
theorem d_Mdl_lay_106 : decode (mb M_Mdl_lay) 106 = .ok (.aload_n 0, 1) := by decide +kernel
theorem d_Mdl_lay_107 : decode (mb M_Mdl_lay) 107 = .ok (.iload_n 3, 1) := by decide +kernel
theorem d_Mdl_lay_108 : decode (mb M_Mdl_lay) 108 = .ok (.ifCond .ne 7, 3) := by decide +kernel
theorem d_Mdl_lay_111 : decode (mb M_Mdl_lay) 111 = .ok (.iconst 1, 1) := by decide +kernel
theorem d_Mdl_lay_112 : decode (mb M_Mdl_lay) 112 = .ok (.goto 22, 3) := by decide +kernel
theorem d_Mdl_lay_115 : decode (mb M_Mdl_lay) 115 = .ok (.iload 4, 2) := by decide +kernel
theorem d_Mdl_lay_117 : decode (mb M_Mdl_lay) 117 = .ok (.ifCond .ne 7, 3) := by decide +kernel
theorem d_Mdl_lay_120 : decode (mb M_Mdl_lay) 120 = .ok (.iconst 2, 1) := by decide +kernel
theorem d_Mdl_lay_121 : decode (mb M_Mdl_lay) 121 = .ok (.goto 13, 3) := by decide +kernel
theorem d_Mdl_lay_124 : decode (mb M_Mdl_lay) 124 = .ok (.iload 5, 2) := by decide +kernel
theorem d_Mdl_lay_126 : decode (mb M_Mdl_lay) 126 = .ok (.ifCond .eq 7, 3) := by decide +kernel
theorem d_Mdl_lay_129 : decode (mb M_Mdl_lay) 129 = .ok (.iconst 0, 1) := by decide +kernel
theorem d_Mdl_lay_130 : decode (mb M_Mdl_lay) 130 = .ok (.goto 4, 3) := by decide +kernel
theorem d_Mdl_lay_133 : decode (mb M_Mdl_lay) 133 = .ok (.iconst 3, 1) := by decide +kernel
theorem d_Mdl_lay_134 : decode (mb M_Mdl_lay) 134 = .ok (.invokevirtual 151, 3) := by decide +kernel
theorem d_Mdl_lay_137 : decode (mb M_Mdl_lay) 137 = .ok (.ifCond .eq 5, 3) := by decide +kernel
theorem d_Mdl_lay_140 : decode (mb M_Mdl_lay) 140 = .ok (.iconst 0, 1) := by decide +kernel
theorem d_Mdl_lay_141 : decode (mb M_Mdl_lay) 141 = .ok (.ireturn, 1) := by decide +kernel
theorem d_Mdl_lay_142 : decode (mb M_Mdl_lay) 142 = .ok (.aload_n 0, 1) := by decide +kernel
theorem d_Mdl_lay_143 : decode (mb M_Mdl_lay) 143 = .ok (.invokevirtual 205, 3) := by decide +kernel
theorem d_Mdl_lay_146 : decode (mb M_Mdl_lay) 146 = .ok (.aload_n 0, 1) := by decide +kernel
theorem d_Mdl_lay_147 : decode (mb M_Mdl_lay) 147 = .ok (.aload_n 0, 1) := by decide +kernel
theorem d_Mdl_lay_148 : decode (mb M_Mdl_lay) 148 = .ok (.getfield 327, 3) := by decide +kernel
theorem d_Mdl_lay_151 : decode (mb M_Mdl_lay) 151 = .ok (.putfield 194, 3) := by decide +kernel
theorem d_Mdl_lay_154 : decode (mb M_Mdl_lay) 154 = .ok (.iconst 0, 1) := by decide +kernel
theorem d_Mdl_lay_155 : decode (mb M_Mdl_lay) 155 = .ok (.istore 8, 2) := by decide +kernel
theorem d_Mdl_lay_157 : decode (mb M_Mdl_lay) 157 = .ok (.iload 8, 2) := by decide +kernel
theorem d_Mdl_lay_159 : decode (mb M_Mdl_lay) 159 = .ok (.aload_n 0, 1) := by decide +kernel
theorem d_Mdl_lay_160 : decode (mb M_Mdl_lay) 160 = .ok (.getfield 194, 3) := by decide +kernel
theorem d_Mdl_lay_163 : decode (mb M_Mdl_lay) 163 = .ok (.if_icmp .ge 23, 3) := by decide +kernel
theorem d_Mdl_lay_166 : decode (mb M_Mdl_lay) 166 = .ok (.aload_n 0, 1) := by decide +kernel
theorem d_Mdl_lay_167 : decode (mb M_Mdl_lay) 167 = .ok (.getfield 35, 3) := by decide +kernel
theorem d_Mdl_lay_170 : decode (mb M_Mdl_lay) 170 = .ok (.iload 8, 2) := by decide +kernel
theorem d_Mdl_lay_172 : decode (mb M_Mdl_lay) 172 = .ok (.aload_n 0, 1) := by decide +kernel
theorem d_Mdl_lay_173 : decode (mb M_Mdl_lay) 173 = .ok (.getfield 120, 3) := by decide +kernel
theorem d_Mdl_lay_176 : decode (mb M_Mdl_lay) 176 = .ok (.iload 8, 2) := by decide +kernel
theorem d_Mdl_lay_178 : decode (mb M_Mdl_lay) 178 = .ok (.iaload, 1) := by decide +kernel
theorem d_Mdl_lay_179 : decode (mb M_Mdl_lay) 179 = .ok (.iastore, 1) := by decide +kernel
theorem d_Mdl_lay_180 : decode (mb M_Mdl_lay) 180 = .ok (.iinc 8 1, 3) := by decide +kernel
theorem d_Mdl_lay_183 : decode (mb M_Mdl_lay) 183 = .ok (.goto (-26), 3) := by decide +kernel
theorem d_Mdl_lay_186 : decode (mb M_Mdl_lay) 186 = .ok (.iload 7, 2) := by decide +kernel
theorem d_Mdl_lay_188 : decode (mb M_Mdl_lay) 188 = .ok (.ireturn, 1) := by decide +kernel
theorem d_Mdl_layAll_0 : decode (mb M_Mdl_layAll) 0 = .ok (.aload_n 0, 1) := by decide +kernel
theorem d_Mdl_layAll_1 : decode (mb M_Mdl_layAll) 1 = .ok (.aload_n 0, 1) := by decide +kernel
theorem d_Mdl_layAll_2 : decode (mb M_Mdl_layAll) 2 = .ok (.getfield 194, 3) := by decide +kernel
theorem d_Mdl_layAll_5 : decode (mb M_Mdl_layAll) 5 = .ok (.putfield 327, 3) := by decide +kernel
theorem d_Mdl_layAll_8 : decode (mb M_Mdl_layAll) 8 = .ok (.iconst 0, 1) := by decide +kernel
theorem d_Mdl_layAll_9 : decode (mb M_Mdl_layAll) 9 = .ok (.istore_n 3, 1) := by decide +kernel
theorem d_Mdl_layAll_10 : decode (mb M_Mdl_layAll) 10 = .ok (.iload_n 3, 1) := by decide +kernel
theorem d_Mdl_layAll_11 : decode (mb M_Mdl_layAll) 11 = .ok (.aload_n 0, 1) := by decide +kernel
theorem d_Mdl_layAll_12 : decode (mb M_Mdl_layAll) 12 = .ok (.getfield 194, 3) := by decide +kernel
theorem d_Mdl_layAll_15 : decode (mb M_Mdl_layAll) 15 = .ok (.if_icmp .ge 21, 3) := by decide +kernel
theorem d_Mdl_layAll_18 : decode (mb M_Mdl_layAll) 18 = .ok (.aload_n 0, 1) := by decide +kernel
theorem d_Mdl_layAll_19 : decode (mb M_Mdl_layAll) 19 = .ok (.getfield 120, 3) := by decide +kernel
theorem d_Mdl_layAll_22 : decode (mb M_Mdl_layAll) 22 = .ok (.iload_n 3, 1) := by decide +kernel
theorem d_Mdl_layAll_23 : decode (mb M_Mdl_layAll) 23 = .ok (.aload_n 0, 1) := by decide +kernel
theorem d_Mdl_layAll_24 : decode (mb M_Mdl_layAll) 24 = .ok (.getfield 35, 3) := by decide +kernel
theorem d_Mdl_layAll_27 : decode (mb M_Mdl_layAll) 27 = .ok (.iload_n 3, 1) := by decide +kernel
theorem d_Mdl_layAll_28 : decode (mb M_Mdl_layAll) 28 = .ok (.iaload, 1) := by decide +kernel
theorem d_Mdl_layAll_29 : decode (mb M_Mdl_layAll) 29 = .ok (.iastore, 1) := by decide +kernel
theorem d_Mdl_layAll_30 : decode (mb M_Mdl_layAll) 30 = .ok (.iinc 3 1, 3) := by decide +kernel
theorem d_Mdl_layAll_33 : decode (mb M_Mdl_layAll) 33 = .ok (.goto (-23), 3) := by decide +kernel
theorem d_Mdl_layAll_36 : decode (mb M_Mdl_layAll) 36 = .ok (.iconst 0, 1) := by decide +kernel
theorem d_Mdl_layAll_37 : decode (mb M_Mdl_layAll) 37 = .ok (.istore_n 3, 1) := by decide +kernel
theorem d_Mdl_layAll_38 : decode (mb M_Mdl_layAll) 38 = .ok (.iconst 0, 1) := by decide +kernel
theorem d_Mdl_layAll_39 : decode (mb M_Mdl_layAll) 39 = .ok (.istore 4, 2) := by decide +kernel
theorem d_Mdl_layAll_41 : decode (mb M_Mdl_layAll) 41 = .ok (.iconst 0, 1) := by decide +kernel
theorem d_Mdl_layAll_42 : decode (mb M_Mdl_layAll) 42 = .ok (.istore 5, 2) := by decide +kernel
theorem d_Mdl_layAll_44 : decode (mb M_Mdl_layAll) 44 = .ok (.iconst 0, 1) := by decide +kernel
theorem d_Mdl_layAll_45 : decode (mb M_Mdl_layAll) 45 = .ok (.istore 6, 2) := by decide +kernel
theorem d_Mdl_layAll_47 : decode (mb M_Mdl_layAll) 47 = .ok (.iload 6, 2) := by decide +kernel
theorem d_Mdl_layAll_49 : decode (mb M_Mdl_layAll) 49 = .ok (.aload_n 0, 1) := by decide +kernel
theorem d_Mdl_layAll_50 : decode (mb M_Mdl_layAll) 50 = .ok (.getfield 59, 3) := by decide +kernel
theorem d_Mdl_layAll_53 : decode (mb M_Mdl_layAll) 53 = .ok (.iload_n 1, 1) := by decide +kernel
theorem d_Mdl_layAll_54 : decode (mb M_Mdl_layAll) 54 = .ok (.iaload, 1) := by decide +kernel
theorem d_Mdl_layAll_55 : decode (mb M_Mdl_layAll) 55 = .ok (.if_icmp .ge 117, 3) := by decide +kernel
theorem d_Mdl_layAll_58 : decode (mb M_Mdl_layAll) 58 = .ok (.bipush 21, 2) := by decide +kernel
theorem d_Mdl_layAll_60 : decode (mb M_Mdl_layAll) 60 = .ok (.iload_n 1, 1) := by decide +kernel
theorem d_Mdl_layAll_61 : decode (mb M_Mdl_layAll) 61 = .ok (.imul, 1) := by decide +kernel
theorem d_Mdl_layAll_62 : decode (mb M_Mdl_layAll) 62 = .ok (.iload 6, 2) := by decide +kernel
theorem d_Mdl_layAll_64 : decode (mb M_Mdl_layAll) 64 = .ok (.iadd, 1) := by decide +kernel
theorem d_Mdl_layAll_65 : decode (mb M_Mdl_layAll) 65 = .ok (.istore 7, 2) := by decide +kernel
theorem d_Mdl_layAll_67 : decode (mb M_Mdl_layAll) 67 = .ok (.aload_n 0, 1) := by decide +kernel
theorem d_Mdl_layAll_68 : decode (mb M_Mdl_layAll) 68 = .ok (.getfield 62, 3) := by decide +kernel
theorem d_Mdl_layAll_71 : decode (mb M_Mdl_layAll) 71 = .ok (.iload 7, 2) := by decide +kernel
theorem d_Mdl_layAll_73 : decode (mb M_Mdl_layAll) 73 = .ok (.iaload, 1) := by decide +kernel
theorem d_Mdl_layAll_74 : decode (mb M_Mdl_layAll) 74 = .ok (.iload 4, 2) := by decide +kernel
theorem d_Mdl_layAll_76 : decode (mb M_Mdl_layAll) 76 = .ok (.iadd, 1) := by decide +kernel
theorem d_Mdl_layAll_77 : decode (mb M_Mdl_layAll) 77 = .ok (.istore 8, 2) := by decide +kernel
theorem d_Mdl_layAll_79 : decode (mb M_Mdl_layAll) 79 = .ok (.aload_n 0, 1) := by decide +kernel
theorem d_Mdl_layAll_80 : decode (mb M_Mdl_layAll) 80 = .ok (.iload 7, 2) := by decide +kernel
theorem d_Mdl_layAll_82 : decode (mb M_Mdl_layAll) 82 = .ok (.iload 8, 2) := by decide +kernel
theorem d_Mdl_layAll_84 : decode (mb M_Mdl_layAll) 84 = .ok (.iload_n 2, 1) := by decide +kernel
theorem d_Mdl_layAll_85 : decode (mb M_Mdl_layAll) 85 = .ok (.iload 5, 2) := by decide +kernel
theorem d_Mdl_layAll_87 : decode (mb M_Mdl_layAll) 87 = .ok (.invokevirtual 334, 3) := by decide +kernel
theorem d_Mdl_layAll_90 : decode (mb M_Mdl_layAll) 90 = .ok (.istore 9, 2) := by decide +kernel
theorem d_Mdl_layAll_92 : decode (mb M_Mdl_layAll) 92 = .ok (.iload 9, 2) := by decide +kernel
theorem d_Mdl_layAll_94 : decode (mb M_Mdl_layAll) 94 = .ok (.iconst (-1), 1) := by decide +kernel
theorem d_Mdl_layAll_95 : decode (mb M_Mdl_layAll) 95 = .ok (.if_icmp .ne 9, 3) := by decide +kernel
theorem d_Mdl_layAll_98 : decode (mb M_Mdl_layAll) 98 = .ok (.iinc 3 1, 3) := by decide +kernel
theorem d_Mdl_layAll_101 : decode (mb M_Mdl_layAll) 101 = .ok (.goto 65, 3) := by decide +kernel
theorem d_Mdl_layAll_104 : decode (mb M_Mdl_layAll) 104 = .ok (.aload_n 0, 1) := by decide +kernel
theorem d_Mdl_layAll_105 : decode (mb M_Mdl_layAll) 105 = .ok (.getfield 68, 3) := by decide +kernel
theorem d_Mdl_layAll_108 : decode (mb M_Mdl_layAll) 108 = .ok (.iconst 4, 1) := by decide +kernel
theorem d_Mdl_layAll_109 : decode (mb M_Mdl_layAll) 109 = .ok (.iload 7, 2) := by decide +kernel
theorem d_Mdl_layAll_111 : decode (mb M_Mdl_layAll) 111 = .ok (.imul, 1) := by decide +kernel
theorem d_Mdl_layAll_112 : decode (mb M_Mdl_layAll) 112 = .ok (.iconst 1, 1) := by decide +kernel
theorem d_Mdl_layAll_113 : decode (mb M_Mdl_layAll) 113 = .ok (.iadd, 1) := by decide +kernel
theorem d_Mdl_layAll_114 : decode (mb M_Mdl_layAll) 114 = .ok (.iaload, 1) := by decide +kernel
theorem d_Mdl_layAll_115 : decode (mb M_Mdl_layAll) 115 = .ok (.aload_n 0, 1) := by decide +kernel
theorem d_Mdl_layAll_116 : decode (mb M_Mdl_layAll) 116 = .ok (.getfield 68, 3) := by decide +kernel
theorem d_Mdl_layAll_119 : decode (mb M_Mdl_layAll) 119 = .ok (.iconst 4, 1) := by decide +kernel
theorem d_Mdl_layAll_120 : decode (mb M_Mdl_layAll) 120 = .ok (.iload 7, 2) := by decide +kernel
theorem d_Mdl_layAll_122 : decode (mb M_Mdl_layAll) 122 = .ok (.imul, 1) := by decide +kernel
theorem d_Mdl_layAll_123 : decode (mb M_Mdl_layAll) 123 = .ok (.iaload, 1) := by decide +kernel
theorem d_Mdl_layAll_124 : decode (mb M_Mdl_layAll) 124 = .ok (.isub, 1) := by decide +kernel
theorem d_Mdl_layAll_125 : decode (mb M_Mdl_layAll) 125 = .ok (.istore 10, 2) := by decide +kernel
theorem d_Mdl_layAll_127 : decode (mb M_Mdl_layAll) 127 = .ok (.aload_n 0, 1) := by decide +kernel
theorem d_Mdl_layAll_128 : decode (mb M_Mdl_layAll) 128 = .ok (.iload 7, 2) := by decide +kernel
theorem d_Mdl_layAll_130 : decode (mb M_Mdl_layAll) 130 = .ok (.iload 9, 2) := by decide +kernel
theorem d_Mdl_layAll_132 : decode (mb M_Mdl_layAll) 132 = .ok (.iload 10, 2) := by decide +kernel
theorem d_Mdl_layAll_134 : decode (mb M_Mdl_layAll) 134 = .ok (.invokevirtual 338, 3) := by decide +kernel
theorem d_Mdl_layAll_137 : decode (mb M_Mdl_layAll) 137 = .ok (.iload 4, 2) := by decide +kernel
theorem d_Mdl_layAll_139 : decode (mb M_Mdl_layAll) 139 = .ok (.iload 10, 2) := by decide +kernel
theorem d_Mdl_layAll_141 : decode (mb M_Mdl_layAll) 141 = .ok (.iload 9, 2) := by decide +kernel
theorem d_Mdl_layAll_143 : decode (mb M_Mdl_layAll) 143 = .ok (.iadd, 1) := by decide +kernel
theorem d_Mdl_layAll_144 : decode (mb M_Mdl_layAll) 144 = .ok (.iload 8, 2) := by decide +kernel
theorem d_Mdl_layAll_146 : decode (mb M_Mdl_layAll) 146 = .ok (.isub, 1) := by decide +kernel
theorem d_Mdl_layAll_147 : decode (mb M_Mdl_layAll) 147 = .ok (.iadd, 1) := by decide +kernel
theorem d_Mdl_layAll_148 : decode (mb M_Mdl_layAll) 148 = .ok (.istore 4, 2) := by decide +kernel
theorem d_Mdl_layAll_150 : decode (mb M_Mdl_layAll) 150 = .ok (.iload 9, 2) := by decide +kernel
theorem d_Mdl_layAll_152 : decode (mb M_Mdl_layAll) 152 = .ok (.aload_n 0, 1) := by decide +kernel
theorem d_Mdl_layAll_153 : decode (mb M_Mdl_layAll) 153 = .ok (.getfield 68, 3) := by decide +kernel
theorem d_Mdl_layAll_156 : decode (mb M_Mdl_layAll) 156 = .ok (.iconst 4, 1) := by decide +kernel
theorem d_Mdl_layAll_157 : decode (mb M_Mdl_layAll) 157 = .ok (.iload 7, 2) := by decide +kernel
theorem d_Mdl_layAll_159 : decode (mb M_Mdl_layAll) 159 = .ok (.imul, 1) := by decide +kernel
theorem d_Mdl_layAll_160 : decode (mb M_Mdl_layAll) 160 = .ok (.iconst 1, 1) := by decide +kernel
theorem d_Mdl_layAll_161 : decode (mb M_Mdl_layAll) 161 = .ok (.iadd, 1) := by decide +kernel
theorem d_Mdl_layAll_162 : decode (mb M_Mdl_layAll) 162 = .ok (.iaload, 1) := by decide +kernel
theorem d_Mdl_layAll_163 : decode (mb M_Mdl_layAll) 163 = .ok (.iadd, 1) := by decide +kernel
theorem d_Mdl_layAll_164 : decode (mb M_Mdl_layAll) 164 = .ok (.istore 5, 2) := by decide +kernel
theorem d_Mdl_layAll_166 : decode (mb M_Mdl_layAll) 166 = .ok (.iinc 6 1, 3) := by decide +kernel
theorem d_Mdl_layAll_169 : decode (mb M_Mdl_layAll) 169 = .ok (.goto (-122), 3) := by decide +kernel
theorem d_Mdl_layAll_172 : decode (mb M_Mdl_layAll) 172 = .ok (.iload_n 3, 1) := by decide +kernel
theorem d_Mdl_layAll_173 : decode (mb M_Mdl_layAll) 173 = .ok (.ireturn, 1) := by decide +kernel
theorem d_Mdl_layHunk_0 : decode (mb M_Mdl_layHunk) 0 = .ok (.bipush 21, 2) := by decide +kernel
theorem d_Mdl_layHunk_2 : decode (mb M_Mdl_layHunk) 2 = .ok (.aload_n 0, 1) := by decide +kernel
theorem d_Mdl_layHunk_3 : decode (mb M_Mdl_layHunk) 3 = .ok (.getfield 317, 3) := by decide +kernel
theorem d_Mdl_layHunk_6 : decode (mb M_Mdl_layHunk) 6 = .ok (.imul, 1) := by decide +kernel
theorem d_Mdl_layHunk_7 : decode (mb M_Mdl_layHunk) 7 = .ok (.iload_n 1, 1) := by decide +kernel
theorem d_Mdl_layHunk_8 : decode (mb M_Mdl_layHunk) 8 = .ok (.iadd, 1) := by decide +kernel
theorem d_Mdl_layHunk_9 : decode (mb M_Mdl_layHunk) 9 = .ok (.istore 8, 2) := by decide +kernel
theorem d_Mdl_layHunk_11 : decode (mb M_Mdl_layHunk) 11 = .ok (.aload_n 0, 1) := by decide +kernel
theorem d_Mdl_layHunk_12 : decode (mb M_Mdl_layHunk) 12 = .ok (.getfield 62, 3) := by decide +kernel
theorem d_Mdl_layHunk_15 : decode (mb M_Mdl_layHunk) 15 = .ok (.iload 8, 2) := by decide +kernel
theorem d_Mdl_layHunk_17 : decode (mb M_Mdl_layHunk) 17 = .ok (.iload_n 3, 1) := by decide +kernel
theorem d_Mdl_layHunk_18 : decode (mb M_Mdl_layHunk) 18 = .ok (.iastore, 1) := by decide +kernel
theorem d_Mdl_layHunk_19 : decode (mb M_Mdl_layHunk) 19 = .ok (.aload_n 0, 1) := by decide +kernel
theorem d_Mdl_layHunk_20 : decode (mb M_Mdl_layHunk) 20 = .ok (.getfield 65, 3) := by decide +kernel
theorem d_Mdl_layHunk_23 : decode (mb M_Mdl_layHunk) 23 = .ok (.iload 8, 2) := by decide +kernel
theorem d_Mdl_layHunk_25 : decode (mb M_Mdl_layHunk) 25 = .ok (.iload 6, 2) := by decide +kernel
theorem d_Mdl_layHunk_27 : decode (mb M_Mdl_layHunk) 27 = .ok (.iastore, 1) := by decide +kernel
theorem d_Mdl_layHunk_28 : decode (mb M_Mdl_layHunk) 28 = .ok (.aload_n 0, 1) := by decide +kernel
theorem d_Mdl_layHunk_29 : decode (mb M_Mdl_layHunk) 29 = .ok (.getfield 68, 3) := by decide +kernel
theorem d_Mdl_layHunk_32 : decode (mb M_Mdl_layHunk) 32 = .ok (.iconst 4, 1) := by decide +kernel
theorem d_Mdl_layHunk_33 : decode (mb M_Mdl_layHunk) 33 = .ok (.iload 8, 2) := by decide +kernel
theorem d_Mdl_layHunk_35 : decode (mb M_Mdl_layHunk) 35 = .ok (.imul, 1) := by decide +kernel
theorem d_Mdl_layHunk_36 : decode (mb M_Mdl_layHunk) 36 = .ok (.iload 4, 2) := by decide +kernel
theorem d_Mdl_layHunk_38 : decode (mb M_Mdl_layHunk) 38 = .ok (.iload_n 3, 1) := by decide +kernel
theorem d_Mdl_layHunk_39 : decode (mb M_Mdl_layHunk) 39 = .ok (.isub, 1) := by decide +kernel
theorem d_Mdl_layHunk_40 : decode (mb M_Mdl_layHunk) 40 = .ok (.iastore, 1) := by decide +kernel
theorem d_Mdl_layHunk_41 : decode (mb M_Mdl_layHunk) 41 = .ok (.aload_n 0, 1) := by decide +kernel
theorem d_Mdl_layHunk_42 : decode (mb M_Mdl_layHunk) 42 = .ok (.getfield 68, 3) := by decide +kernel
theorem d_Mdl_layHunk_45 : decode (mb M_Mdl_layHunk) 45 = .ok (.iconst 4, 1) := by decide +kernel
theorem d_Mdl_layHunk_46 : decode (mb M_Mdl_layHunk) 46 = .ok (.iload 8, 2) := by decide +kernel
theorem d_Mdl_layHunk_48 : decode (mb M_Mdl_layHunk) 48 = .ok (.imul, 1) := by decide +kernel
theorem d_Mdl_layHunk_49 : decode (mb M_Mdl_layHunk) 49 = .ok (.iconst 1, 1) := by decide +kernel
theorem d_Mdl_layHunk_50 : decode (mb M_Mdl_layHunk) 50 = .ok (.iadd, 1) := by decide +kernel
theorem d_Mdl_layHunk_51 : decode (mb M_Mdl_layHunk) 51 = .ok (.iload 7, 2) := by decide +kernel
theorem d_Mdl_layHunk_53 : decode (mb M_Mdl_layHunk) 53 = .ok (.iload 6, 2) := by decide +kernel
theorem d_Mdl_layHunk_55 : decode (mb M_Mdl_layHunk) 55 = .ok (.isub, 1) := by decide +kernel
theorem d_Mdl_layHunk_56 : decode (mb M_Mdl_layHunk) 56 = .ok (.iastore, 1) := by decide +kernel
theorem d_Mdl_layHunk_57 : decode (mb M_Mdl_layHunk) 57 = .ok (.iconst 0, 1) := by decide +kernel
theorem d_Mdl_layHunk_58 : decode (mb M_Mdl_layHunk) 58 = .ok (.istore 9, 2) := by decide +kernel
theorem d_Mdl_layHunk_60 : decode (mb M_Mdl_layHunk) 60 = .ok (.iload 9, 2) := by decide +kernel
theorem d_Mdl_layHunk_62 : decode (mb M_Mdl_layHunk) 62 = .ok (.bipush 20, 2) := by decide +kernel
theorem d_Mdl_layHunk_64 : decode (mb M_Mdl_layHunk) 64 = .ok (.if_icmp .ge 105, 3) := by decide +kernel
theorem d_Mdl_layHunk_67 : decode (mb M_Mdl_layHunk) 67 = .ok (.aload_n 0, 1) := by decide +kernel
theorem d_Mdl_layHunk_68 : decode (mb M_Mdl_layHunk) 68 = .ok (.getfield 71, 3) := by decide +kernel
theorem d_Mdl_layHunk_71 : decode (mb M_Mdl_layHunk) 71 = .ok (.bipush 40, 2) := by decide +kernel
theorem d_Mdl_layHunk_73 : decode (mb M_Mdl_layHunk) 73 = .ok (.iload 8, 2) := by decide +kernel
theorem d_Mdl_layHunk_75 : decode (mb M_Mdl_layHunk) 75 = .ok (.imul, 1) := by decide +kernel
theorem d_Mdl_layHunk_76 : decode (mb M_Mdl_layHunk) 76 = .ok (.iload 9, 2) := by decide +kernel
theorem d_Mdl_layHunk_78 : decode (mb M_Mdl_layHunk) 78 = .ok (.iadd, 1) := by decide +kernel
theorem d_Mdl_layHunk_79 : decode (mb M_Mdl_layHunk) 79 = .ok (.iload_n 3, 1) := by decide +kernel
theorem d_Mdl_layHunk_80 : decode (mb M_Mdl_layHunk) 80 = .ok (.iload 9, 2) := by decide +kernel
theorem d_Mdl_layHunk_82 : decode (mb M_Mdl_layHunk) 82 = .ok (.iadd, 1) := by decide +kernel
theorem d_Mdl_layHunk_83 : decode (mb M_Mdl_layHunk) 83 = .ok (.iload 4, 2) := by decide +kernel
theorem d_Mdl_layHunk_85 : decode (mb M_Mdl_layHunk) 85 = .ok (.if_icmp .ge 25, 3) := by decide +kernel
theorem d_Mdl_layHunk_88 : decode (mb M_Mdl_layHunk) 88 = .ok (.aload_n 0, 1) := by decide +kernel
theorem d_Mdl_layHunk_89 : decode (mb M_Mdl_layHunk) 89 = .ok (.getfield 7, 3) := by decide +kernel
theorem d_Mdl_layHunk_92 : decode (mb M_Mdl_layHunk) 92 = .ok (.aload_n 0, 1) := by decide +kernel
theorem d_Mdl_layHunk_93 : decode (mb M_Mdl_layHunk) 93 = .ok (.getfield 23, 3) := by decide +kernel
theorem d_Mdl_layHunk_96 : decode (mb M_Mdl_layHunk) 96 = .ok (.bipush 20, 2) := by decide +kernel
theorem d_Mdl_layHunk_98 : decode (mb M_Mdl_layHunk) 98 = .ok (.iload_n 2, 1) := by decide +kernel
theorem d_Mdl_layHunk_99 : decode (mb M_Mdl_layHunk) 99 = .ok (.imul, 1) := by decide +kernel
theorem d_Mdl_layHunk_100 : decode (mb M_Mdl_layHunk) 100 = .ok (.iload_n 3, 1) := by decide +kernel
theorem d_Mdl_layHunk_101 : decode (mb M_Mdl_layHunk) 101 = .ok (.iadd, 1) := by decide +kernel
theorem d_Mdl_layHunk_102 : decode (mb M_Mdl_layHunk) 102 = .ok (.iload 9, 2) := by decide +kernel
theorem d_Mdl_layHunk_104 : decode (mb M_Mdl_layHunk) 104 = .ok (.iadd, 1) := by decide +kernel
theorem d_Mdl_layHunk_105 : decode (mb M_Mdl_layHunk) 105 = .ok (.iaload, 1) := by decide +kernel
theorem d_Mdl_layHunk_106 : decode (mb M_Mdl_layHunk) 106 = .ok (.laload, 1) := by decide +kernel
theorem d_Mdl_layHunk_107 : decode (mb M_Mdl_layHunk) 107 = .ok (.goto 4, 3) := by decide +kernel
theorem d_Mdl_layHunk_110 : decode (mb M_Mdl_layHunk) 110 = .ok (.lconst 0, 1) := by decide +kernel
theorem d_Mdl_layHunk_111 : decode (mb M_Mdl_layHunk) 111 = .ok (.lastore, 1) := by decide +kernel
theorem d_Mdl_layHunk_112 : decode (mb M_Mdl_layHunk) 112 = .ok (.aload_n 0, 1) := by decide +kernel
theorem d_Mdl_layHunk_113 : decode (mb M_Mdl_layHunk) 113 = .ok (.getfield 71, 3) := by decide +kernel
theorem d_Mdl_layHunk_116 : decode (mb M_Mdl_layHunk) 116 = .ok (.bipush 40, 2) := by decide +kernel
theorem d_Mdl_layHunk_118 : decode (mb M_Mdl_layHunk) 118 = .ok (.iload 8, 2) := by decide +kernel
theorem d_Mdl_layHunk_120 : decode (mb M_Mdl_layHunk) 120 = .ok (.imul, 1) := by decide +kernel
theorem d_Mdl_layHunk_121 : decode (mb M_Mdl_layHunk) 121 = .ok (.bipush 20, 2) := by decide +kernel
theorem d_Mdl_layHunk_123 : decode (mb M_Mdl_layHunk) 123 = .ok (.iadd, 1) := by decide +kernel
theorem d_Mdl_layHunk_124 : decode (mb M_Mdl_layHunk) 124 = .ok (.iload 9, 2) := by decide +kernel
theorem d_Mdl_layHunk_126 : decode (mb M_Mdl_layHunk) 126 = .ok (.iadd, 1) := by decide +kernel
theorem d_Mdl_layHunk_127 : decode (mb M_Mdl_layHunk) 127 = .ok (.iload 6, 2) := by decide +kernel
theorem d_Mdl_layHunk_129 : decode (mb M_Mdl_layHunk) 129 = .ok (.iload 9, 2) := by decide +kernel
theorem d_Mdl_layHunk_131 : decode (mb M_Mdl_layHunk) 131 = .ok (.iadd, 1) := by decide +kernel
theorem d_Mdl_layHunk_132 : decode (mb M_Mdl_layHunk) 132 = .ok (.iload 7, 2) := by decide +kernel
theorem d_Mdl_layHunk_134 : decode (mb M_Mdl_layHunk) 134 = .ok (.if_icmp .ge 27, 3) := by decide +kernel
theorem d_Mdl_layHunk_137 : decode (mb M_Mdl_layHunk) 137 = .ok (.aload_n 0, 1) := by decide +kernel
theorem d_Mdl_layHunk_138 : decode (mb M_Mdl_layHunk) 138 = .ok (.getfield 7, 3) := by decide +kernel
theorem d_Mdl_layHunk_141 : decode (mb M_Mdl_layHunk) 141 = .ok (.aload_n 0, 1) := by decide +kernel
theorem d_Mdl_layHunk_142 : decode (mb M_Mdl_layHunk) 142 = .ok (.getfield 23, 3) := by decide +kernel
theorem d_Mdl_layHunk_145 : decode (mb M_Mdl_layHunk) 145 = .ok (.bipush 20, 2) := by decide +kernel
theorem d_Mdl_layHunk_147 : decode (mb M_Mdl_layHunk) 147 = .ok (.iload 5, 2) := by decide +kernel
theorem d_Mdl_layHunk_149 : decode (mb M_Mdl_layHunk) 149 = .ok (.imul, 1) := by decide +kernel
theorem d_Mdl_layHunk_150 : decode (mb M_Mdl_layHunk) 150 = .ok (.iload 6, 2) := by decide +kernel
theorem d_Mdl_layHunk_152 : decode (mb M_Mdl_layHunk) 152 = .ok (.iadd, 1) := by decide +kernel
theorem d_Mdl_layHunk_153 : decode (mb M_Mdl_layHunk) 153 = .ok (.iload 9, 2) := by decide +kernel
theorem d_Mdl_layHunk_155 : decode (mb M_Mdl_layHunk) 155 = .ok (.iadd, 1) := by decide +kernel
theorem d_Mdl_layHunk_156 : decode (mb M_Mdl_layHunk) 156 = .ok (.iaload, 1) := by decide +kernel
theorem d_Mdl_layHunk_157 : decode (mb M_Mdl_layHunk) 157 = .ok (.laload, 1) := by decide +kernel
theorem d_Mdl_layHunk_158 : decode (mb M_Mdl_layHunk) 158 = .ok (.goto 4, 3) := by decide +kernel
theorem d_Mdl_layHunk_161 : decode (mb M_Mdl_layHunk) 161 = .ok (.lconst 0, 1) := by decide +kernel
theorem d_Mdl_layHunk_162 : decode (mb M_Mdl_layHunk) 162 = .ok (.lastore, 1) := by decide +kernel
theorem d_Mdl_layHunk_163 : decode (mb M_Mdl_layHunk) 163 = .ok (.iinc 9 1, 3) := by decide +kernel
theorem d_Mdl_layHunk_166 : decode (mb M_Mdl_layHunk) 166 = .ok (.goto (-106), 3) := by decide +kernel
theorem d_Mdl_layHunk_169 : decode (mb M_Mdl_layHunk) 169 = .ok (.return_, 1) := by decide +kernel
theorem d_Mdl_layLines_0 : decode (mb M_Mdl_layLines) 0 = .ok (.iload_n 2, 1) := by decide +kernel
theorem d_Mdl_layLines_1 : decode (mb M_Mdl_layLines) 1 = .ok (.istore 5, 2) := by decide +kernel
theorem d_Mdl_layLines_3 : decode (mb M_Mdl_layLines) 3 = .ok (.iload 5, 2) := by decide +kernel
theorem d_Mdl_layLines_5 : decode (mb M_Mdl_layLines) 5 = .ok (.iload_n 3, 1) := by decide +kernel
theorem d_Mdl_layLines_6 : decode (mb M_Mdl_layLines) 6 = .ok (.if_icmp .ge 45, 3) := by decide +kernel
theorem d_Mdl_layLines_9 : decode (mb M_Mdl_layLines) 9 = .ok (.iload 4, 2) := by decide +kernel
theorem d_Mdl_layLines_11 : decode (mb M_Mdl_layLines) 11 = .ok (.ifCond .eq 40, 3) := by decide +kernel
theorem d_Mdl_layLines_14 : decode (mb M_Mdl_layLines) 14 = .ok (.aload_n 0, 1) := by decide +kernel
theorem d_Mdl_layLines_15 : decode (mb M_Mdl_layLines) 15 = .ok (.getfield 35, 3) := by decide +kernel
theorem d_Mdl_layLines_18 : decode (mb M_Mdl_layLines) 18 = .ok (.aload_n 0, 1) := by decide +kernel
theorem d_Mdl_layLines_19 : decode (mb M_Mdl_layLines) 19 = .ok (.getfield 194, 3) := by decide +kernel
theorem d_Mdl_layLines_22 : decode (mb M_Mdl_layLines) 22 = .ok (.aload_n 0, 1) := by decide +kernel
theorem d_Mdl_layLines_23 : decode (mb M_Mdl_layLines) 23 = .ok (.getfield 23, 3) := by decide +kernel
theorem d_Mdl_layLines_26 : decode (mb M_Mdl_layLines) 26 = .ok (.bipush 20, 2) := by decide +kernel
theorem d_Mdl_layLines_28 : decode (mb M_Mdl_layLines) 28 = .ok (.iload_n 1, 1) := by decide +kernel
theorem d_Mdl_layLines_29 : decode (mb M_Mdl_layLines) 29 = .ok (.imul, 1) := by decide +kernel
theorem d_Mdl_layLines_30 : decode (mb M_Mdl_layLines) 30 = .ok (.iload 5, 2) := by decide +kernel
theorem d_Mdl_layLines_32 : decode (mb M_Mdl_layLines) 32 = .ok (.iadd, 1) := by decide +kernel
theorem d_Mdl_layLines_33 : decode (mb M_Mdl_layLines) 33 = .ok (.iaload, 1) := by decide +kernel
theorem d_Mdl_layLines_34 : decode (mb M_Mdl_layLines) 34 = .ok (.iastore, 1) := by decide +kernel
theorem d_Mdl_layLines_35 : decode (mb M_Mdl_layLines) 35 = .ok (.aload_n 0, 1) := by decide +kernel
theorem d_Mdl_layLines_36 : decode (mb M_Mdl_layLines) 36 = .ok (.dup, 1) := by decide +kernel
theorem d_Mdl_layLines_37 : decode (mb M_Mdl_layLines) 37 = .ok (.getfield 194, 3) := by decide +kernel
theorem d_Mdl_layLines_40 : decode (mb M_Mdl_layLines) 40 = .ok (.iconst 1, 1) := by decide +kernel
theorem d_Mdl_layLines_41 : decode (mb M_Mdl_layLines) 41 = .ok (.iadd, 1) := by decide +kernel
theorem d_Mdl_layLines_42 : decode (mb M_Mdl_layLines) 42 = .ok (.putfield 194, 3) := by decide +kernel
theorem d_Mdl_layLines_45 : decode (mb M_Mdl_layLines) 45 = .ok (.iinc 5 1, 3) := by decide +kernel
theorem d_Mdl_layLines_48 : decode (mb M_Mdl_layLines) 48 = .ok (.goto (-45), 3) := by decide +kernel
theorem d_Mdl_layLines_51 : decode (mb M_Mdl_layLines) 51 = .ok (.iload_n 3, 1) := by decide +kernel
theorem d_Mdl_layLines_52 : decode (mb M_Mdl_layLines) 52 = .ok (.iload_n 2, 1) := by decide +kernel
theorem d_Mdl_layLines_53 : decode (mb M_Mdl_layLines) 53 = .ok (.isub, 1) := by decide +kernel
theorem d_Mdl_layLines_54 : decode (mb M_Mdl_layLines) 54 = .ok (.ireturn, 1) := by decide +kernel
theorem d_Mdl_layPiece_0 : decode (mb M_Mdl_layPiece) 0 = .ok (.iconst 3, 1) := by decide +kernel
theorem d_Mdl_layPiece_1 : decode (mb M_Mdl_layPiece) 1 = .ok (.aload_n 0, 1) := by decide +kernel
theorem d_Mdl_layPiece_2 : decode (mb M_Mdl_layPiece) 2 = .ok (.getfield 185, 3) := by decide +kernel
theorem d_Mdl_layPiece_5 : decode (mb M_Mdl_layPiece) 5 = .ok (.imul, 1) := by decide +kernel
theorem d_Mdl_layPiece_6 : decode (mb M_Mdl_layPiece) 6 = .ok (.iload_n 1, 1) := by decide +kernel
theorem d_Mdl_layPiece_7 : decode (mb M_Mdl_layPiece) 7 = .ok (.iadd, 1) := by decide +kernel
theorem d_Mdl_layPiece_8 : decode (mb M_Mdl_layPiece) 8 = .ok (.istore 5, 2) := by decide +kernel
theorem d_Mdl_layPiece_10 : decode (mb M_Mdl_layPiece) 10 = .ok (.aload_n 0, 1) := by decide +kernel
theorem d_Mdl_layPiece_11 : decode (mb M_Mdl_layPiece) 11 = .ok (.getfield 38, 3) := by decide +kernel
theorem d_Mdl_layPiece_14 : decode (mb M_Mdl_layPiece) 14 = .ok (.iload 5, 2) := by decide +kernel
theorem d_Mdl_layPiece_16 : decode (mb M_Mdl_layPiece) 16 = .ok (.iload 4, 2) := by decide +kernel
theorem d_Mdl_layPiece_18 : decode (mb M_Mdl_layPiece) 18 = .ok (.iload_n 3, 1) := by decide +kernel
theorem d_Mdl_layPiece_19 : decode (mb M_Mdl_layPiece) 19 = .ok (.isub, 1) := by decide +kernel
theorem d_Mdl_layPiece_20 : decode (mb M_Mdl_layPiece) 20 = .ok (.iastore, 1) := by decide +kernel
theorem d_Mdl_layPiece_21 : decode (mb M_Mdl_layPiece) 21 = .ok (.iload_n 3, 1) := by decide +kernel
theorem d_Mdl_layPiece_22 : decode (mb M_Mdl_layPiece) 22 = .ok (.istore 6, 2) := by decide +kernel
theorem d_Mdl_layPiece_24 : decode (mb M_Mdl_layPiece) 24 = .ok (.iload 6, 2) := by decide +kernel
theorem d_Mdl_layPiece_26 : decode (mb M_Mdl_layPiece) 26 = .ok (.iload 4, 2) := by decide +kernel
theorem d_Mdl_layPiece_28 : decode (mb M_Mdl_layPiece) 28 = .ok (.if_icmp .ge 36, 3) := by decide +kernel
theorem d_Mdl_layPiece_31 : decode (mb M_Mdl_layPiece) 31 = .ok (.aload_n 0, 1) := by decide +kernel
theorem d_Mdl_layPiece_32 : decode (mb M_Mdl_layPiece) 32 = .ok (.getfield 41, 3) := by decide +kernel
theorem d_Mdl_layPiece_35 : decode (mb M_Mdl_layPiece) 35 = .ok (.bipush 20, 2) := by decide +kernel
theorem d_Mdl_layPiece_37 : decode (mb M_Mdl_layPiece) 37 = .ok (.iload 5, 2) := by decide +kernel
theorem d_Mdl_layPiece_39 : decode (mb M_Mdl_layPiece) 39 = .ok (.imul, 1) := by decide +kernel
theorem d_Mdl_layPiece_40 : decode (mb M_Mdl_layPiece) 40 = .ok (.iload 6, 2) := by decide +kernel
theorem d_Mdl_layPiece_42 : decode (mb M_Mdl_layPiece) 42 = .ok (.iadd, 1) := by decide +kernel
theorem d_Mdl_layPiece_43 : decode (mb M_Mdl_layPiece) 43 = .ok (.iload_n 3, 1) := by decide +kernel
theorem d_Mdl_layPiece_44 : decode (mb M_Mdl_layPiece) 44 = .ok (.isub, 1) := by decide +kernel
theorem d_Mdl_layPiece_45 : decode (mb M_Mdl_layPiece) 45 = .ok (.aload_n 0, 1) := by decide +kernel
theorem d_Mdl_layPiece_46 : decode (mb M_Mdl_layPiece) 46 = .ok (.getfield 23, 3) := by decide +kernel
theorem d_Mdl_layPiece_49 : decode (mb M_Mdl_layPiece) 49 = .ok (.bipush 20, 2) := by decide +kernel
theorem d_Mdl_layPiece_51 : decode (mb M_Mdl_layPiece) 51 = .ok (.iload_n 2, 1) := by decide +kernel
theorem d_Mdl_layPiece_52 : decode (mb M_Mdl_layPiece) 52 = .ok (.imul, 1) := by decide +kernel
theorem d_Mdl_layPiece_53 : decode (mb M_Mdl_layPiece) 53 = .ok (.iload 6, 2) := by decide +kernel
theorem d_Mdl_layPiece_55 : decode (mb M_Mdl_layPiece) 55 = .ok (.iadd, 1) := by decide +kernel
theorem d_Mdl_layPiece_56 : decode (mb M_Mdl_layPiece) 56 = .ok (.iaload, 1) := by decide +kernel
theorem d_Mdl_layPiece_57 : decode (mb M_Mdl_layPiece) 57 = .ok (.iastore, 1) := by decide +kernel
theorem d_Mdl_layPiece_58 : decode (mb M_Mdl_layPiece) 58 = .ok (.iinc 6 1, 3) := by decide +kernel
theorem d_Mdl_layPiece_61 : decode (mb M_Mdl_layPiece) 61 = .ok (.goto (-37), 3) := by decide +kernel
theorem d_Mdl_layPiece_64 : decode (mb M_Mdl_layPiece) 64 = .ok (.return_, 1) := by decide +kernel
theorem d_Mdl_least_0 : decode (mb M_Mdl_least) 0 = .ok (.iload_n 0, 1) := by decide +kernel
theorem d_Mdl_least_1 : decode (mb M_Mdl_least) 1 = .ok (.iload_n 1, 1) := by decide +kernel
theorem d_Mdl_least_2 : decode (mb M_Mdl_least) 2 = .ok (.if_icmp .ge 7, 3) := by decide +kernel
theorem d_Mdl_least_5 : decode (mb M_Mdl_least) 5 = .ok (.iload_n 0, 1) := by decide +kernel
theorem d_Mdl_least_6 : decode (mb M_Mdl_least) 6 = .ok (.goto 4, 3) := by decide +kernel
theorem d_Mdl_least_9 : decode (mb M_Mdl_least) 9 = .ok (.iload_n 1, 1) := by decide +kernel
theorem d_Mdl_least_10 : decode (mb M_Mdl_least) 10 = .ok (.istore_n 3, 1) := by decide +kernel
theorem d_Mdl_least_11 : decode (mb M_Mdl_least) 11 = .ok (.iload_n 3, 1) := by decide +kernel
theorem d_Mdl_least_12 : decode (mb M_Mdl_least) 12 = .ok (.iload_n 2, 1) := by decide +kernel
theorem d_Mdl_least_13 : decode (mb M_Mdl_least) 13 = .ok (.if_icmp .ge 7, 3) := by decide +kernel
theorem d_Mdl_least_16 : decode (mb M_Mdl_least) 16 = .ok (.iload_n 3, 1) := by decide +kernel
theorem d_Mdl_least_17 : decode (mb M_Mdl_least) 17 = .ok (.goto 4, 3) := by decide +kernel
theorem d_Mdl_least_20 : decode (mb M_Mdl_least) 20 = .ok (.iload_n 2, 1) := by decide +kernel
theorem d_Mdl_least_21 : decode (mb M_Mdl_least) 21 = .ok (.ireturn, 1) := by decide +kernel
theorem d_Mdl_length_0 : decode (mb M_Mdl_length) 0 = .ok (.iconst 0, 1) := by decide +kernel
theorem d_Mdl_length_1 : decode (mb M_Mdl_length) 1 = .ok (.istore_n 2, 1) := by decide +kernel
theorem d_Mdl_length_2 : decode (mb M_Mdl_length) 2 = .ok (.iload_n 2, 1) := by decide +kernel
theorem d_Mdl_length_3 : decode (mb M_Mdl_length) 3 = .ok (.bipush 8, 2) := by decide +kernel
theorem d_Mdl_length_5 : decode (mb M_Mdl_length) 5 = .ok (.if_icmp .ge 17, 3) := by decide +kernel
theorem d_Mdl_length_8 : decode (mb M_Mdl_length) 8 = .ok (.lload_n 0, 1) := by decide +kernel
theorem d_Mdl_length_9 : decode (mb M_Mdl_length) 9 = .ok (.iload_n 2, 1) := by decide +kernel
theorem d_Mdl_length_10 : decode (mb M_Mdl_length) 10 = .ok (.invokestatic 136, 3) := by decide +kernel
theorem d_Mdl_length_13 : decode (mb M_Mdl_length) 13 = .ok (.ifCond .eq 9, 3) := by decide +kernel
theorem d_Mdl_length_16 : decode (mb M_Mdl_length) 16 = .ok (.iinc 2 1, 3) := by decide +kernel
theorem d_Mdl_length_19 : decode (mb M_Mdl_length) 19 = .ok (.goto (-17), 3) := by decide +kernel
theorem d_Mdl_length_22 : decode (mb M_Mdl_length) 22 = .ok (.iload_n 2, 1) := by decide +kernel
theorem d_Mdl_length_23 : decode (mb M_Mdl_length) 23 = .ok (.ireturn, 1) := by decide +kernel
theorem d_Mdl_letters_0 : decode (mb M_Mdl_letters) 0 = .ok (.iconst 0, 1) := by decide +kernel
theorem d_Mdl_letters_1 : decode (mb M_Mdl_letters) 1 = .ok (.istore_n 2, 1) := by decide +kernel
theorem d_Mdl_letters_2 : decode (mb M_Mdl_letters) 2 = .ok (.iconst 0, 1) := by decide +kernel
theorem d_Mdl_letters_3 : decode (mb M_Mdl_letters) 3 = .ok (.istore_n 3, 1) := by decide +kernel
theorem d_Mdl_letters_4 : decode (mb M_Mdl_letters) 4 = .ok (.iload_n 3, 1) := by decide +kernel
theorem d_Mdl_letters_5 : decode (mb M_Mdl_letters) 5 = .ok (.bipush 8, 2) := by decide +kernel
theorem d_Mdl_letters_7 : decode (mb M_Mdl_letters) 7 = .ok (.if_icmp .ge 32, 3) := by decide +kernel
theorem d_Mdl_letters_10 : decode (mb M_Mdl_letters) 10 = .ok (.iload_n 2, 1) := by decide +kernel
theorem d_Mdl_letters_11 : decode (mb M_Mdl_letters) 11 = .ok (.lload_n 0, 1) := by decide +kernel
theorem d_Mdl_letters_12 : decode (mb M_Mdl_letters) 12 = .ok (.iload_n 3, 1) := by decide +kernel
theorem d_Mdl_letters_13 : decode (mb M_Mdl_letters) 13 = .ok (.invokestatic 136, 3) := by decide +kernel
theorem d_Mdl_letters_16 : decode (mb M_Mdl_letters) 16 = .ok (.bipush 97, 2) := by decide +kernel
theorem d_Mdl_letters_18 : decode (mb M_Mdl_letters) 18 = .ok (.bipush 122, 2) := by decide +kernel
theorem d_Mdl_letters_20 : decode (mb M_Mdl_letters) 20 = .ok (.invokestatic 130, 3) := by decide +kernel
theorem d_Mdl_letters_23 : decode (mb M_Mdl_letters) 23 = .ok (.ifCond .eq 7, 3) := by decide +kernel
theorem d_Mdl_letters_26 : decode (mb M_Mdl_letters) 26 = .ok (.iconst 1, 1) := by decide +kernel
theorem d_Mdl_letters_27 : decode (mb M_Mdl_letters) 27 = .ok (.goto 4, 3) := by decide +kernel
theorem d_Mdl_letters_30 : decode (mb M_Mdl_letters) 30 = .ok (.iconst 0, 1) := by decide +kernel
theorem d_Mdl_letters_31 : decode (mb M_Mdl_letters) 31 = .ok (.iadd, 1) := by decide +kernel
theorem d_Mdl_letters_32 : decode (mb M_Mdl_letters) 32 = .ok (.istore_n 2, 1) := by decide +kernel
theorem d_Mdl_letters_33 : decode (mb M_Mdl_letters) 33 = .ok (.iinc 3 1, 3) := by decide +kernel
theorem d_Mdl_letters_36 : decode (mb M_Mdl_letters) 36 = .ok (.goto (-32), 3) := by decide +kernel
theorem d_Mdl_letters_39 : decode (mb M_Mdl_letters) 39 = .ok (.iload_n 2, 1) := by decide +kernel
theorem d_Mdl_letters_40 : decode (mb M_Mdl_letters) 40 = .ok (.ireturn, 1) := by decide +kernel
theorem d_Mdl_likeness_0 : decode (mb M_Mdl_likeness) 0 = .ok (.aload_n 0, 1) := by decide +kernel
theorem d_Mdl_likeness_1 : decode (mb M_Mdl_likeness) 1 = .ok (.lload_n 1, 1) := by decide +kernel
theorem d_Mdl_likeness_2 : decode (mb M_Mdl_likeness) 2 = .ok (.invokestatic 147, 3) := by decide +kernel
theorem d_Mdl_likeness_5 : decode (mb M_Mdl_likeness) 5 = .ok (.ifCond .eq 14, 3) := by decide +kernel
theorem d_Mdl_likeness_8 : decode (mb M_Mdl_likeness) 8 = .ok (.lload_n 3, 1) := by decide +kernel
theorem d_Mdl_likeness_9 : decode (mb M_Mdl_likeness) 9 = .ok (.invokestatic 147, 3) := by decide +kernel
theorem d_Mdl_likeness_12 : decode (mb M_Mdl_likeness) 12 = .ok (.ifCond .eq 7, 3) := by decide +kernel
theorem d_Mdl_likeness_15 : decode (mb M_Mdl_likeness) 15 = .ok (.iconst 0, 1) := by decide +kernel
theorem d_Mdl_likeness_16 : decode (mb M_Mdl_likeness) 16 = .ok (.goto 4, 3) := by decide +kernel
theorem d_Mdl_likeness_19 : decode (mb M_Mdl_likeness) 19 = .ok (.iconst 1, 1) := by decide +kernel
theorem d_Mdl_likeness_20 : decode (mb M_Mdl_likeness) 20 = .ok (.invokevirtual 151, 3) := by decide +kernel
theorem d_Mdl_likeness_23 : decode (mb M_Mdl_likeness) 23 = .ok (.ifCond .eq 7, 3) := by decide +kernel
theorem d_Mdl_likeness_26 : decode (mb M_Mdl_likeness) 26 = .ok (.iconst 0, 1) := by decide +kernel
theorem d_Mdl_likeness_27 : decode (mb M_Mdl_likeness) 27 = .ok (.goto 9, 3) := by decide +kernel
theorem d_Mdl_likeness_30 : decode (mb M_Mdl_likeness) 30 = .ok (.aload_n 0, 1) := by decide +kernel
theorem d_Mdl_likeness_31 : decode (mb M_Mdl_likeness) 31 = .ok (.lload_n 1, 1) := by decide +kernel
theorem d_Mdl_likeness_32 : decode (mb M_Mdl_likeness) 32 = .ok (.lload_n 3, 1) := by decide +kernel
theorem d_Mdl_likeness_33 : decode (mb M_Mdl_likeness) 33 = .ok (.invokevirtual 155, 3) := by decide +kernel
theorem d_Mdl_likeness_36 : decode (mb M_Mdl_likeness) 36 = .ok (.ireturn, 1) := by decide +kernel
theorem d_Mdl_likenessOf_0 : decode (mb M_Mdl_likenessOf) 0 = .ok (.lload_n 1, 1) := by decide +kernel
theorem d_Mdl_likenessOf_1 : decode (mb M_Mdl_likenessOf) 1 = .ok (.invokestatic 140, 3) := by decide +kernel
theorem d_Mdl_likenessOf_4 : decode (mb M_Mdl_likenessOf) 4 = .ok (.istore 5, 2) := by decide +kernel
theorem d_Mdl_likenessOf_6 : decode (mb M_Mdl_likenessOf) 6 = .ok (.lload_n 3, 1) := by decide +kernel
theorem d_Mdl_likenessOf_7 : decode (mb M_Mdl_likenessOf) 7 = .ok (.invokestatic 140, 3) := by decide +kernel
theorem d_Mdl_likenessOf_10 : decode (mb M_Mdl_likenessOf) 10 = .ok (.istore 6, 2) := by decide +kernel
theorem d_Mdl_likenessOf_12 : decode (mb M_Mdl_likenessOf) 12 = .ok (.iload 5, 2) := by decide +kernel
theorem d_Mdl_likenessOf_14 : decode (mb M_Mdl_likenessOf) 14 = .ok (.istore 7, 2) := by decide +kernel
theorem d_Mdl_likenessOf_16 : decode (mb M_Mdl_likenessOf) 16 = .ok (.iload 7, 2) := by decide +kernel
theorem d_Mdl_likenessOf_18 : decode (mb M_Mdl_likenessOf) 18 = .ok (.ifCond .lt 191, 3) := by decide +kernel
theorem d_Mdl_likenessOf_21 : decode (mb M_Mdl_likenessOf) 21 = .ok (.iload 6, 2) := by decide +kernel
theorem d_Mdl_likenessOf_23 : decode (mb M_Mdl_likenessOf) 23 = .ok (.istore 8, 2) := by decide +kernel
theorem d_Mdl_likenessOf_25 : decode (mb M_Mdl_likenessOf) 25 = .ok (.iload 8, 2) := by decide +kernel
theorem d_Mdl_likenessOf_27 : decode (mb M_Mdl_likenessOf) 27 = .ok (.ifCond .lt 176, 3) := by decide +kernel
theorem d_Mdl_likenessOf_30 : decode (mb M_Mdl_likenessOf) 30 = .ok (.iload 7, 2) := by decide +kernel
theorem d_Mdl_likenessOf_32 : decode (mb M_Mdl_likenessOf) 32 = .ok (.iload 5, 2) := by decide +kernel
theorem d_Mdl_likenessOf_34 : decode (mb M_Mdl_likenessOf) 34 = .ok (.if_icmp .eq 10, 3) := by decide +kernel
theorem d_Mdl_likenessOf_37 : decode (mb M_Mdl_likenessOf) 37 = .ok (.iload 8, 2) := by decide +kernel
theorem d_Mdl_likenessOf_39 : decode (mb M_Mdl_likenessOf) 39 = .ok (.iload 6, 2) := by decide +kernel
theorem d_Mdl_likenessOf_41 : decode (mb M_Mdl_likenessOf) 41 = .ok (.if_icmp .ne 7, 3) := by decide +kernel
theorem d_Mdl_likenessOf_44 : decode (mb M_Mdl_likenessOf) 44 = .ok (.iconst 1, 1) := by decide +kernel
theorem d_Mdl_likenessOf_45 : decode (mb M_Mdl_likenessOf) 45 = .ok (.goto 4, 3) := by decide +kernel
theorem d_Mdl_likenessOf_48 : decode (mb M_Mdl_likenessOf) 48 = .ok (.iconst 0, 1) := by decide +kernel
theorem d_Mdl_likenessOf_49 : decode (mb M_Mdl_likenessOf) 49 = .ok (.istore 9, 2) := by decide +kernel
theorem d_Mdl_likenessOf_51 : decode (mb M_Mdl_likenessOf) 51 = .ok (.iload 9, 2) := by decide +kernel
theorem d_Mdl_likenessOf_53 : decode (mb M_Mdl_likenessOf) 53 = .ok (.ifCond .eq 7, 3) := by decide +kernel
theorem d_Mdl_likenessOf_56 : decode (mb M_Mdl_likenessOf) 56 = .ok (.iconst 0, 1) := by decide +kernel
theorem d_Mdl_likenessOf_57 : decode (mb M_Mdl_likenessOf) 57 = .ok (.goto 69, 3) := by decide +kernel
theorem d_Mdl_likenessOf_60 : decode (mb M_Mdl_likenessOf) 60 = .ok (.aload_n 0, 1) := by decide +kernel
theorem d_Mdl_likenessOf_61 : decode (mb M_Mdl_likenessOf) 61 = .ok (.getfield 93, 3) := by decide +kernel
theorem d_Mdl_likenessOf_64 : decode (mb M_Mdl_likenessOf) 64 = .ok (.bipush 9, 2) := by decide +kernel
theorem d_Mdl_likenessOf_66 : decode (mb M_Mdl_likenessOf) 66 = .ok (.iload 7, 2) := by decide +kernel
theorem d_Mdl_likenessOf_68 : decode (mb M_Mdl_likenessOf) 68 = .ok (.iconst 1, 1) := by decide +kernel
theorem d_Mdl_likenessOf_69 : decode (mb M_Mdl_likenessOf) 69 = .ok (.iadd, 1) := by decide +kernel
theorem d_Mdl_likenessOf_70 : decode (mb M_Mdl_likenessOf) 70 = .ok (.imul, 1) := by decide +kernel
theorem d_Mdl_likenessOf_71 : decode (mb M_Mdl_likenessOf) 71 = .ok (.iload 8, 2) := by decide +kernel
theorem d_Mdl_likenessOf_73 : decode (mb M_Mdl_likenessOf) 73 = .ok (.iadd, 1) := by decide +kernel
theorem d_Mdl_likenessOf_74 : decode (mb M_Mdl_likenessOf) 74 = .ok (.iaload, 1) := by decide +kernel
theorem d_Mdl_likenessOf_75 : decode (mb M_Mdl_likenessOf) 75 = .ok (.aload_n 0, 1) := by decide +kernel
theorem d_Mdl_likenessOf_76 : decode (mb M_Mdl_likenessOf) 76 = .ok (.getfield 93, 3) := by decide +kernel
theorem d_Mdl_likenessOf_79 : decode (mb M_Mdl_likenessOf) 79 = .ok (.bipush 9, 2) := by decide +kernel
theorem d_Mdl_likenessOf_81 : decode (mb M_Mdl_likenessOf) 81 = .ok (.iload 7, 2) := by decide +kernel
theorem d_Mdl_likenessOf_83 : decode (mb M_Mdl_likenessOf) 83 = .ok (.imul, 1) := by decide +kernel
theorem d_Mdl_likenessOf_84 : decode (mb M_Mdl_likenessOf) 84 = .ok (.iload 8, 2) := by decide +kernel
theorem d_Mdl_likenessOf_86 : decode (mb M_Mdl_likenessOf) 86 = .ok (.iadd, 1) := by decide +kernel
theorem d_Mdl_likenessOf_87 : decode (mb M_Mdl_likenessOf) 87 = .ok (.iconst 1, 1) := by decide +kernel
theorem d_Mdl_likenessOf_88 : decode (mb M_Mdl_likenessOf) 88 = .ok (.iadd, 1) := by decide +kernel
theorem d_Mdl_likenessOf_89 : decode (mb M_Mdl_likenessOf) 89 = .ok (.iaload, 1) := by decide +kernel
theorem d_Mdl_likenessOf_90 : decode (mb M_Mdl_likenessOf) 90 = .ok (.if_icmp .le 21, 3) := by decide +kernel
theorem d_Mdl_likenessOf_93 : decode (mb M_Mdl_likenessOf) 93 = .ok (.aload_n 0, 1) := by decide +kernel
theorem d_Mdl_likenessOf_94 : decode (mb M_Mdl_likenessOf) 94 = .ok (.getfield 93, 3) := by decide +kernel
theorem d_Mdl_likenessOf_97 : decode (mb M_Mdl_likenessOf) 97 = .ok (.bipush 9, 2) := by decide +kernel
theorem d_Mdl_likenessOf_99 : decode (mb M_Mdl_likenessOf) 99 = .ok (.iload 7, 2) := by decide +kernel
theorem d_Mdl_likenessOf_101 : decode (mb M_Mdl_likenessOf) 101 = .ok (.iconst 1, 1) := by decide +kernel
theorem d_Mdl_likenessOf_102 : decode (mb M_Mdl_likenessOf) 102 = .ok (.iadd, 1) := by decide +kernel
theorem d_Mdl_likenessOf_103 : decode (mb M_Mdl_likenessOf) 103 = .ok (.imul, 1) := by decide +kernel
theorem d_Mdl_likenessOf_104 : decode (mb M_Mdl_likenessOf) 104 = .ok (.iload 8, 2) := by decide +kernel
theorem d_Mdl_likenessOf_106 : decode (mb M_Mdl_likenessOf) 106 = .ok (.iadd, 1) := by decide +kernel
theorem d_Mdl_likenessOf_107 : decode (mb M_Mdl_likenessOf) 107 = .ok (.iaload, 1) := by decide +kernel
theorem d_Mdl_likenessOf_108 : decode (mb M_Mdl_likenessOf) 108 = .ok (.goto 18, 3) := by decide +kernel
theorem d_Mdl_likenessOf_111 : decode (mb M_Mdl_likenessOf) 111 = .ok (.aload_n 0, 1) := by decide +kernel
theorem d_Mdl_likenessOf_112 : decode (mb M_Mdl_likenessOf) 112 = .ok (.getfield 93, 3) := by decide +kernel
theorem d_Mdl_likenessOf_115 : decode (mb M_Mdl_likenessOf) 115 = .ok (.bipush 9, 2) := by decide +kernel
theorem d_Mdl_likenessOf_117 : decode (mb M_Mdl_likenessOf) 117 = .ok (.iload 7, 2) := by decide +kernel
theorem d_Mdl_likenessOf_119 : decode (mb M_Mdl_likenessOf) 119 = .ok (.imul, 1) := by decide +kernel
theorem d_Mdl_likenessOf_120 : decode (mb M_Mdl_likenessOf) 120 = .ok (.iload 8, 2) := by decide +kernel
theorem d_Mdl_likenessOf_122 : decode (mb M_Mdl_likenessOf) 122 = .ok (.iadd, 1) := by decide +kernel
theorem d_Mdl_likenessOf_123 : decode (mb M_Mdl_likenessOf) 123 = .ok (.iconst 1, 1) := by decide +kernel
theorem d_Mdl_likenessOf_124 : decode (mb M_Mdl_likenessOf) 124 = .ok (.iadd, 1) := by decide +kernel
theorem d_Mdl_likenessOf_125 : decode (mb M_Mdl_likenessOf) 125 = .ok (.iaload, 1) := by decide +kernel
theorem d_Mdl_likenessOf_126 : decode (mb M_Mdl_likenessOf) 126 = .ok (.istore 10, 2) := by decide +kernel
theorem d_Mdl_likenessOf_128 : decode (mb M_Mdl_likenessOf) 128 = .ok (.iload 9, 2) := by decide +kernel
theorem d_Mdl_likenessOf_130 : decode (mb M_Mdl_likenessOf) 130 = .ok (.ifCond .ne 22, 3) := by decide +kernel
theorem d_Mdl_likenessOf_133 : decode (mb M_Mdl_likenessOf) 133 = .ok (.lload_n 1, 1) := by decide +kernel
theorem d_Mdl_likenessOf_134 : decode (mb M_Mdl_likenessOf) 134 = .ok (.iload 7, 2) := by decide +kernel
theorem d_Mdl_likenessOf_136 : decode (mb M_Mdl_likenessOf) 136 = .ok (.invokestatic 136, 3) := by decide +kernel
theorem d_Mdl_likenessOf_139 : decode (mb M_Mdl_likenessOf) 139 = .ok (.lload_n 3, 1) := by decide +kernel
theorem d_Mdl_likenessOf_140 : decode (mb M_Mdl_likenessOf) 140 = .ok (.iload 8, 2) := by decide +kernel
theorem d_Mdl_likenessOf_142 : decode (mb M_Mdl_likenessOf) 142 = .ok (.invokestatic 136, 3) := by decide +kernel
theorem d_Mdl_likenessOf_145 : decode (mb M_Mdl_likenessOf) 145 = .ok (.if_icmp .ne 7, 3) := by decide +kernel
theorem d_Mdl_likenessOf_148 : decode (mb M_Mdl_likenessOf) 148 = .ok (.iconst 1, 1) := by decide +kernel
theorem d_Mdl_likenessOf_149 : decode (mb M_Mdl_likenessOf) 149 = .ok (.goto 4, 3) := by decide +kernel
theorem d_Mdl_likenessOf_152 : decode (mb M_Mdl_likenessOf) 152 = .ok (.iconst 0, 1) := by decide +kernel
theorem d_Mdl_likenessOf_153 : decode (mb M_Mdl_likenessOf) 153 = .ok (.istore 11, 2) := by decide +kernel
theorem d_Mdl_likenessOf_155 : decode (mb M_Mdl_likenessOf) 155 = .ok (.aload_n 0, 1) := by decide +kernel
theorem d_Mdl_likenessOf_156 : decode (mb M_Mdl_likenessOf) 156 = .ok (.getfield 93, 3) := by decide +kernel
theorem d_Mdl_likenessOf_159 : decode (mb M_Mdl_likenessOf) 159 = .ok (.bipush 9, 2) := by decide +kernel
theorem d_Mdl_likenessOf_161 : decode (mb M_Mdl_likenessOf) 161 = .ok (.iload 7, 2) := by decide +kernel
theorem d_Mdl_likenessOf_163 : decode (mb M_Mdl_likenessOf) 163 = .ok (.imul, 1) := by decide +kernel
theorem d_Mdl_likenessOf_164 : decode (mb M_Mdl_likenessOf) 164 = .ok (.iload 8, 2) := by decide +kernel
theorem d_Mdl_likenessOf_166 : decode (mb M_Mdl_likenessOf) 166 = .ok (.iadd, 1) := by decide +kernel
theorem d_Mdl_likenessOf_167 : decode (mb M_Mdl_likenessOf) 167 = .ok (.iload 11, 2) := by decide +kernel
theorem d_Mdl_likenessOf_169 : decode (mb M_Mdl_likenessOf) 169 = .ok (.ifCond .eq 25, 3) := by decide +kernel
theorem d_Mdl_likenessOf_172 : decode (mb M_Mdl_likenessOf) 172 = .ok (.aload_n 0, 1) := by decide +kernel
theorem d_Mdl_likenessOf_173 : decode (mb M_Mdl_likenessOf) 173 = .ok (.getfield 93, 3) := by decide +kernel
theorem d_Mdl_likenessOf_176 : decode (mb M_Mdl_likenessOf) 176 = .ok (.bipush 9, 2) := by decide +kernel
theorem d_Mdl_likenessOf_178 : decode (mb M_Mdl_likenessOf) 178 = .ok (.iload 7, 2) := by decide +kernel
theorem d_Mdl_likenessOf_180 : decode (mb M_Mdl_likenessOf) 180 = .ok (.iconst 1, 1) := by decide +kernel
theorem d_Mdl_likenessOf_181 : decode (mb M_Mdl_likenessOf) 181 = .ok (.iadd, 1) := by decide +kernel
theorem d_Mdl_likenessOf_182 : decode (mb M_Mdl_likenessOf) 182 = .ok (.imul, 1) := by decide +kernel
theorem d_Mdl_likenessOf_183 : decode (mb M_Mdl_likenessOf) 183 = .ok (.iload 8, 2) := by decide +kernel
theorem d_Mdl_likenessOf_185 : decode (mb M_Mdl_likenessOf) 185 = .ok (.iadd, 1) := by decide +kernel
theorem d_Mdl_likenessOf_186 : decode (mb M_Mdl_likenessOf) 186 = .ok (.iconst 1, 1) := by decide +kernel
theorem d_Mdl_likenessOf_187 : decode (mb M_Mdl_likenessOf) 187 = .ok (.iadd, 1) := by decide +kernel
theorem d_Mdl_likenessOf_188 : decode (mb M_Mdl_likenessOf) 188 = .ok (.iaload, 1) := by decide +kernel
theorem d_Mdl_likenessOf_189 : decode (mb M_Mdl_likenessOf) 189 = .ok (.iconst 1, 1) := by decide +kernel
theorem d_Mdl_likenessOf_190 : decode (mb M_Mdl_likenessOf) 190 = .ok (.iadd, 1) := by decide +kernel
theorem d_Mdl_likenessOf_191 : decode (mb M_Mdl_likenessOf) 191 = .ok (.goto 5, 3) := by decide +kernel
theorem d_Mdl_likenessOf_194 : decode (mb M_Mdl_likenessOf) 194 = .ok (.iload 10, 2) := by decide +kernel
theorem d_Mdl_likenessOf_196 : decode (mb M_Mdl_likenessOf) 196 = .ok (.iastore, 1) := by decide +kernel
theorem d_Mdl_likenessOf_197 : decode (mb M_Mdl_likenessOf) 197 = .ok (.iinc 8 (-1), 3) := by decide +kernel
theorem d_Mdl_likenessOf_200 : decode (mb M_Mdl_likenessOf) 200 = .ok (.goto (-175), 3) := by decide +kernel
theorem d_Mdl_likenessOf_203 : decode (mb M_Mdl_likenessOf) 203 = .ok (.iinc 7 (-1), 3) := by decide +kernel
theorem d_Mdl_likenessOf_206 : decode (mb M_Mdl_likenessOf) 206 = .ok (.goto (-190), 3) := by decide +kernel
theorem d_Mdl_likenessOf_209 : decode (mb M_Mdl_likenessOf) 209 = .ok (.sipush 200, 3) := by decide +kernel
theorem d_Mdl_likenessOf_212 : decode (mb M_Mdl_likenessOf) 212 = .ok (.aload_n 0, 1) := by decide +kernel
theorem d_Mdl_likenessOf_213 : decode (mb M_Mdl_likenessOf) 213 = .ok (.getfield 93, 3) := by decide +kernel
theorem d_Mdl_likenessOf_216 : decode (mb M_Mdl_likenessOf) 216 = .ok (.iconst 0, 1) := by decide +kernel
theorem d_Mdl_likenessOf_217 : decode (mb M_Mdl_likenessOf) 217 = .ok (.iaload, 1) := by decide +kernel
theorem d_Mdl_likenessOf_218 : decode (mb M_Mdl_likenessOf) 218 = .ok (.imul, 1) := by decide +kernel
theorem d_Mdl_likenessOf_219 : decode (mb M_Mdl_likenessOf) 219 = .ok (.iload 5, 2) := by decide +kernel
theorem d_Mdl_likenessOf_221 : decode (mb M_Mdl_likenessOf) 221 = .ok (.iload 6, 2) := by decide +kernel
theorem d_Mdl_likenessOf_223 : decode (mb M_Mdl_likenessOf) 223 = .ok (.iadd, 1) := by decide +kernel
theorem d_Mdl_likenessOf_224 : decode (mb M_Mdl_likenessOf) 224 = .ok (.idiv, 1) := by decide +kernel
theorem d_Mdl_likenessOf_225 : decode (mb M_Mdl_likenessOf) 225 = .ok (.ireturn, 1) := by decide +kernel
theorem d_Mdl_lineAnew_0 : decode (mb M_Mdl_lineAnew) 0 = .ok (.aload_n 0, 1) := by decide +kernel
theorem d_Mdl_lineAnew_1 : decode (mb M_Mdl_lineAnew) 1 = .ok (.iload_n 1, 1) := by decide +kernel
theorem d_Mdl_lineAnew_2 : decode (mb M_Mdl_lineAnew) 2 = .ok (.iload_n 2, 1) := by decide +kernel
theorem d_Mdl_lineAnew_3 : decode (mb M_Mdl_lineAnew) 3 = .ok (.invokevirtual 230, 3) := by decide +kernel
theorem d_Mdl_lineAnew_6 : decode (mb M_Mdl_lineAnew) 6 = .ok (.lreturn, 1) := by decide +kernel
theorem d_Mdl_lineCount_0 : decode (mb M_Mdl_lineCount) 0 = .ok (.iconst 0, 1) := by decide +kernel
theorem d_Mdl_lineCount_1 : decode (mb M_Mdl_lineCount) 1 = .ok (.istore_n 1, 1) := by decide +kernel
theorem d_Mdl_lineCount_2 : decode (mb M_Mdl_lineCount) 2 = .ok (.iconst 0, 1) := by decide +kernel
theorem d_Mdl_lineCount_3 : decode (mb M_Mdl_lineCount) 3 = .ok (.istore_n 2, 1) := by decide +kernel
theorem d_Mdl_lineCount_4 : decode (mb M_Mdl_lineCount) 4 = .ok (.iload_n 2, 1) := by decide +kernel
theorem d_Mdl_lineCount_5 : decode (mb M_Mdl_lineCount) 5 = .ok (.aload_n 0, 1) := by decide +kernel
theorem d_Mdl_lineCount_6 : decode (mb M_Mdl_lineCount) 6 = .ok (.getfield 194, 3) := by decide +kernel
theorem d_Mdl_lineCount_9 : decode (mb M_Mdl_lineCount) 9 = .ok (.if_icmp .ge 26, 3) := by decide +kernel
theorem d_Mdl_lineCount_12 : decode (mb M_Mdl_lineCount) 12 = .ok (.iload_n 1, 1) := by decide +kernel
theorem d_Mdl_lineCount_13 : decode (mb M_Mdl_lineCount) 13 = .ok (.aload_n 0, 1) := by decide +kernel
theorem d_Mdl_lineCount_14 : decode (mb M_Mdl_lineCount) 14 = .ok (.getfield 35, 3) := by decide +kernel
theorem d_Mdl_lineCount_17 : decode (mb M_Mdl_lineCount) 17 = .ok (.iload_n 2, 1) := by decide +kernel
theorem d_Mdl_lineCount_18 : decode (mb M_Mdl_lineCount) 18 = .ok (.iaload, 1) := by decide +kernel
theorem d_Mdl_lineCount_19 : decode (mb M_Mdl_lineCount) 19 = .ok (.ifCond .lt 7, 3) := by decide +kernel
theorem d_Mdl_lineCount_22 : decode (mb M_Mdl_lineCount) 22 = .ok (.iconst 1, 1) := by decide +kernel
theorem d_Mdl_lineCount_23 : decode (mb M_Mdl_lineCount) 23 = .ok (.goto 4, 3) := by decide +kernel
theorem d_Mdl_lineCount_26 : decode (mb M_Mdl_lineCount) 26 = .ok (.iconst 0, 1) := by decide +kernel
theorem d_Mdl_lineCount_27 : decode (mb M_Mdl_lineCount) 27 = .ok (.iadd, 1) := by decide +kernel
theorem d_Mdl_lineCount_28 : decode (mb M_Mdl_lineCount) 28 = .ok (.istore_n 1, 1) := by decide +kernel
theorem d_Mdl_lineCount_29 : decode (mb M_Mdl_lineCount) 29 = .ok (.iinc 2 1, 3) := by decide +kernel
theorem d_Mdl_lineCount_32 : decode (mb M_Mdl_lineCount) 32 = .ok (.goto (-28), 3) := by decide +kernel
theorem d_Mdl_lineCount_35 : decode (mb M_Mdl_lineCount) 35 = .ok (.iload_n 1, 1) := by decide +kernel
theorem d_Mdl_lineCount_36 : decode (mb M_Mdl_lineCount) 36 = .ok (.ireturn, 1) := by decide +kernel
theorem d_Mdl_lineOf_0 : decode (mb M_Mdl_lineOf) 0 = .ok (.aload_n 0, 1) := by decide +kernel
theorem d_Mdl_lineOf_1 : decode (mb M_Mdl_lineOf) 1 = .ok (.aload_n 0, 1) := by decide +kernel
theorem d_Mdl_lineOf_2 : decode (mb M_Mdl_lineOf) 2 = .ok (.iload_n 1, 1) := by decide +kernel
theorem d_Mdl_lineOf_3 : decode (mb M_Mdl_lineOf) 3 = .ok (.iload_n 2, 1) := by decide +kernel
theorem d_Mdl_lineOf_4 : decode (mb M_Mdl_lineOf) 4 = .ok (.invokevirtual 226, 3) := by decide +kernel
theorem d_Mdl_lineOf_7 : decode (mb M_Mdl_lineOf) 7 = .ok (.ifCond .eq 7, 3) := by decide +kernel
theorem d_Mdl_lineOf_10 : decode (mb M_Mdl_lineOf) 10 = .ok (.iconst 0, 1) := by decide +kernel
theorem d_Mdl_lineOf_11 : decode (mb M_Mdl_lineOf) 11 = .ok (.goto 4, 3) := by decide +kernel
theorem d_Mdl_lineOf_14 : decode (mb M_Mdl_lineOf) 14 = .ok (.iconst 1, 1) := by decide +kernel
theorem d_Mdl_lineOf_15 : decode (mb M_Mdl_lineOf) 15 = .ok (.invokevirtual 151, 3) := by decide +kernel
theorem d_Mdl_lineOf_18 : decode (mb M_Mdl_lineOf) 18 = .ok (.ifCond .eq 7, 3) := by decide +kernel
theorem d_Mdl_lineOf_21 : decode (mb M_Mdl_lineOf) 21 = .ok (.lconst 0, 1) := by decide +kernel
theorem d_Mdl_lineOf_22 : decode (mb M_Mdl_lineOf) 22 = .ok (.goto 19, 3) := by decide +kernel
theorem d_Mdl_lineOf_25 : decode (mb M_Mdl_lineOf) 25 = .ok (.aload_n 0, 1) := by decide +kernel
theorem d_Mdl_lineOf_26 : decode (mb M_Mdl_lineOf) 26 = .ok (.getfield 7, 3) := by decide +kernel
theorem d_Mdl_lineOf_29 : decode (mb M_Mdl_lineOf) 29 = .ok (.aload_n 0, 1) := by decide +kernel
theorem d_Mdl_lineOf_30 : decode (mb M_Mdl_lineOf) 30 = .ok (.getfield 23, 3) := by decide +kernel
theorem d_Mdl_lineOf_33 : decode (mb M_Mdl_lineOf) 33 = .ok (.bipush 20, 2) := by decide +kernel
theorem d_Mdl_lineOf_35 : decode (mb M_Mdl_lineOf) 35 = .ok (.iload_n 1, 1) := by decide +kernel
theorem d_Mdl_lineOf_36 : decode (mb M_Mdl_lineOf) 36 = .ok (.imul, 1) := by decide +kernel
theorem d_Mdl_lineOf_37 : decode (mb M_Mdl_lineOf) 37 = .ok (.iload_n 2, 1) := by decide +kernel
theorem d_Mdl_lineOf_38 : decode (mb M_Mdl_lineOf) 38 = .ok (.iadd, 1) := by decide +kernel
theorem d_Mdl_lineOf_39 : decode (mb M_Mdl_lineOf) 39 = .ok (.iaload, 1) := by decide +kernel
theorem d_Mdl_lineOf_40 : decode (mb M_Mdl_lineOf) 40 = .ok (.laload, 1) := by decide +kernel
theorem d_Mdl_lineOf_41 : decode (mb M_Mdl_lineOf) 41 = .ok (.lreturn, 1) := by decide +kernel
theorem d_Mdl_lines_0 : decode (mb M_Mdl_lines) 0 = .ok (.aload_n 0, 1) := by decide +kernel
theorem d_Mdl_lines_1 : decode (mb M_Mdl_lines) 1 = .ok (.aload_n 0, 1) := by decide +kernel
theorem d_Mdl_lines_2 : decode (mb M_Mdl_lines) 2 = .ok (.iload_n 1, 1) := by decide +kernel
theorem d_Mdl_lines_3 : decode (mb M_Mdl_lines) 3 = .ok (.invokevirtual 172, 3) := by decide +kernel
theorem d_Mdl_lines_6 : decode (mb M_Mdl_lines) 6 = .ok (.ifCond .eq 7, 3) := by decide +kernel
theorem d_Mdl_lines_9 : decode (mb M_Mdl_lines) 9 = .ok (.iconst 0, 1) := by decide +kernel
theorem d_Mdl_lines_10 : decode (mb M_Mdl_lines) 10 = .ok (.goto 4, 3) := by decide +kernel
theorem d_Mdl_lines_13 : decode (mb M_Mdl_lines) 13 = .ok (.iconst 1, 1) := by decide +kernel
theorem d_Mdl_lines_14 : decode (mb M_Mdl_lines) 14 = .ok (.invokevirtual 151, 3) := by decide +kernel
theorem d_Mdl_lines_17 : decode (mb M_Mdl_lines) 17 = .ok (.ifCond .eq 7, 3) := by decide +kernel
theorem d_Mdl_lines_20 : decode (mb M_Mdl_lines) 20 = .ok (.iconst 0, 1) := by decide +kernel
theorem d_Mdl_lines_21 : decode (mb M_Mdl_lines) 21 = .ok (.goto 9, 3) := by decide +kernel
theorem d_Mdl_lines_24 : decode (mb M_Mdl_lines) 24 = .ok (.aload_n 0, 1) := by decide +kernel
theorem d_Mdl_lines_25 : decode (mb M_Mdl_lines) 25 = .ok (.getfield 20, 3) := by decide +kernel
theorem d_Mdl_lines_28 : decode (mb M_Mdl_lines) 28 = .ok (.iload_n 1, 1) := by decide +kernel
theorem d_Mdl_lines_29 : decode (mb M_Mdl_lines) 29 = .ok (.iaload, 1) := by decide +kernel
theorem d_Mdl_lines_30 : decode (mb M_Mdl_lines) 30 = .ok (.ireturn, 1) := by decide +kernel
theorem d_Mdl_merge_0 : decode (mb M_Mdl_merge) 0 = .ok (.aload_n 0, 1) := by decide +kernel
theorem d_Mdl_merge_1 : decode (mb M_Mdl_merge) 1 = .ok (.iload_n 1, 1) := by decide +kernel
theorem d_Mdl_merge_2 : decode (mb M_Mdl_merge) 2 = .ok (.invokevirtual 172, 3) := by decide +kernel
theorem d_Mdl_merge_5 : decode (mb M_Mdl_merge) 5 = .ok (.ifCond .eq 22, 3) := by decide +kernel
theorem d_Mdl_merge_8 : decode (mb M_Mdl_merge) 8 = .ok (.aload_n 0, 1) := by decide +kernel
theorem d_Mdl_merge_9 : decode (mb M_Mdl_merge) 9 = .ok (.iload_n 2, 1) := by decide +kernel
theorem d_Mdl_merge_10 : decode (mb M_Mdl_merge) 10 = .ok (.invokevirtual 172, 3) := by decide +kernel
theorem d_Mdl_merge_13 : decode (mb M_Mdl_merge) 13 = .ok (.ifCond .eq 14, 3) := by decide +kernel
theorem d_Mdl_merge_16 : decode (mb M_Mdl_merge) 16 = .ok (.iload_n 3, 1) := by decide +kernel
theorem d_Mdl_merge_17 : decode (mb M_Mdl_merge) 17 = .ok (.invokestatic 175, 3) := by decide +kernel
theorem d_Mdl_merge_20 : decode (mb M_Mdl_merge) 20 = .ok (.ifCond .eq 7, 3) := by decide +kernel
theorem d_Mdl_merge_23 : decode (mb M_Mdl_merge) 23 = .ok (.iconst 1, 1) := by decide +kernel
theorem d_Mdl_merge_24 : decode (mb M_Mdl_merge) 24 = .ok (.goto 4, 3) := by decide +kernel
theorem d_Mdl_merge_27 : decode (mb M_Mdl_merge) 27 = .ok (.iconst 0, 1) := by decide +kernel
theorem d_Mdl_merge_28 : decode (mb M_Mdl_merge) 28 = .ok (.istore 4, 2) := by decide +kernel
theorem d_Mdl_merge_30 : decode (mb M_Mdl_merge) 30 = .ok (.iload 4, 2) := by decide +kernel
theorem d_Mdl_merge_32 : decode (mb M_Mdl_merge) 32 = .ok (.ifCond .eq 12, 3) := by decide +kernel
theorem d_Mdl_merge_35 : decode (mb M_Mdl_merge) 35 = .ok (.aload_n 0, 1) := by decide +kernel
theorem d_Mdl_merge_36 : decode (mb M_Mdl_merge) 36 = .ok (.iload_n 1, 1) := by decide +kernel
theorem d_Mdl_merge_37 : decode (mb M_Mdl_merge) 37 = .ok (.iload_n 2, 1) := by decide +kernel
theorem d_Mdl_merge_38 : decode (mb M_Mdl_merge) 38 = .ok (.invokevirtual 291, 3) := by decide +kernel
theorem d_Mdl_merge_41 : decode (mb M_Mdl_merge) 41 = .ok (.goto 4, 3) := by decide +kernel
theorem d_Mdl_merge_44 : decode (mb M_Mdl_merge) 44 = .ok (.iconst 0, 1) := by decide +kernel
theorem d_Mdl_merge_45 : decode (mb M_Mdl_merge) 45 = .ok (.istore 5, 2) := by decide +kernel
theorem d_Mdl_merge_47 : decode (mb M_Mdl_merge) 47 = .ok (.iload 4, 2) := by decide +kernel
theorem d_Mdl_merge_49 : decode (mb M_Mdl_merge) 49 = .ok (.ifCond .eq 20, 3) := by decide +kernel
theorem d_Mdl_merge_52 : decode (mb M_Mdl_merge) 52 = .ok (.iload_n 1, 1) := by decide +kernel
theorem d_Mdl_merge_53 : decode (mb M_Mdl_merge) 53 = .ok (.iload_n 2, 1) := by decide +kernel
theorem d_Mdl_merge_54 : decode (mb M_Mdl_merge) 54 = .ok (.if_icmp .eq 15, 3) := by decide +kernel
theorem d_Mdl_merge_57 : decode (mb M_Mdl_merge) 57 = .ok (.aload_n 0, 1) := by decide +kernel
theorem d_Mdl_merge_58 : decode (mb M_Mdl_merge) 58 = .ok (.iload_n 1, 1) := by decide +kernel
theorem d_Mdl_merge_59 : decode (mb M_Mdl_merge) 59 = .ok (.iload_n 2, 1) := by decide +kernel
theorem d_Mdl_merge_60 : decode (mb M_Mdl_merge) 60 = .ok (.iload 5, 2) := by decide +kernel
theorem d_Mdl_merge_62 : decode (mb M_Mdl_merge) 62 = .ok (.iconst 0, 1) := by decide +kernel
theorem d_Mdl_merge_63 : decode (mb M_Mdl_merge) 63 = .ok (.invokevirtual 306, 3) := by decide +kernel
theorem d_Mdl_merge_66 : decode (mb M_Mdl_merge) 66 = .ok (.goto 4, 3) := by decide +kernel
theorem d_Mdl_merge_69 : decode (mb M_Mdl_merge) 69 = .ok (.iconst 0, 1) := by decide +kernel
theorem d_Mdl_merge_70 : decode (mb M_Mdl_merge) 70 = .ok (.istore 6, 2) := by decide +kernel
theorem d_Mdl_merge_72 : decode (mb M_Mdl_merge) 72 = .ok (.aload_n 0, 1) := by decide +kernel
theorem d_Mdl_merge_73 : decode (mb M_Mdl_merge) 73 = .ok (.iload 4, 2) := by decide +kernel
theorem d_Mdl_merge_75 : decode (mb M_Mdl_merge) 75 = .ok (.ifCond .ne 7, 3) := by decide +kernel
theorem d_Mdl_merge_78 : decode (mb M_Mdl_merge) 78 = .ok (.iconst 1, 1) := by decide +kernel
theorem d_Mdl_merge_79 : decode (mb M_Mdl_merge) 79 = .ok (.goto 24, 3) := by decide +kernel
theorem d_Mdl_merge_82 : decode (mb M_Mdl_merge) 82 = .ok (.iload_n 1, 1) := by decide +kernel
theorem d_Mdl_merge_83 : decode (mb M_Mdl_merge) 83 = .ok (.iload_n 2, 1) := by decide +kernel
theorem d_Mdl_merge_84 : decode (mb M_Mdl_merge) 84 = .ok (.if_icmp .ne 7, 3) := by decide +kernel
theorem d_Mdl_merge_87 : decode (mb M_Mdl_merge) 87 = .ok (.iconst 2, 1) := by decide +kernel
theorem d_Mdl_merge_88 : decode (mb M_Mdl_merge) 88 = .ok (.goto 15, 3) := by decide +kernel
theorem d_Mdl_merge_91 : decode (mb M_Mdl_merge) 91 = .ok (.iload 6, 2) := by decide +kernel
theorem d_Mdl_merge_93 : decode (mb M_Mdl_merge) 93 = .ok (.bipush 20, 2) := by decide +kernel
theorem d_Mdl_merge_95 : decode (mb M_Mdl_merge) 95 = .ok (.if_icmp .le 7, 3) := by decide +kernel
theorem d_Mdl_merge_98 : decode (mb M_Mdl_merge) 98 = .ok (.iconst 3, 1) := by decide +kernel
theorem d_Mdl_merge_99 : decode (mb M_Mdl_merge) 99 = .ok (.goto 4, 3) := by decide +kernel
theorem d_Mdl_merge_102 : decode (mb M_Mdl_merge) 102 = .ok (.iconst 0, 1) := by decide +kernel
theorem d_Mdl_merge_103 : decode (mb M_Mdl_merge) 103 = .ok (.invokevirtual 151, 3) := by decide +kernel
theorem d_Mdl_merge_106 : decode (mb M_Mdl_merge) 106 = .ok (.ifCond .eq 5, 3) := by decide +kernel
theorem d_Mdl_merge_109 : decode (mb M_Mdl_merge) 109 = .ok (.iconst 0, 1) := by decide +kernel
theorem d_Mdl_merge_110 : decode (mb M_Mdl_merge) 110 = .ok (.ireturn, 1) := by decide +kernel
theorem d_Mdl_merge_111 : decode (mb M_Mdl_merge) 111 = .ok (.aload_n 0, 1) := by decide +kernel
theorem d_Mdl_merge_112 : decode (mb M_Mdl_merge) 112 = .ok (.iconst 1, 1) := by decide +kernel
theorem d_Mdl_merge_113 : decode (mb M_Mdl_merge) 113 = .ok (.putfield 178, 3) := by decide +kernel
theorem d_Mdl_merge_116 : decode (mb M_Mdl_merge) 116 = .ok (.aload_n 0, 1) := by decide +kernel
theorem d_Mdl_merge_117 : decode (mb M_Mdl_merge) 117 = .ok (.iload_n 1, 1) := by decide +kernel
theorem d_Mdl_merge_118 : decode (mb M_Mdl_merge) 118 = .ok (.putfield 165, 3) := by decide +kernel
theorem d_Mdl_merge_121 : decode (mb M_Mdl_merge) 121 = .ok (.aload_n 0, 1) := by decide +kernel
theorem d_Mdl_merge_122 : decode (mb M_Mdl_merge) 122 = .ok (.iload_n 2, 1) := by decide +kernel
theorem d_Mdl_merge_123 : decode (mb M_Mdl_merge) 123 = .ok (.putfield 182, 3) := by decide +kernel
theorem d_Mdl_merge_126 : decode (mb M_Mdl_merge) 126 = .ok (.aload_n 0, 1) := by decide +kernel
theorem d_Mdl_merge_127 : decode (mb M_Mdl_merge) 127 = .ok (.iload_n 3, 1) := by decide +kernel
theorem d_Mdl_merge_128 : decode (mb M_Mdl_merge) 128 = .ok (.putfield 162, 3) := by decide +kernel
theorem d_Mdl_merge_131 : decode (mb M_Mdl_merge) 131 = .ok (.aload_n 0, 1) := by decide +kernel
theorem d_Mdl_merge_132 : decode (mb M_Mdl_merge) 132 = .ok (.iconst 0, 1) := by decide +kernel
theorem d_Mdl_merge_133 : decode (mb M_Mdl_merge) 133 = .ok (.putfield 185, 3) := by decide +kernel
theorem d_Mdl_merge_136 : decode (mb M_Mdl_merge) 136 = .ok (.aload_n 0, 1) := by decide +kernel
theorem d_Mdl_merge_137 : decode (mb M_Mdl_merge) 137 = .ok (.iconst 0, 1) := by decide +kernel
theorem d_Mdl_merge_138 : decode (mb M_Mdl_merge) 138 = .ok (.putfield 188, 3) := by decide +kernel
theorem d_Mdl_merge_141 : decode (mb M_Mdl_merge) 141 = .ok (.aload_n 0, 1) := by decide +kernel
theorem d_Mdl_merge_142 : decode (mb M_Mdl_merge) 142 = .ok (.iconst 0, 1) := by decide +kernel
theorem d_Mdl_merge_143 : decode (mb M_Mdl_merge) 143 = .ok (.putfield 191, 3) := by decide +kernel
theorem d_Mdl_merge_146 : decode (mb M_Mdl_merge) 146 = .ok (.aload_n 0, 1) := by decide +kernel
theorem d_Mdl_merge_147 : decode (mb M_Mdl_merge) 147 = .ok (.iconst 0, 1) := by decide +kernel
theorem d_Mdl_merge_148 : decode (mb M_Mdl_merge) 148 = .ok (.putfield 194, 3) := by decide +kernel
theorem d_Mdl_merge_151 : decode (mb M_Mdl_merge) 151 = .ok (.aload_n 0, 1) := by decide +kernel
theorem d_Mdl_merge_152 : decode (mb M_Mdl_merge) 152 = .ok (.iload_n 1, 1) := by decide +kernel
theorem d_Mdl_merge_153 : decode (mb M_Mdl_merge) 153 = .ok (.iload_n 2, 1) := by decide +kernel
theorem d_Mdl_merge_154 : decode (mb M_Mdl_merge) 154 = .ok (.iload 5, 2) := by decide +kernel
theorem d_Mdl_merge_156 : decode (mb M_Mdl_merge) 156 = .ok (.iconst 1, 1) := by decide +kernel
theorem d_Mdl_merge_157 : decode (mb M_Mdl_merge) 157 = .ok (.invokevirtual 306, 3) := by decide +kernel
theorem d_Mdl_merge_160 : decode (mb M_Mdl_merge) 160 = .ok (.pop, 1) := by decide +kernel
theorem d_Mdl_merge_161 : decode (mb M_Mdl_merge) 161 = .ok (.aload_n 0, 1) := by decide +kernel
theorem d_Mdl_merge_162 : decode (mb M_Mdl_merge) 162 = .ok (.getfield 185, 3) := by decide +kernel
theorem d_Mdl_merge_165 : decode (mb M_Mdl_merge) 165 = .ok (.ireturn, 1) := by decide +kernel
theorem d_Mdl_move_0 : decode (mb M_Mdl_move) 0 = .ok (.aload_n 0, 1) := by decide +kernel
theorem d_Mdl_move_1 : decode (mb M_Mdl_move) 1 = .ok (.aload_n 0, 1) := by decide +kernel
theorem d_Mdl_move_2 : decode (mb M_Mdl_move) 2 = .ok (.iload_n 1, 1) := by decide +kernel
theorem d_Mdl_move_3 : decode (mb M_Mdl_move) 3 = .ok (.invokevirtual 215, 3) := by decide +kernel
theorem d_Mdl_move_6 : decode (mb M_Mdl_move) 6 = .ok (.ifCond .eq 11, 3) := by decide +kernel
theorem d_Mdl_move_9 : decode (mb M_Mdl_move) 9 = .ok (.aload_n 0, 1) := by decide +kernel
theorem d_Mdl_move_10 : decode (mb M_Mdl_move) 10 = .ok (.iload_n 2, 1) := by decide +kernel
theorem d_Mdl_move_11 : decode (mb M_Mdl_move) 11 = .ok (.invokevirtual 215, 3) := by decide +kernel
theorem d_Mdl_move_14 : decode (mb M_Mdl_move) 14 = .ok (.ifCond .ne 7, 3) := by decide +kernel
theorem d_Mdl_move_17 : decode (mb M_Mdl_move) 17 = .ok (.iconst 1, 1) := by decide +kernel
theorem d_Mdl_move_18 : decode (mb M_Mdl_move) 18 = .ok (.goto 15, 3) := by decide +kernel
theorem d_Mdl_move_21 : decode (mb M_Mdl_move) 21 = .ok (.aload_n 0, 1) := by decide +kernel
theorem d_Mdl_move_22 : decode (mb M_Mdl_move) 22 = .ok (.invokevirtual 201, 3) := by decide +kernel
theorem d_Mdl_move_25 : decode (mb M_Mdl_move) 25 = .ok (.ifCond .eq 7, 3) := by decide +kernel
theorem d_Mdl_move_28 : decode (mb M_Mdl_move) 28 = .ok (.iconst 0, 1) := by decide +kernel
theorem d_Mdl_move_29 : decode (mb M_Mdl_move) 29 = .ok (.goto 4, 3) := by decide +kernel
theorem d_Mdl_move_32 : decode (mb M_Mdl_move) 32 = .ok (.iconst 2, 1) := by decide +kernel
theorem d_Mdl_move_33 : decode (mb M_Mdl_move) 33 = .ok (.invokevirtual 151, 3) := by decide +kernel
theorem d_Mdl_move_36 : decode (mb M_Mdl_move) 36 = .ok (.ifCond .ne 25, 3) := by decide +kernel
theorem d_Mdl_move_39 : decode (mb M_Mdl_move) 39 = .ok (.aload_n 0, 1) := by decide +kernel
theorem d_Mdl_move_40 : decode (mb M_Mdl_move) 40 = .ok (.invokevirtual 205, 3) := by decide +kernel
theorem d_Mdl_move_43 : decode (mb M_Mdl_move) 43 = .ok (.aload_n 0, 1) := by decide +kernel
theorem d_Mdl_move_44 : decode (mb M_Mdl_move) 44 = .ok (.getfield 35, 3) := by decide +kernel
theorem d_Mdl_move_47 : decode (mb M_Mdl_move) 47 = .ok (.iload_n 1, 1) := by decide +kernel
theorem d_Mdl_move_48 : decode (mb M_Mdl_move) 48 = .ok (.iaload, 1) := by decide +kernel
theorem d_Mdl_move_49 : decode (mb M_Mdl_move) 49 = .ok (.istore_n 3, 1) := by decide +kernel
theorem d_Mdl_move_50 : decode (mb M_Mdl_move) 50 = .ok (.aload_n 0, 1) := by decide +kernel
theorem d_Mdl_move_51 : decode (mb M_Mdl_move) 51 = .ok (.iload_n 1, 1) := by decide +kernel
theorem d_Mdl_move_52 : decode (mb M_Mdl_move) 52 = .ok (.invokevirtual 218, 3) := by decide +kernel
theorem d_Mdl_move_55 : decode (mb M_Mdl_move) 55 = .ok (.aload_n 0, 1) := by decide +kernel
theorem d_Mdl_move_56 : decode (mb M_Mdl_move) 56 = .ok (.iload_n 2, 1) := by decide +kernel
theorem d_Mdl_move_57 : decode (mb M_Mdl_move) 57 = .ok (.iload_n 3, 1) := by decide +kernel
theorem d_Mdl_move_58 : decode (mb M_Mdl_move) 58 = .ok (.invokevirtual 211, 3) := by decide +kernel
theorem d_Mdl_move_61 : decode (mb M_Mdl_move) 61 = .ok (.return_, 1) := by decide +kernel
theorem d_Mdl_movedTo_0 : decode (mb M_Mdl_movedTo) 0 = .ok (.aload_n 0, 1) := by decide +kernel
theorem d_Mdl_movedTo_1 : decode (mb M_Mdl_movedTo) 1 = .ok (.aload_n 0, 1) := by decide +kernel
theorem d_Mdl_movedTo_2 : decode (mb M_Mdl_movedTo) 2 = .ok (.iload_n 1, 1) := by decide +kernel
theorem d_Mdl_movedTo_3 : decode (mb M_Mdl_movedTo) 3 = .ok (.invokevirtual 265, 3) := by decide +kernel
theorem d_Mdl_movedTo_6 : decode (mb M_Mdl_movedTo) 6 = .ok (.ifCond .eq 7, 3) := by decide +kernel
theorem d_Mdl_movedTo_9 : decode (mb M_Mdl_movedTo) 9 = .ok (.iconst 0, 1) := by decide +kernel
theorem d_Mdl_movedTo_10 : decode (mb M_Mdl_movedTo) 10 = .ok (.goto 4, 3) := by decide +kernel
theorem d_Mdl_movedTo_13 : decode (mb M_Mdl_movedTo) 13 = .ok (.iconst 1, 1) := by decide +kernel
theorem d_Mdl_movedTo_14 : decode (mb M_Mdl_movedTo) 14 = .ok (.invokevirtual 151, 3) := by decide +kernel
theorem d_Mdl_movedTo_17 : decode (mb M_Mdl_movedTo) 17 = .ok (.ifCond .eq 7, 3) := by decide +kernel
theorem d_Mdl_movedTo_20 : decode (mb M_Mdl_movedTo) 20 = .ok (.iconst 0, 1) := by decide +kernel
theorem d_Mdl_movedTo_21 : decode (mb M_Mdl_movedTo) 21 = .ok (.goto 9, 3) := by decide +kernel
theorem d_Mdl_movedTo_24 : decode (mb M_Mdl_movedTo) 24 = .ok (.aload_n 0, 1) := by decide +kernel
theorem d_Mdl_movedTo_25 : decode (mb M_Mdl_movedTo) 25 = .ok (.getfield 56, 3) := by decide +kernel
theorem d_Mdl_movedTo_28 : decode (mb M_Mdl_movedTo) 28 = .ok (.iload_n 1, 1) := by decide +kernel
theorem d_Mdl_movedTo_29 : decode (mb M_Mdl_movedTo) 29 = .ok (.iaload, 1) := by decide +kernel
theorem d_Mdl_movedTo_30 : decode (mb M_Mdl_movedTo) 30 = .ok (.ireturn, 1) := by decide +kernel
theorem d_Mdl_note_0 : decode (mb M_Mdl_note) 0 = .ok (.aload_n 0, 1) := by decide +kernel
theorem d_Mdl_note_1 : decode (mb M_Mdl_note) 1 = .ok (.aload_n 0, 1) := by decide +kernel
theorem d_Mdl_note_2 : decode (mb M_Mdl_note) 2 = .ok (.iload_n 1, 1) := by decide +kernel
theorem d_Mdl_note_3 : decode (mb M_Mdl_note) 3 = .ok (.iload_n 2, 1) := by decide +kernel
theorem d_Mdl_note_4 : decode (mb M_Mdl_note) 4 = .ok (.invokevirtual 226, 3) := by decide +kernel
theorem d_Mdl_note_7 : decode (mb M_Mdl_note) 7 = .ok (.ifCond .ne 7, 3) := by decide +kernel
theorem d_Mdl_note_10 : decode (mb M_Mdl_note) 10 = .ok (.iconst 1, 1) := by decide +kernel
theorem d_Mdl_note_11 : decode (mb M_Mdl_note) 11 = .ok (.goto 17, 3) := by decide +kernel
theorem d_Mdl_note_14 : decode (mb M_Mdl_note) 14 = .ok (.aload_n 0, 1) := by decide +kernel
theorem d_Mdl_note_15 : decode (mb M_Mdl_note) 15 = .ok (.getfield 345, 3) := by decide +kernel
theorem d_Mdl_note_18 : decode (mb M_Mdl_note) 18 = .ok (.bipush 20, 2) := by decide +kernel
theorem d_Mdl_note_20 : decode (mb M_Mdl_note) 20 = .ok (.if_icmp .ne 7, 3) := by decide +kernel
theorem d_Mdl_note_23 : decode (mb M_Mdl_note) 23 = .ok (.iconst 2, 1) := by decide +kernel
theorem d_Mdl_note_24 : decode (mb M_Mdl_note) 24 = .ok (.goto 4, 3) := by decide +kernel
theorem d_Mdl_note_27 : decode (mb M_Mdl_note) 27 = .ok (.iconst 0, 1) := by decide +kernel
theorem d_Mdl_note_28 : decode (mb M_Mdl_note) 28 = .ok (.invokevirtual 151, 3) := by decide +kernel
theorem d_Mdl_note_31 : decode (mb M_Mdl_note) 31 = .ok (.ifCond .eq 5, 3) := by decide +kernel
theorem d_Mdl_note_34 : decode (mb M_Mdl_note) 34 = .ok (.iconst 0, 1) := by decide +kernel
theorem d_Mdl_note_35 : decode (mb M_Mdl_note) 35 = .ok (.ireturn, 1) := by decide +kernel
theorem d_Mdl_note_36 : decode (mb M_Mdl_note) 36 = .ok (.aload_n 0, 1) := by decide +kernel
theorem d_Mdl_note_37 : decode (mb M_Mdl_note) 37 = .ok (.getfield 77, 3) := by decide +kernel
theorem d_Mdl_note_40 : decode (mb M_Mdl_note) 40 = .ok (.aload_n 0, 1) := by decide +kernel
theorem d_Mdl_note_41 : decode (mb M_Mdl_note) 41 = .ok (.getfield 345, 3) := by decide +kernel
theorem d_Mdl_note_44 : decode (mb M_Mdl_note) 44 = .ok (.aload_n 0, 1) := by decide +kernel
theorem d_Mdl_note_45 : decode (mb M_Mdl_note) 45 = .ok (.getfield 23, 3) := by decide +kernel
theorem d_Mdl_note_48 : decode (mb M_Mdl_note) 48 = .ok (.bipush 20, 2) := by decide +kernel
theorem d_Mdl_note_50 : decode (mb M_Mdl_note) 50 = .ok (.iload_n 1, 1) := by decide +kernel
theorem d_Mdl_note_51 : decode (mb M_Mdl_note) 51 = .ok (.imul, 1) := by decide +kernel
theorem d_Mdl_note_52 : decode (mb M_Mdl_note) 52 = .ok (.iload_n 2, 1) := by decide +kernel
theorem d_Mdl_note_53 : decode (mb M_Mdl_note) 53 = .ok (.iadd, 1) := by decide +kernel
theorem d_Mdl_note_54 : decode (mb M_Mdl_note) 54 = .ok (.iaload, 1) := by decide +kernel
theorem d_Mdl_note_55 : decode (mb M_Mdl_note) 55 = .ok (.iastore, 1) := by decide +kernel
theorem d_Mdl_note_56 : decode (mb M_Mdl_note) 56 = .ok (.aload_n 0, 1) := by decide +kernel
theorem d_Mdl_note_57 : decode (mb M_Mdl_note) 57 = .ok (.dup, 1) := by decide +kernel
theorem d_Mdl_note_58 : decode (mb M_Mdl_note) 58 = .ok (.getfield 345, 3) := by decide +kernel
theorem d_Mdl_note_61 : decode (mb M_Mdl_note) 61 = .ok (.iconst 1, 1) := by decide +kernel
theorem d_Mdl_note_62 : decode (mb M_Mdl_note) 62 = .ok (.iadd, 1) := by decide +kernel
theorem d_Mdl_note_63 : decode (mb M_Mdl_note) 63 = .ok (.putfield 345, 3) := by decide +kernel
theorem d_Mdl_note_66 : decode (mb M_Mdl_note) 66 = .ok (.aload_n 0, 1) := by decide +kernel
theorem d_Mdl_note_67 : decode (mb M_Mdl_note) 67 = .ok (.getfield 345, 3) := by decide +kernel
theorem d_Mdl_note_70 : decode (mb M_Mdl_note) 70 = .ok (.iconst 1, 1) := by decide +kernel
theorem d_Mdl_note_71 : decode (mb M_Mdl_note) 71 = .ok (.isub, 1) := by decide +kernel
theorem d_Mdl_note_72 : decode (mb M_Mdl_note) 72 = .ok (.ireturn, 1) := by decide +kernel
theorem d_Mdl_noteAt_0 : decode (mb M_Mdl_noteAt) 0 = .ok (.aload_n 0, 1) := by decide +kernel
theorem d_Mdl_noteAt_1 : decode (mb M_Mdl_noteAt) 1 = .ok (.iload_n 1, 1) := by decide +kernel
theorem d_Mdl_noteAt_2 : decode (mb M_Mdl_noteAt) 2 = .ok (.iconst 0, 1) := by decide +kernel
theorem d_Mdl_noteAt_3 : decode (mb M_Mdl_noteAt) 3 = .ok (.aload_n 0, 1) := by decide +kernel
theorem d_Mdl_noteAt_4 : decode (mb M_Mdl_noteAt) 4 = .ok (.getfield 345, 3) := by decide +kernel
theorem d_Mdl_noteAt_7 : decode (mb M_Mdl_noteAt) 7 = .ok (.iconst 1, 1) := by decide +kernel
theorem d_Mdl_noteAt_8 : decode (mb M_Mdl_noteAt) 8 = .ok (.isub, 1) := by decide +kernel
theorem d_Mdl_noteAt_9 : decode (mb M_Mdl_noteAt) 9 = .ok (.invokestatic 130, 3) := by decide +kernel
theorem d_Mdl_noteAt_12 : decode (mb M_Mdl_noteAt) 12 = .ok (.ifCond .eq 15, 3) := by decide +kernel
theorem d_Mdl_noteAt_15 : decode (mb M_Mdl_noteAt) 15 = .ok (.aload_n 0, 1) := by decide +kernel
theorem d_Mdl_noteAt_16 : decode (mb M_Mdl_noteAt) 16 = .ok (.iload_n 2, 1) := by decide +kernel
theorem d_Mdl_noteAt_17 : decode (mb M_Mdl_noteAt) 17 = .ok (.invokevirtual 172, 3) := by decide +kernel
theorem d_Mdl_noteAt_20 : decode (mb M_Mdl_noteAt) 20 = .ok (.ifCond .eq 7, 3) := by decide +kernel
theorem d_Mdl_noteAt_23 : decode (mb M_Mdl_noteAt) 23 = .ok (.iconst 0, 1) := by decide +kernel
theorem d_Mdl_noteAt_24 : decode (mb M_Mdl_noteAt) 24 = .ok (.goto 4, 3) := by decide +kernel
theorem d_Mdl_noteAt_27 : decode (mb M_Mdl_noteAt) 27 = .ok (.iconst 1, 1) := by decide +kernel
theorem d_Mdl_noteAt_28 : decode (mb M_Mdl_noteAt) 28 = .ok (.invokevirtual 151, 3) := by decide +kernel
theorem d_Mdl_noteAt_31 : decode (mb M_Mdl_noteAt) 31 = .ok (.ifCond .eq 5, 3) := by decide +kernel
theorem d_Mdl_noteAt_34 : decode (mb M_Mdl_noteAt) 34 = .ok (.iconst 0, 1) := by decide +kernel
theorem d_Mdl_noteAt_35 : decode (mb M_Mdl_noteAt) 35 = .ok (.ireturn, 1) := by decide +kernel
theorem d_Mdl_noteAt_36 : decode (mb M_Mdl_noteAt) 36 = .ok (.iconst 0, 1) := by decide +kernel
theorem d_Mdl_noteAt_37 : decode (mb M_Mdl_noteAt) 37 = .ok (.istore_n 3, 1) := by decide +kernel
theorem d_Mdl_noteAt_38 : decode (mb M_Mdl_noteAt) 38 = .ok (.iload_n 3, 1) := by decide +kernel
theorem d_Mdl_noteAt_39 : decode (mb M_Mdl_noteAt) 39 = .ok (.aload_n 0, 1) := by decide +kernel
theorem d_Mdl_noteAt_40 : decode (mb M_Mdl_noteAt) 40 = .ok (.getfield 20, 3) := by decide +kernel
theorem d_Mdl_noteAt_43 : decode (mb M_Mdl_noteAt) 43 = .ok (.iload_n 2, 1) := by decide +kernel
theorem d_Mdl_noteAt_44 : decode (mb M_Mdl_noteAt) 44 = .ok (.iaload, 1) := by decide +kernel
theorem d_Mdl_noteAt_45 : decode (mb M_Mdl_noteAt) 45 = .ok (.if_icmp .ge 59, 3) := by decide +kernel
theorem d_Mdl_noteAt_48 : decode (mb M_Mdl_noteAt) 48 = .ok (.aload_n 0, 1) := by decide +kernel
theorem d_Mdl_noteAt_49 : decode (mb M_Mdl_noteAt) 49 = .ok (.getfield 23, 3) := by decide +kernel
theorem d_Mdl_noteAt_52 : decode (mb M_Mdl_noteAt) 52 = .ok (.bipush 20, 2) := by decide +kernel
theorem d_Mdl_noteAt_54 : decode (mb M_Mdl_noteAt) 54 = .ok (.iload_n 2, 1) := by decide +kernel
theorem d_Mdl_noteAt_55 : decode (mb M_Mdl_noteAt) 55 = .ok (.imul, 1) := by decide +kernel
theorem d_Mdl_noteAt_56 : decode (mb M_Mdl_noteAt) 56 = .ok (.iload_n 3, 1) := by decide +kernel
theorem d_Mdl_noteAt_57 : decode (mb M_Mdl_noteAt) 57 = .ok (.iadd, 1) := by decide +kernel
theorem d_Mdl_noteAt_58 : decode (mb M_Mdl_noteAt) 58 = .ok (.iaload, 1) := by decide +kernel
theorem d_Mdl_noteAt_59 : decode (mb M_Mdl_noteAt) 59 = .ok (.istore 4, 2) := by decide +kernel
theorem d_Mdl_noteAt_61 : decode (mb M_Mdl_noteAt) 61 = .ok (.iload 4, 2) := by decide +kernel
theorem d_Mdl_noteAt_63 : decode (mb M_Mdl_noteAt) 63 = .ok (.iconst (-1), 1) := by decide +kernel
theorem d_Mdl_noteAt_64 : decode (mb M_Mdl_noteAt) 64 = .ok (.if_icmp .eq 26, 3) := by decide +kernel
theorem d_Mdl_noteAt_67 : decode (mb M_Mdl_noteAt) 67 = .ok (.iload 4, 2) := by decide +kernel
theorem d_Mdl_noteAt_69 : decode (mb M_Mdl_noteAt) 69 = .ok (.aload_n 0, 1) := by decide +kernel
theorem d_Mdl_noteAt_70 : decode (mb M_Mdl_noteAt) 70 = .ok (.getfield 77, 3) := by decide +kernel
theorem d_Mdl_noteAt_73 : decode (mb M_Mdl_noteAt) 73 = .ok (.iload_n 1, 1) := by decide +kernel
theorem d_Mdl_noteAt_74 : decode (mb M_Mdl_noteAt) 74 = .ok (.iaload, 1) := by decide +kernel
theorem d_Mdl_noteAt_75 : decode (mb M_Mdl_noteAt) 75 = .ok (.if_icmp .eq 15, 3) := by decide +kernel
theorem d_Mdl_noteAt_78 : decode (mb M_Mdl_noteAt) 78 = .ok (.aload_n 0, 1) := by decide +kernel
theorem d_Mdl_noteAt_79 : decode (mb M_Mdl_noteAt) 79 = .ok (.getfield 17, 3) := by decide +kernel
theorem d_Mdl_noteAt_82 : decode (mb M_Mdl_noteAt) 82 = .ok (.iload 4, 2) := by decide +kernel
theorem d_Mdl_noteAt_84 : decode (mb M_Mdl_noteAt) 84 = .ok (.iaload, 1) := by decide +kernel
theorem d_Mdl_noteAt_85 : decode (mb M_Mdl_noteAt) 85 = .ok (.istore 4, 2) := by decide +kernel
theorem d_Mdl_noteAt_87 : decode (mb M_Mdl_noteAt) 87 = .ok (.goto (-26), 3) := by decide +kernel
theorem d_Mdl_noteAt_90 : decode (mb M_Mdl_noteAt) 90 = .ok (.iload 4, 2) := by decide +kernel
theorem d_Mdl_noteAt_92 : decode (mb M_Mdl_noteAt) 92 = .ok (.iconst (-1), 1) := by decide +kernel
theorem d_Mdl_noteAt_93 : decode (mb M_Mdl_noteAt) 93 = .ok (.if_icmp .eq 5, 3) := by decide +kernel
theorem d_Mdl_noteAt_96 : decode (mb M_Mdl_noteAt) 96 = .ok (.iload_n 3, 1) := by decide +kernel
theorem d_Mdl_noteAt_97 : decode (mb M_Mdl_noteAt) 97 = .ok (.ireturn, 1) := by decide +kernel
theorem d_Mdl_noteAt_98 : decode (mb M_Mdl_noteAt) 98 = .ok (.iinc 3 1, 3) := by decide +kernel
theorem d_Mdl_noteAt_101 : decode (mb M_Mdl_noteAt) 101 = .ok (.goto (-63), 3) := by decide +kernel
theorem d_Mdl_noteAt_104 : decode (mb M_Mdl_noteAt) 104 = .ok (.iconst (-1), 1) := by decide +kernel
theorem d_Mdl_noteAt_105 : decode (mb M_Mdl_noteAt) 105 = .ok (.ireturn, 1) := by decide +kernel
theorem d_Mdl_pair_0 : decode (mb M_Mdl_pair) 0 = .ok (.aload_n 0, 1) := by decide +kernel
theorem d_Mdl_pair_1 : decode (mb M_Mdl_pair) 1 = .ok (.getfield 20, 3) := by decide +kernel
theorem d_Mdl_pair_4 : decode (mb M_Mdl_pair) 4 = .ok (.iload_n 1, 1) := by decide +kernel
theorem d_Mdl_pair_5 : decode (mb M_Mdl_pair) 5 = .ok (.iaload, 1) := by decide +kernel
theorem d_Mdl_pair_6 : decode (mb M_Mdl_pair) 6 = .ok (.istore 4, 2) := by decide +kernel
theorem d_Mdl_pair_8 : decode (mb M_Mdl_pair) 8 = .ok (.aload_n 0, 1) := by decide +kernel
theorem d_Mdl_pair_9 : decode (mb M_Mdl_pair) 9 = .ok (.getfield 20, 3) := by decide +kernel
theorem d_Mdl_pair_12 : decode (mb M_Mdl_pair) 12 = .ok (.iload_n 2, 1) := by decide +kernel
theorem d_Mdl_pair_13 : decode (mb M_Mdl_pair) 13 = .ok (.iaload, 1) := by decide +kernel
theorem d_Mdl_pair_14 : decode (mb M_Mdl_pair) 14 = .ok (.istore 5, 2) := by decide +kernel
theorem d_Mdl_pair_16 : decode (mb M_Mdl_pair) 16 = .ok (.iload 4, 2) := by decide +kernel
theorem d_Mdl_pair_18 : decode (mb M_Mdl_pair) 18 = .ok (.istore 6, 2) := by decide +kernel
theorem d_Mdl_pair_20 : decode (mb M_Mdl_pair) 20 = .ok (.iload 6, 2) := by decide +kernel
theorem d_Mdl_pair_22 : decode (mb M_Mdl_pair) 22 = .ok (.ifCond .lt 208, 3) := by decide +kernel
theorem d_Mdl_pair_25 : decode (mb M_Mdl_pair) 25 = .ok (.iload 5, 2) := by decide +kernel
theorem d_Mdl_pair_27 : decode (mb M_Mdl_pair) 27 = .ok (.istore 7, 2) := by decide +kernel
theorem d_Mdl_pair_29 : decode (mb M_Mdl_pair) 29 = .ok (.iload 7, 2) := by decide +kernel
theorem d_Mdl_pair_31 : decode (mb M_Mdl_pair) 31 = .ok (.ifCond .lt 193, 3) := by decide +kernel
theorem d_Mdl_pair_34 : decode (mb M_Mdl_pair) 34 = .ok (.iload 6, 2) := by decide +kernel
theorem d_Mdl_pair_36 : decode (mb M_Mdl_pair) 36 = .ok (.iload 4, 2) := by decide +kernel
theorem d_Mdl_pair_38 : decode (mb M_Mdl_pair) 38 = .ok (.if_icmp .eq 10, 3) := by decide +kernel
theorem d_Mdl_pair_41 : decode (mb M_Mdl_pair) 41 = .ok (.iload 7, 2) := by decide +kernel
theorem d_Mdl_pair_43 : decode (mb M_Mdl_pair) 43 = .ok (.iload 5, 2) := by decide +kernel
theorem d_Mdl_pair_45 : decode (mb M_Mdl_pair) 45 = .ok (.if_icmp .ne 7, 3) := by decide +kernel
theorem d_Mdl_pair_48 : decode (mb M_Mdl_pair) 48 = .ok (.iconst 1, 1) := by decide +kernel
theorem d_Mdl_pair_49 : decode (mb M_Mdl_pair) 49 = .ok (.goto 4, 3) := by decide +kernel
theorem d_Mdl_pair_52 : decode (mb M_Mdl_pair) 52 = .ok (.iconst 0, 1) := by decide +kernel
theorem d_Mdl_pair_53 : decode (mb M_Mdl_pair) 53 = .ok (.istore 8, 2) := by decide +kernel
theorem d_Mdl_pair_55 : decode (mb M_Mdl_pair) 55 = .ok (.iload 8, 2) := by decide +kernel
theorem d_Mdl_pair_57 : decode (mb M_Mdl_pair) 57 = .ok (.ifCond .eq 7, 3) := by decide +kernel
theorem d_Mdl_pair_60 : decode (mb M_Mdl_pair) 60 = .ok (.iconst 0, 1) := by decide +kernel
theorem d_Mdl_pair_61 : decode (mb M_Mdl_pair) 61 = .ok (.goto 69, 3) := by decide +kernel
theorem d_Mdl_pair_64 : decode (mb M_Mdl_pair) 64 = .ok (.aload_n 0, 1) := by decide +kernel
theorem d_Mdl_pair_65 : decode (mb M_Mdl_pair) 65 = .ok (.getfield 96, 3) := by decide +kernel
theorem d_Mdl_pair_68 : decode (mb M_Mdl_pair) 68 = .ok (.bipush 21, 2) := by decide +kernel
theorem d_Mdl_pair_70 : decode (mb M_Mdl_pair) 70 = .ok (.iload 6, 2) := by decide +kernel
theorem d_Mdl_pair_72 : decode (mb M_Mdl_pair) 72 = .ok (.iconst 1, 1) := by decide +kernel
theorem d_Mdl_pair_73 : decode (mb M_Mdl_pair) 73 = .ok (.iadd, 1) := by decide +kernel
theorem d_Mdl_pair_74 : decode (mb M_Mdl_pair) 74 = .ok (.imul, 1) := by decide +kernel
theorem d_Mdl_pair_75 : decode (mb M_Mdl_pair) 75 = .ok (.iload 7, 2) := by decide +kernel
theorem d_Mdl_pair_77 : decode (mb M_Mdl_pair) 77 = .ok (.iadd, 1) := by decide +kernel
theorem d_Mdl_pair_78 : decode (mb M_Mdl_pair) 78 = .ok (.iaload, 1) := by decide +kernel
theorem d_Mdl_pair_79 : decode (mb M_Mdl_pair) 79 = .ok (.aload_n 0, 1) := by decide +kernel
theorem d_Mdl_pair_80 : decode (mb M_Mdl_pair) 80 = .ok (.getfield 96, 3) := by decide +kernel
theorem d_Mdl_pair_83 : decode (mb M_Mdl_pair) 83 = .ok (.bipush 21, 2) := by decide +kernel
theorem d_Mdl_pair_85 : decode (mb M_Mdl_pair) 85 = .ok (.iload 6, 2) := by decide +kernel
theorem d_Mdl_pair_87 : decode (mb M_Mdl_pair) 87 = .ok (.imul, 1) := by decide +kernel
theorem d_Mdl_pair_88 : decode (mb M_Mdl_pair) 88 = .ok (.iload 7, 2) := by decide +kernel
theorem d_Mdl_pair_90 : decode (mb M_Mdl_pair) 90 = .ok (.iadd, 1) := by decide +kernel
theorem d_Mdl_pair_91 : decode (mb M_Mdl_pair) 91 = .ok (.iconst 1, 1) := by decide +kernel
theorem d_Mdl_pair_92 : decode (mb M_Mdl_pair) 92 = .ok (.iadd, 1) := by decide +kernel
theorem d_Mdl_pair_93 : decode (mb M_Mdl_pair) 93 = .ok (.iaload, 1) := by decide +kernel
theorem d_Mdl_pair_94 : decode (mb M_Mdl_pair) 94 = .ok (.if_icmp .le 21, 3) := by decide +kernel
theorem d_Mdl_pair_97 : decode (mb M_Mdl_pair) 97 = .ok (.aload_n 0, 1) := by decide +kernel
theorem d_Mdl_pair_98 : decode (mb M_Mdl_pair) 98 = .ok (.getfield 96, 3) := by decide +kernel
theorem d_Mdl_pair_101 : decode (mb M_Mdl_pair) 101 = .ok (.bipush 21, 2) := by decide +kernel
theorem d_Mdl_pair_103 : decode (mb M_Mdl_pair) 103 = .ok (.iload 6, 2) := by decide +kernel
theorem d_Mdl_pair_105 : decode (mb M_Mdl_pair) 105 = .ok (.iconst 1, 1) := by decide +kernel
theorem d_Mdl_pair_106 : decode (mb M_Mdl_pair) 106 = .ok (.iadd, 1) := by decide +kernel
theorem d_Mdl_pair_107 : decode (mb M_Mdl_pair) 107 = .ok (.imul, 1) := by decide +kernel
theorem d_Mdl_pair_108 : decode (mb M_Mdl_pair) 108 = .ok (.iload 7, 2) := by decide +kernel
theorem d_Mdl_pair_110 : decode (mb M_Mdl_pair) 110 = .ok (.iadd, 1) := by decide +kernel
theorem d_Mdl_pair_111 : decode (mb M_Mdl_pair) 111 = .ok (.iaload, 1) := by decide +kernel
theorem d_Mdl_pair_112 : decode (mb M_Mdl_pair) 112 = .ok (.goto 18, 3) := by decide +kernel
theorem d_Mdl_pair_115 : decode (mb M_Mdl_pair) 115 = .ok (.aload_n 0, 1) := by decide +kernel
theorem d_Mdl_pair_116 : decode (mb M_Mdl_pair) 116 = .ok (.getfield 96, 3) := by decide +kernel
theorem d_Mdl_pair_119 : decode (mb M_Mdl_pair) 119 = .ok (.bipush 21, 2) := by decide +kernel
theorem d_Mdl_pair_121 : decode (mb M_Mdl_pair) 121 = .ok (.iload 6, 2) := by decide +kernel
theorem d_Mdl_pair_123 : decode (mb M_Mdl_pair) 123 = .ok (.imul, 1) := by decide +kernel
theorem d_Mdl_pair_124 : decode (mb M_Mdl_pair) 124 = .ok (.iload 7, 2) := by decide +kernel
theorem d_Mdl_pair_126 : decode (mb M_Mdl_pair) 126 = .ok (.iadd, 1) := by decide +kernel
theorem d_Mdl_pair_127 : decode (mb M_Mdl_pair) 127 = .ok (.iconst 1, 1) := by decide +kernel
theorem d_Mdl_pair_128 : decode (mb M_Mdl_pair) 128 = .ok (.iadd, 1) := by decide +kernel
theorem d_Mdl_pair_129 : decode (mb M_Mdl_pair) 129 = .ok (.iaload, 1) := by decide +kernel
theorem d_Mdl_pair_130 : decode (mb M_Mdl_pair) 130 = .ok (.istore 9, 2) := by decide +kernel
theorem d_Mdl_pair_132 : decode (mb M_Mdl_pair) 132 = .ok (.iload 8, 2) := by decide +kernel
theorem d_Mdl_pair_134 : decode (mb M_Mdl_pair) 134 = .ok (.ifCond .ne 39, 3) := by decide +kernel
theorem d_Mdl_pair_137 : decode (mb M_Mdl_pair) 137 = .ok (.aload_n 0, 1) := by decide +kernel
theorem d_Mdl_pair_138 : decode (mb M_Mdl_pair) 138 = .ok (.aload_n 0, 1) := by decide +kernel
theorem d_Mdl_pair_139 : decode (mb M_Mdl_pair) 139 = .ok (.getfield 23, 3) := by decide +kernel
theorem d_Mdl_pair_142 : decode (mb M_Mdl_pair) 142 = .ok (.bipush 20, 2) := by decide +kernel
theorem d_Mdl_pair_144 : decode (mb M_Mdl_pair) 144 = .ok (.iload_n 1, 1) := by decide +kernel
theorem d_Mdl_pair_145 : decode (mb M_Mdl_pair) 145 = .ok (.imul, 1) := by decide +kernel
theorem d_Mdl_pair_146 : decode (mb M_Mdl_pair) 146 = .ok (.iload 6, 2) := by decide +kernel
theorem d_Mdl_pair_148 : decode (mb M_Mdl_pair) 148 = .ok (.iadd, 1) := by decide +kernel
theorem d_Mdl_pair_149 : decode (mb M_Mdl_pair) 149 = .ok (.iaload, 1) := by decide +kernel
theorem d_Mdl_pair_150 : decode (mb M_Mdl_pair) 150 = .ok (.aload_n 0, 1) := by decide +kernel
theorem d_Mdl_pair_151 : decode (mb M_Mdl_pair) 151 = .ok (.getfield 23, 3) := by decide +kernel
theorem d_Mdl_pair_154 : decode (mb M_Mdl_pair) 154 = .ok (.bipush 20, 2) := by decide +kernel
theorem d_Mdl_pair_156 : decode (mb M_Mdl_pair) 156 = .ok (.iload_n 2, 1) := by decide +kernel
theorem d_Mdl_pair_157 : decode (mb M_Mdl_pair) 157 = .ok (.imul, 1) := by decide +kernel
theorem d_Mdl_pair_158 : decode (mb M_Mdl_pair) 158 = .ok (.iload 7, 2) := by decide +kernel
theorem d_Mdl_pair_160 : decode (mb M_Mdl_pair) 160 = .ok (.iadd, 1) := by decide +kernel
theorem d_Mdl_pair_161 : decode (mb M_Mdl_pair) 161 = .ok (.iaload, 1) := by decide +kernel
theorem d_Mdl_pair_162 : decode (mb M_Mdl_pair) 162 = .ok (.iload_n 3, 1) := by decide +kernel
theorem d_Mdl_pair_163 : decode (mb M_Mdl_pair) 163 = .ok (.invokevirtual 245, 3) := by decide +kernel
theorem d_Mdl_pair_166 : decode (mb M_Mdl_pair) 166 = .ok (.ifCond .eq 7, 3) := by decide +kernel
theorem d_Mdl_pair_169 : decode (mb M_Mdl_pair) 169 = .ok (.iconst 1, 1) := by decide +kernel
theorem d_Mdl_pair_170 : decode (mb M_Mdl_pair) 170 = .ok (.goto 4, 3) := by decide +kernel
theorem d_Mdl_pair_173 : decode (mb M_Mdl_pair) 173 = .ok (.iconst 0, 1) := by decide +kernel
theorem d_Mdl_pair_174 : decode (mb M_Mdl_pair) 174 = .ok (.istore 10, 2) := by decide +kernel
theorem d_Mdl_pair_176 : decode (mb M_Mdl_pair) 176 = .ok (.aload_n 0, 1) := by decide +kernel
theorem d_Mdl_pair_177 : decode (mb M_Mdl_pair) 177 = .ok (.getfield 96, 3) := by decide +kernel
theorem d_Mdl_pair_180 : decode (mb M_Mdl_pair) 180 = .ok (.bipush 21, 2) := by decide +kernel
theorem d_Mdl_pair_182 : decode (mb M_Mdl_pair) 182 = .ok (.iload 6, 2) := by decide +kernel
theorem d_Mdl_pair_184 : decode (mb M_Mdl_pair) 184 = .ok (.imul, 1) := by decide +kernel
theorem d_Mdl_pair_185 : decode (mb M_Mdl_pair) 185 = .ok (.iload 7, 2) := by decide +kernel
theorem d_Mdl_pair_187 : decode (mb M_Mdl_pair) 187 = .ok (.iadd, 1) := by decide +kernel
theorem d_Mdl_pair_188 : decode (mb M_Mdl_pair) 188 = .ok (.iload 10, 2) := by decide +kernel
theorem d_Mdl_pair_190 : decode (mb M_Mdl_pair) 190 = .ok (.ifCond .eq 25, 3) := by decide +kernel
theorem d_Mdl_pair_193 : decode (mb M_Mdl_pair) 193 = .ok (.aload_n 0, 1) := by decide +kernel
theorem d_Mdl_pair_194 : decode (mb M_Mdl_pair) 194 = .ok (.getfield 96, 3) := by decide +kernel
theorem d_Mdl_pair_197 : decode (mb M_Mdl_pair) 197 = .ok (.bipush 21, 2) := by decide +kernel
theorem d_Mdl_pair_199 : decode (mb M_Mdl_pair) 199 = .ok (.iload 6, 2) := by decide +kernel
theorem d_Mdl_pair_201 : decode (mb M_Mdl_pair) 201 = .ok (.iconst 1, 1) := by decide +kernel
theorem d_Mdl_pair_202 : decode (mb M_Mdl_pair) 202 = .ok (.iadd, 1) := by decide +kernel
theorem d_Mdl_pair_203 : decode (mb M_Mdl_pair) 203 = .ok (.imul, 1) := by decide +kernel
theorem d_Mdl_pair_204 : decode (mb M_Mdl_pair) 204 = .ok (.iload 7, 2) := by decide +kernel
theorem d_Mdl_pair_206 : decode (mb M_Mdl_pair) 206 = .ok (.iadd, 1) := by decide +kernel
theorem d_Mdl_pair_207 : decode (mb M_Mdl_pair) 207 = .ok (.iconst 1, 1) := by decide +kernel
theorem d_Mdl_pair_208 : decode (mb M_Mdl_pair) 208 = .ok (.iadd, 1) := by decide +kernel
theorem d_Mdl_pair_209 : decode (mb M_Mdl_pair) 209 = .ok (.iaload, 1) := by decide +kernel
theorem d_Mdl_pair_210 : decode (mb M_Mdl_pair) 210 = .ok (.iconst 1, 1) := by decide +kernel
theorem d_Mdl_pair_211 : decode (mb M_Mdl_pair) 211 = .ok (.iadd, 1) := by decide +kernel
theorem d_Mdl_pair_212 : decode (mb M_Mdl_pair) 212 = .ok (.goto 5, 3) := by decide +kernel
theorem d_Mdl_pair_215 : decode (mb M_Mdl_pair) 215 = .ok (.iload 9, 2) := by decide +kernel
theorem d_Mdl_pair_217 : decode (mb M_Mdl_pair) 217 = .ok (.iastore, 1) := by decide +kernel
theorem d_Mdl_pair_218 : decode (mb M_Mdl_pair) 218 = .ok (.iinc 7 (-1), 3) := by decide +kernel
theorem d_Mdl_pair_221 : decode (mb M_Mdl_pair) 221 = .ok (.goto (-192), 3) := by decide +kernel
theorem d_Mdl_pair_224 : decode (mb M_Mdl_pair) 224 = .ok (.iinc 6 (-1), 3) := by decide +kernel
theorem d_Mdl_pair_227 : decode (mb M_Mdl_pair) 227 = .ok (.goto (-207), 3) := by decide +kernel
theorem d_Mdl_pair_230 : decode (mb M_Mdl_pair) 230 = .ok (.iconst 0, 1) := by decide +kernel
theorem d_Mdl_pair_231 : decode (mb M_Mdl_pair) 231 = .ok (.istore 6, 2) := by decide +kernel
theorem d_Mdl_pair_233 : decode (mb M_Mdl_pair) 233 = .ok (.iconst 0, 1) := by decide +kernel
theorem d_Mdl_pair_234 : decode (mb M_Mdl_pair) 234 = .ok (.istore 7, 2) := by decide +kernel
theorem d_Mdl_pair_236 : decode (mb M_Mdl_pair) 236 = .ok (.iconst 0, 1) := by decide +kernel
theorem d_Mdl_pair_237 : decode (mb M_Mdl_pair) 237 = .ok (.istore 8, 2) := by decide +kernel
theorem d_Mdl_pair_239 : decode (mb M_Mdl_pair) 239 = .ok (.iload 6, 2) := by decide +kernel
theorem d_Mdl_pair_241 : decode (mb M_Mdl_pair) 241 = .ok (.iload 4, 2) := by decide +kernel
theorem d_Mdl_pair_243 : decode (mb M_Mdl_pair) 243 = .ok (.if_icmp .ge 170, 3) := by decide +kernel
theorem d_Mdl_pair_246 : decode (mb M_Mdl_pair) 246 = .ok (.iload 7, 2) := by decide +kernel
theorem d_Mdl_pair_248 : decode (mb M_Mdl_pair) 248 = .ok (.iload 5, 2) := by decide +kernel
theorem d_Mdl_pair_250 : decode (mb M_Mdl_pair) 250 = .ok (.if_icmp .ge 39, 3) := by decide +kernel
theorem d_Mdl_pair_253 : decode (mb M_Mdl_pair) 253 = .ok (.aload_n 0, 1) := by decide +kernel
theorem d_Mdl_pair_254 : decode (mb M_Mdl_pair) 254 = .ok (.aload_n 0, 1) := by decide +kernel
theorem d_Mdl_pair_255 : decode (mb M_Mdl_pair) 255 = .ok (.getfield 23, 3) := by decide +kernel
theorem d_Mdl_pair_258 : decode (mb M_Mdl_pair) 258 = .ok (.bipush 20, 2) := by decide +kernel
theorem d_Mdl_pair_260 : decode (mb M_Mdl_pair) 260 = .ok (.iload_n 1, 1) := by decide +kernel
theorem d_Mdl_pair_261 : decode (mb M_Mdl_pair) 261 = .ok (.imul, 1) := by decide +kernel
theorem d_Mdl_pair_262 : decode (mb M_Mdl_pair) 262 = .ok (.iload 6, 2) := by decide +kernel
theorem d_Mdl_pair_264 : decode (mb M_Mdl_pair) 264 = .ok (.iadd, 1) := by decide +kernel
theorem d_Mdl_pair_265 : decode (mb M_Mdl_pair) 265 = .ok (.iaload, 1) := by decide +kernel
theorem d_Mdl_pair_266 : decode (mb M_Mdl_pair) 266 = .ok (.aload_n 0, 1) := by decide +kernel
theorem d_Mdl_pair_267 : decode (mb M_Mdl_pair) 267 = .ok (.getfield 23, 3) := by decide +kernel
theorem d_Mdl_pair_270 : decode (mb M_Mdl_pair) 270 = .ok (.bipush 20, 2) := by decide +kernel
theorem d_Mdl_pair_272 : decode (mb M_Mdl_pair) 272 = .ok (.iload_n 2, 1) := by decide +kernel
theorem d_Mdl_pair_273 : decode (mb M_Mdl_pair) 273 = .ok (.imul, 1) := by decide +kernel
theorem d_Mdl_pair_274 : decode (mb M_Mdl_pair) 274 = .ok (.iload 7, 2) := by decide +kernel
theorem d_Mdl_pair_276 : decode (mb M_Mdl_pair) 276 = .ok (.iadd, 1) := by decide +kernel
theorem d_Mdl_pair_277 : decode (mb M_Mdl_pair) 277 = .ok (.iaload, 1) := by decide +kernel
theorem d_Mdl_pair_278 : decode (mb M_Mdl_pair) 278 = .ok (.iload_n 3, 1) := by decide +kernel
theorem d_Mdl_pair_279 : decode (mb M_Mdl_pair) 279 = .ok (.invokevirtual 245, 3) := by decide +kernel
theorem d_Mdl_pair_282 : decode (mb M_Mdl_pair) 282 = .ok (.ifCond .eq 7, 3) := by decide +kernel
theorem d_Mdl_pair_285 : decode (mb M_Mdl_pair) 285 = .ok (.iconst 1, 1) := by decide +kernel
theorem d_Mdl_pair_286 : decode (mb M_Mdl_pair) 286 = .ok (.goto 4, 3) := by decide +kernel
theorem d_Mdl_pair_289 : decode (mb M_Mdl_pair) 289 = .ok (.iconst 0, 1) := by decide +kernel
theorem d_Mdl_pair_290 : decode (mb M_Mdl_pair) 290 = .ok (.istore 9, 2) := by decide +kernel
theorem d_Mdl_pair_292 : decode (mb M_Mdl_pair) 292 = .ok (.iload 7, 2) := by decide +kernel
theorem d_Mdl_pair_294 : decode (mb M_Mdl_pair) 294 = .ok (.iload 5, 2) := by decide +kernel
theorem d_Mdl_pair_296 : decode (mb M_Mdl_pair) 296 = .ok (.if_icmp .eq 39, 3) := by decide +kernel
theorem d_Mdl_pair_299 : decode (mb M_Mdl_pair) 299 = .ok (.iload 9, 2) := by decide +kernel
theorem d_Mdl_pair_301 : decode (mb M_Mdl_pair) 301 = .ok (.ifCond .ne 38, 3) := by decide +kernel
theorem d_Mdl_pair_304 : decode (mb M_Mdl_pair) 304 = .ok (.aload_n 0, 1) := by decide +kernel
theorem d_Mdl_pair_305 : decode (mb M_Mdl_pair) 305 = .ok (.getfield 96, 3) := by decide +kernel
theorem d_Mdl_pair_308 : decode (mb M_Mdl_pair) 308 = .ok (.bipush 21, 2) := by decide +kernel
theorem d_Mdl_pair_310 : decode (mb M_Mdl_pair) 310 = .ok (.iload 6, 2) := by decide +kernel
theorem d_Mdl_pair_312 : decode (mb M_Mdl_pair) 312 = .ok (.iconst 1, 1) := by decide +kernel
theorem d_Mdl_pair_313 : decode (mb M_Mdl_pair) 313 = .ok (.iadd, 1) := by decide +kernel
theorem d_Mdl_pair_314 : decode (mb M_Mdl_pair) 314 = .ok (.imul, 1) := by decide +kernel
theorem d_Mdl_pair_315 : decode (mb M_Mdl_pair) 315 = .ok (.iload 7, 2) := by decide +kernel
theorem d_Mdl_pair_317 : decode (mb M_Mdl_pair) 317 = .ok (.iadd, 1) := by decide +kernel
theorem d_Mdl_pair_318 : decode (mb M_Mdl_pair) 318 = .ok (.iaload, 1) := by decide +kernel
theorem d_Mdl_pair_319 : decode (mb M_Mdl_pair) 319 = .ok (.aload_n 0, 1) := by decide +kernel
theorem d_Mdl_pair_320 : decode (mb M_Mdl_pair) 320 = .ok (.getfield 96, 3) := by decide +kernel
theorem d_Mdl_pair_323 : decode (mb M_Mdl_pair) 323 = .ok (.bipush 21, 2) := by decide +kernel
theorem d_Mdl_pair_325 : decode (mb M_Mdl_pair) 325 = .ok (.iload 6, 2) := by decide +kernel
theorem d_Mdl_pair_327 : decode (mb M_Mdl_pair) 327 = .ok (.imul, 1) := by decide +kernel
theorem d_Mdl_pair_328 : decode (mb M_Mdl_pair) 328 = .ok (.iload 7, 2) := by decide +kernel
theorem d_Mdl_pair_330 : decode (mb M_Mdl_pair) 330 = .ok (.iadd, 1) := by decide +kernel
theorem d_Mdl_pair_331 : decode (mb M_Mdl_pair) 331 = .ok (.iaload, 1) := by decide +kernel
theorem d_Mdl_pair_332 : decode (mb M_Mdl_pair) 332 = .ok (.if_icmp .ne 7, 3) := by decide +kernel
theorem d_Mdl_pair_335 : decode (mb M_Mdl_pair) 335 = .ok (.iconst 1, 1) := by decide +kernel
theorem d_Mdl_pair_336 : decode (mb M_Mdl_pair) 336 = .ok (.goto 4, 3) := by decide +kernel
theorem d_Mdl_pair_339 : decode (mb M_Mdl_pair) 339 = .ok (.iconst 0, 1) := by decide +kernel
theorem d_Mdl_pair_340 : decode (mb M_Mdl_pair) 340 = .ok (.istore 10, 2) := by decide +kernel
theorem d_Mdl_pair_342 : decode (mb M_Mdl_pair) 342 = .ok (.aload_n 0, 1) := by decide +kernel
theorem d_Mdl_pair_343 : decode (mb M_Mdl_pair) 343 = .ok (.getfield 99, 3) := by decide +kernel
theorem d_Mdl_pair_346 : decode (mb M_Mdl_pair) 346 = .ok (.iload 6, 2) := by decide +kernel
theorem d_Mdl_pair_348 : decode (mb M_Mdl_pair) 348 = .ok (.iload 9, 2) := by decide +kernel
theorem d_Mdl_pair_350 : decode (mb M_Mdl_pair) 350 = .ok (.ifCond .eq 8, 3) := by decide +kernel
theorem d_Mdl_pair_353 : decode (mb M_Mdl_pair) 353 = .ok (.iload 7, 2) := by decide +kernel
theorem d_Mdl_pair_355 : decode (mb M_Mdl_pair) 355 = .ok (.goto 4, 3) := by decide +kernel
theorem d_Mdl_pair_358 : decode (mb M_Mdl_pair) 358 = .ok (.iconst (-1), 1) := by decide +kernel
theorem d_Mdl_pair_359 : decode (mb M_Mdl_pair) 359 = .ok (.iastore, 1) := by decide +kernel
theorem d_Mdl_pair_360 : decode (mb M_Mdl_pair) 360 = .ok (.iload 8, 2) := by decide +kernel
theorem d_Mdl_pair_362 : decode (mb M_Mdl_pair) 362 = .ok (.iload 9, 2) := by decide +kernel
theorem d_Mdl_pair_364 : decode (mb M_Mdl_pair) 364 = .ok (.ifCond .eq 7, 3) := by decide +kernel
theorem d_Mdl_pair_367 : decode (mb M_Mdl_pair) 367 = .ok (.iconst 1, 1) := by decide +kernel
theorem d_Mdl_pair_368 : decode (mb M_Mdl_pair) 368 = .ok (.goto 4, 3) := by decide +kernel
theorem d_Mdl_pair_371 : decode (mb M_Mdl_pair) 371 = .ok (.iconst 0, 1) := by decide +kernel
theorem d_Mdl_pair_372 : decode (mb M_Mdl_pair) 372 = .ok (.iadd, 1) := by decide +kernel
theorem d_Mdl_pair_373 : decode (mb M_Mdl_pair) 373 = .ok (.istore 8, 2) := by decide +kernel
theorem d_Mdl_pair_375 : decode (mb M_Mdl_pair) 375 = .ok (.iload 6, 2) := by decide +kernel
theorem d_Mdl_pair_377 : decode (mb M_Mdl_pair) 377 = .ok (.iload 9, 2) := by decide +kernel
theorem d_Mdl_pair_379 : decode (mb M_Mdl_pair) 379 = .ok (.ifCond .ne 8, 3) := by decide +kernel
theorem d_Mdl_pair_382 : decode (mb M_Mdl_pair) 382 = .ok (.iload 10, 2) := by decide +kernel
theorem d_Mdl_pair_384 : decode (mb M_Mdl_pair) 384 = .ok (.ifCond .eq 7, 3) := by decide +kernel
theorem d_Mdl_pair_387 : decode (mb M_Mdl_pair) 387 = .ok (.iconst 1, 1) := by decide +kernel
theorem d_Mdl_pair_388 : decode (mb M_Mdl_pair) 388 = .ok (.goto 4, 3) := by decide +kernel
theorem d_Mdl_pair_391 : decode (mb M_Mdl_pair) 391 = .ok (.iconst 0, 1) := by decide +kernel
theorem d_Mdl_pair_392 : decode (mb M_Mdl_pair) 392 = .ok (.iadd, 1) := by decide +kernel
theorem d_Mdl_pair_393 : decode (mb M_Mdl_pair) 393 = .ok (.istore 6, 2) := by decide +kernel
theorem d_Mdl_pair_395 : decode (mb M_Mdl_pair) 395 = .ok (.iload 7, 2) := by decide +kernel
theorem d_Mdl_pair_397 : decode (mb M_Mdl_pair) 397 = .ok (.iload 10, 2) := by decide +kernel
theorem d_Mdl_pair_399 : decode (mb M_Mdl_pair) 399 = .ok (.ifCond .eq 7, 3) := by decide +kernel
theorem d_Mdl_pair_402 : decode (mb M_Mdl_pair) 402 = .ok (.iconst 0, 1) := by decide +kernel
theorem d_Mdl_pair_403 : decode (mb M_Mdl_pair) 403 = .ok (.goto 4, 3) := by decide +kernel
theorem d_Mdl_pair_406 : decode (mb M_Mdl_pair) 406 = .ok (.iconst 1, 1) := by decide +kernel
theorem d_Mdl_pair_407 : decode (mb M_Mdl_pair) 407 = .ok (.iadd, 1) := by decide +kernel
theorem d_Mdl_pair_408 : decode (mb M_Mdl_pair) 408 = .ok (.istore 7, 2) := by decide +kernel
theorem d_Mdl_pair_410 : decode (mb M_Mdl_pair) 410 = .ok (.goto (-171), 3) := by decide +kernel
theorem d_Mdl_pair_413 : decode (mb M_Mdl_pair) 413 = .ok (.iload 8, 2) := by decide +kernel
theorem d_Mdl_pair_415 : decode (mb M_Mdl_pair) 415 = .ok (.ireturn, 1) := by decide +kernel
theorem d_Mdl_pairOf_0 : decode (mb M_Mdl_pairOf) 0 = .ok (.aload_n 0, 1) := by decide +kernel
theorem d_Mdl_pairOf_1 : decode (mb M_Mdl_pairOf) 1 = .ok (.aload_n 0, 1) := by decide +kernel
theorem d_Mdl_pairOf_2 : decode (mb M_Mdl_pairOf) 2 = .ok (.iload_n 1, 1) := by decide +kernel
theorem d_Mdl_pairOf_3 : decode (mb M_Mdl_pairOf) 3 = .ok (.invokevirtual 265, 3) := by decide +kernel
theorem d_Mdl_pairOf_6 : decode (mb M_Mdl_pairOf) 6 = .ok (.ifCond .eq 7, 3) := by decide +kernel
theorem d_Mdl_pairOf_9 : decode (mb M_Mdl_pairOf) 9 = .ok (.iconst 0, 1) := by decide +kernel
theorem d_Mdl_pairOf_10 : decode (mb M_Mdl_pairOf) 10 = .ok (.goto 4, 3) := by decide +kernel
theorem d_Mdl_pairOf_13 : decode (mb M_Mdl_pairOf) 13 = .ok (.iconst 1, 1) := by decide +kernel
theorem d_Mdl_pairOf_14 : decode (mb M_Mdl_pairOf) 14 = .ok (.invokevirtual 151, 3) := by decide +kernel
theorem d_Mdl_pairOf_17 : decode (mb M_Mdl_pairOf) 17 = .ok (.ifCond .eq 7, 3) := by decide +kernel
theorem d_Mdl_pairOf_20 : decode (mb M_Mdl_pairOf) 20 = .ok (.iconst 0, 1) := by decide +kernel
theorem d_Mdl_pairOf_21 : decode (mb M_Mdl_pairOf) 21 = .ok (.goto 9, 3) := by decide +kernel
theorem d_Mdl_pairOf_24 : decode (mb M_Mdl_pairOf) 24 = .ok (.aload_n 0, 1) := by decide +kernel
theorem d_Mdl_pairOf_25 : decode (mb M_Mdl_pairOf) 25 = .ok (.getfield 53, 3) := by decide +kernel
theorem d_Mdl_pairOf_28 : decode (mb M_Mdl_pairOf) 28 = .ok (.iload_n 1, 1) := by decide +kernel
theorem d_Mdl_pairOf_29 : decode (mb M_Mdl_pairOf) 29 = .ok (.iaload, 1) := by decide +kernel
theorem d_Mdl_pairOf_30 : decode (mb M_Mdl_pairOf) 30 = .ok (.ireturn, 1) := by decide +kernel
theorem d_Mdl_patch_0 : decode (mb M_Mdl_patch) 0 = .ok (.aload_n 0, 1) := by decide +kernel
theorem d_Mdl_patch_1 : decode (mb M_Mdl_patch) 1 = .ok (.iload_n 1, 1) := by decide +kernel
theorem d_Mdl_patch_2 : decode (mb M_Mdl_patch) 2 = .ok (.invokevirtual 172, 3) := by decide +kernel
theorem d_Mdl_patch_5 : decode (mb M_Mdl_patch) 5 = .ok (.ifCond .eq 15, 3) := by decide +kernel
theorem d_Mdl_patch_8 : decode (mb M_Mdl_patch) 8 = .ok (.aload_n 0, 1) := by decide +kernel
theorem d_Mdl_patch_9 : decode (mb M_Mdl_patch) 9 = .ok (.iload_n 2, 1) := by decide +kernel
theorem d_Mdl_patch_10 : decode (mb M_Mdl_patch) 10 = .ok (.invokevirtual 172, 3) := by decide +kernel
theorem d_Mdl_patch_13 : decode (mb M_Mdl_patch) 13 = .ok (.ifCond .eq 7, 3) := by decide +kernel
theorem d_Mdl_patch_16 : decode (mb M_Mdl_patch) 16 = .ok (.iconst 1, 1) := by decide +kernel
theorem d_Mdl_patch_17 : decode (mb M_Mdl_patch) 17 = .ok (.goto 4, 3) := by decide +kernel
theorem d_Mdl_patch_20 : decode (mb M_Mdl_patch) 20 = .ok (.iconst 0, 1) := by decide +kernel
theorem d_Mdl_patch_21 : decode (mb M_Mdl_patch) 21 = .ok (.istore 4, 2) := by decide +kernel
theorem d_Mdl_patch_23 : decode (mb M_Mdl_patch) 23 = .ok (.aload_n 0, 1) := by decide +kernel
theorem d_Mdl_patch_24 : decode (mb M_Mdl_patch) 24 = .ok (.iload 4, 2) := by decide +kernel
theorem d_Mdl_patch_26 : decode (mb M_Mdl_patch) 26 = .ok (.ifCond .ne 7, 3) := by decide +kernel
theorem d_Mdl_patch_29 : decode (mb M_Mdl_patch) 29 = .ok (.iconst 1, 1) := by decide +kernel
theorem d_Mdl_patch_30 : decode (mb M_Mdl_patch) 30 = .ok (.goto 30, 3) := by decide +kernel
theorem d_Mdl_patch_33 : decode (mb M_Mdl_patch) 33 = .ok (.iload_n 3, 1) := by decide +kernel
theorem d_Mdl_patch_34 : decode (mb M_Mdl_patch) 34 = .ok (.iconst 0, 1) := by decide +kernel
theorem d_Mdl_patch_35 : decode (mb M_Mdl_patch) 35 = .ok (.iconst 3, 1) := by decide +kernel
theorem d_Mdl_patch_36 : decode (mb M_Mdl_patch) 36 = .ok (.invokestatic 130, 3) := by decide +kernel
theorem d_Mdl_patch_39 : decode (mb M_Mdl_patch) 39 = .ok (.ifCond .ne 7, 3) := by decide +kernel
theorem d_Mdl_patch_42 : decode (mb M_Mdl_patch) 42 = .ok (.iconst 2, 1) := by decide +kernel
theorem d_Mdl_patch_43 : decode (mb M_Mdl_patch) 43 = .ok (.goto 17, 3) := by decide +kernel
theorem d_Mdl_patch_46 : decode (mb M_Mdl_patch) 46 = .ok (.aload_n 0, 1) := by decide +kernel
theorem d_Mdl_patch_47 : decode (mb M_Mdl_patch) 47 = .ok (.getfield 317, 3) := by decide +kernel
theorem d_Mdl_patch_50 : decode (mb M_Mdl_patch) 50 = .ok (.bipush 10, 2) := by decide +kernel
theorem d_Mdl_patch_52 : decode (mb M_Mdl_patch) 52 = .ok (.if_icmp .ne 7, 3) := by decide +kernel
theorem d_Mdl_patch_55 : decode (mb M_Mdl_patch) 55 = .ok (.iconst 3, 1) := by decide +kernel
theorem d_Mdl_patch_56 : decode (mb M_Mdl_patch) 56 = .ok (.goto 4, 3) := by decide +kernel
theorem d_Mdl_patch_59 : decode (mb M_Mdl_patch) 59 = .ok (.iconst 0, 1) := by decide +kernel
theorem d_Mdl_patch_60 : decode (mb M_Mdl_patch) 60 = .ok (.invokevirtual 151, 3) := by decide +kernel
theorem d_Mdl_patch_63 : decode (mb M_Mdl_patch) 63 = .ok (.ifCond .eq 5, 3) := by decide +kernel
theorem d_Mdl_patch_66 : decode (mb M_Mdl_patch) 66 = .ok (.iconst 0, 1) := by decide +kernel
theorem d_Mdl_patch_67 : decode (mb M_Mdl_patch) 67 = .ok (.ireturn, 1) := by decide +kernel
theorem d_Mdl_patch_68 : decode (mb M_Mdl_patch) 68 = .ok (.aload_n 0, 1) := by decide +kernel
theorem d_Mdl_patch_69 : decode (mb M_Mdl_patch) 69 = .ok (.iload_n 1, 1) := by decide +kernel
theorem d_Mdl_patch_70 : decode (mb M_Mdl_patch) 70 = .ok (.iload_n 2, 1) := by decide +kernel
theorem d_Mdl_patch_71 : decode (mb M_Mdl_patch) 71 = .ok (.iconst 0, 1) := by decide +kernel
theorem d_Mdl_patch_72 : decode (mb M_Mdl_patch) 72 = .ok (.invokevirtual 249, 3) := by decide +kernel
theorem d_Mdl_patch_75 : decode (mb M_Mdl_patch) 75 = .ok (.pop, 1) := by decide +kernel
theorem d_Mdl_patch_76 : decode (mb M_Mdl_patch) 76 = .ok (.iconst 0, 1) := by decide +kernel
theorem d_Mdl_patch_77 : decode (mb M_Mdl_patch) 77 = .ok (.istore 5, 2) := by decide +kernel
theorem d_Mdl_patch_79 : decode (mb M_Mdl_patch) 79 = .ok (.iconst 0, 1) := by decide +kernel
theorem d_Mdl_patch_80 : decode (mb M_Mdl_patch) 80 = .ok (.istore 6, 2) := by decide +kernel
theorem d_Mdl_patch_82 : decode (mb M_Mdl_patch) 82 = .ok (.iconst 0, 1) := by decide +kernel
theorem d_Mdl_patch_83 : decode (mb M_Mdl_patch) 83 = .ok (.istore 7, 2) := by decide +kernel
theorem d_Mdl_patch_85 : decode (mb M_Mdl_patch) 85 = .ok (.iconst 0, 1) := by decide +kernel
theorem d_Mdl_patch_86 : decode (mb M_Mdl_patch) 86 = .ok (.istore 8, 2) := by decide +kernel
theorem d_Mdl_patch_88 : decode (mb M_Mdl_patch) 88 = .ok (.iload 8, 2) := by decide +kernel
theorem d_Mdl_patch_90 : decode (mb M_Mdl_patch) 90 = .ok (.aload_n 0, 1) := by decide +kernel
theorem d_Mdl_patch_91 : decode (mb M_Mdl_patch) 91 = .ok (.getfield 20, 3) := by decide +kernel
theorem d_Mdl_patch_94 : decode (mb M_Mdl_patch) 94 = .ok (.iload_n 1, 1) := by decide +kernel
theorem d_Mdl_patch_95 : decode (mb M_Mdl_patch) 95 = .ok (.iaload, 1) := by decide +kernel
theorem d_Mdl_patch_96 : decode (mb M_Mdl_patch) 96 = .ok (.if_icmp .gt 111, 3) := by decide +kernel
theorem d_Mdl_patch_99 : decode (mb M_Mdl_patch) 99 = .ok (.iload 8, 2) := by decide +kernel
theorem d_Mdl_patch_101 : decode (mb M_Mdl_patch) 101 = .ok (.aload_n 0, 1) := by decide +kernel
theorem d_Mdl_patch_102 : decode (mb M_Mdl_patch) 102 = .ok (.getfield 20, 3) := by decide +kernel
theorem d_Mdl_patch_105 : decode (mb M_Mdl_patch) 105 = .ok (.iload_n 1, 1) := by decide +kernel
theorem d_Mdl_patch_106 : decode (mb M_Mdl_patch) 106 = .ok (.iaload, 1) := by decide +kernel
theorem d_Mdl_patch_107 : decode (mb M_Mdl_patch) 107 = .ok (.if_icmp .ne 7, 3) := by decide +kernel
theorem d_Mdl_patch_110 : decode (mb M_Mdl_patch) 110 = .ok (.iconst 1, 1) := by decide +kernel
theorem d_Mdl_patch_111 : decode (mb M_Mdl_patch) 111 = .ok (.goto 4, 3) := by decide +kernel
theorem d_Mdl_patch_114 : decode (mb M_Mdl_patch) 114 = .ok (.iconst 0, 1) := by decide +kernel
theorem d_Mdl_patch_115 : decode (mb M_Mdl_patch) 115 = .ok (.istore 9, 2) := by decide +kernel
theorem d_Mdl_patch_117 : decode (mb M_Mdl_patch) 117 = .ok (.iload 9, 2) := by decide +kernel
theorem d_Mdl_patch_119 : decode (mb M_Mdl_patch) 119 = .ok (.ifCond .ne 14, 3) := by decide +kernel
theorem d_Mdl_patch_122 : decode (mb M_Mdl_patch) 122 = .ok (.aload_n 0, 1) := by decide +kernel
theorem d_Mdl_patch_123 : decode (mb M_Mdl_patch) 123 = .ok (.getfield 99, 3) := by decide +kernel
theorem d_Mdl_patch_126 : decode (mb M_Mdl_patch) 126 = .ok (.iload 8, 2) := by decide +kernel
theorem d_Mdl_patch_128 : decode (mb M_Mdl_patch) 128 = .ok (.iaload, 1) := by decide +kernel
theorem d_Mdl_patch_129 : decode (mb M_Mdl_patch) 129 = .ok (.iconst (-1), 1) := by decide +kernel
theorem d_Mdl_patch_130 : decode (mb M_Mdl_patch) 130 = .ok (.if_icmp .eq 71, 3) := by decide +kernel
theorem d_Mdl_patch_133 : decode (mb M_Mdl_patch) 133 = .ok (.iload 9, 2) := by decide +kernel
theorem d_Mdl_patch_135 : decode (mb M_Mdl_patch) 135 = .ok (.ifCond .eq 12, 3) := by decide +kernel
theorem d_Mdl_patch_138 : decode (mb M_Mdl_patch) 138 = .ok (.aload_n 0, 1) := by decide +kernel
theorem d_Mdl_patch_139 : decode (mb M_Mdl_patch) 139 = .ok (.getfield 20, 3) := by decide +kernel
theorem d_Mdl_patch_142 : decode (mb M_Mdl_patch) 142 = .ok (.iload_n 2, 1) := by decide +kernel
theorem d_Mdl_patch_143 : decode (mb M_Mdl_patch) 143 = .ok (.iaload, 1) := by decide +kernel
theorem d_Mdl_patch_144 : decode (mb M_Mdl_patch) 144 = .ok (.goto 10, 3) := by decide +kernel
theorem d_Mdl_patch_147 : decode (mb M_Mdl_patch) 147 = .ok (.aload_n 0, 1) := by decide +kernel
theorem d_Mdl_patch_148 : decode (mb M_Mdl_patch) 148 = .ok (.getfield 99, 3) := by decide +kernel
theorem d_Mdl_patch_151 : decode (mb M_Mdl_patch) 151 = .ok (.iload 8, 2) := by decide +kernel
theorem d_Mdl_patch_153 : decode (mb M_Mdl_patch) 153 = .ok (.iaload, 1) := by decide +kernel
theorem d_Mdl_patch_154 : decode (mb M_Mdl_patch) 154 = .ok (.istore 10, 2) := by decide +kernel
theorem d_Mdl_patch_156 : decode (mb M_Mdl_patch) 156 = .ok (.iload 8, 2) := by decide +kernel
theorem d_Mdl_patch_158 : decode (mb M_Mdl_patch) 158 = .ok (.iload 6, 2) := by decide +kernel
theorem d_Mdl_patch_160 : decode (mb M_Mdl_patch) 160 = .ok (.if_icmp .gt 10, 3) := by decide +kernel
theorem d_Mdl_patch_163 : decode (mb M_Mdl_patch) 163 = .ok (.iload 10, 2) := by decide +kernel
theorem d_Mdl_patch_165 : decode (mb M_Mdl_patch) 165 = .ok (.iload 7, 2) := by decide +kernel
theorem d_Mdl_patch_167 : decode (mb M_Mdl_patch) 167 = .ok (.if_icmp .le 22, 3) := by decide +kernel
theorem d_Mdl_patch_170 : decode (mb M_Mdl_patch) 170 = .ok (.aload_n 0, 1) := by decide +kernel
theorem d_Mdl_patch_171 : decode (mb M_Mdl_patch) 171 = .ok (.iload 5, 2) := by decide +kernel
theorem d_Mdl_patch_173 : decode (mb M_Mdl_patch) 173 = .ok (.iload_n 1, 1) := by decide +kernel
theorem d_Mdl_patch_174 : decode (mb M_Mdl_patch) 174 = .ok (.iload 6, 2) := by decide +kernel
theorem d_Mdl_patch_176 : decode (mb M_Mdl_patch) 176 = .ok (.iload 8, 2) := by decide +kernel
theorem d_Mdl_patch_178 : decode (mb M_Mdl_patch) 178 = .ok (.iload_n 2, 1) := by decide +kernel
theorem d_Mdl_patch_179 : decode (mb M_Mdl_patch) 179 = .ok (.iload 7, 2) := by decide +kernel
theorem d_Mdl_patch_181 : decode (mb M_Mdl_patch) 181 = .ok (.iload 10, 2) := by decide +kernel
theorem d_Mdl_patch_183 : decode (mb M_Mdl_patch) 183 = .ok (.invokevirtual 320, 3) := by decide +kernel
theorem d_Mdl_patch_186 : decode (mb M_Mdl_patch) 186 = .ok (.iinc 5 1, 3) := by decide +kernel
theorem d_Mdl_patch_189 : decode (mb M_Mdl_patch) 189 = .ok (.iload 8, 2) := by decide +kernel
theorem d_Mdl_patch_191 : decode (mb M_Mdl_patch) 191 = .ok (.iconst 1, 1) := by decide +kernel
theorem d_Mdl_patch_192 : decode (mb M_Mdl_patch) 192 = .ok (.iadd, 1) := by decide +kernel
theorem d_Mdl_patch_193 : decode (mb M_Mdl_patch) 193 = .ok (.istore 6, 2) := by decide +kernel
theorem d_Mdl_patch_195 : decode (mb M_Mdl_patch) 195 = .ok (.iload 10, 2) := by decide +kernel
theorem d_Mdl_patch_197 : decode (mb M_Mdl_patch) 197 = .ok (.iconst 1, 1) := by decide +kernel
theorem d_Mdl_patch_198 : decode (mb M_Mdl_patch) 198 = .ok (.iadd, 1) := by decide +kernel
theorem d_Mdl_patch_199 : decode (mb M_Mdl_patch) 199 = .ok (.istore 7, 2) := by decide +kernel
theorem d_Mdl_patch_201 : decode (mb M_Mdl_patch) 201 = .ok (.iinc 8 1, 3) := by decide +kernel
theorem d_Mdl_patch_204 : decode (mb M_Mdl_patch) 204 = .ok (.goto (-116), 3) := by decide +kernel
theorem d_Mdl_patch_207 : decode (mb M_Mdl_patch) 207 = .ok (.aload_n 0, 1) := by decide +kernel
theorem d_Mdl_patch_208 : decode (mb M_Mdl_patch) 208 = .ok (.getfield 59, 3) := by decide +kernel
theorem d_Mdl_patch_211 : decode (mb M_Mdl_patch) 211 = .ok (.aload_n 0, 1) := by decide +kernel
theorem d_Mdl_patch_212 : decode (mb M_Mdl_patch) 212 = .ok (.getfield 317, 3) := by decide +kernel
theorem d_Mdl_patch_215 : decode (mb M_Mdl_patch) 215 = .ok (.iload 5, 2) := by decide +kernel
theorem d_Mdl_patch_217 : decode (mb M_Mdl_patch) 217 = .ok (.iastore, 1) := by decide +kernel
theorem d_Mdl_patch_218 : decode (mb M_Mdl_patch) 218 = .ok (.iconst 0, 1) := by decide +kernel
theorem d_Mdl_patch_219 : decode (mb M_Mdl_patch) 219 = .ok (.istore 8, 2) := by decide +kernel
theorem d_Mdl_patch_221 : decode (mb M_Mdl_patch) 221 = .ok (.iload 8, 2) := by decide +kernel
theorem d_Mdl_patch_223 : decode (mb M_Mdl_patch) 223 = .ok (.iload 5, 2) := by decide +kernel
theorem d_Mdl_patch_225 : decode (mb M_Mdl_patch) 225 = .ok (.if_icmp .ge 290, 3) := by decide +kernel
theorem d_Mdl_patch_228 : decode (mb M_Mdl_patch) 228 = .ok (.bipush 21, 2) := by decide +kernel
theorem d_Mdl_patch_230 : decode (mb M_Mdl_patch) 230 = .ok (.aload_n 0, 1) := by decide +kernel
theorem d_Mdl_patch_231 : decode (mb M_Mdl_patch) 231 = .ok (.getfield 317, 3) := by decide +kernel
theorem d_Mdl_patch_234 : decode (mb M_Mdl_patch) 234 = .ok (.imul, 1) := by decide +kernel
theorem d_Mdl_patch_235 : decode (mb M_Mdl_patch) 235 = .ok (.iload 8, 2) := by decide +kernel
theorem d_Mdl_patch_237 : decode (mb M_Mdl_patch) 237 = .ok (.iadd, 1) := by decide +kernel
theorem d_Mdl_patch_238 : decode (mb M_Mdl_patch) 238 = .ok (.istore 9, 2) := by decide +kernel
theorem d_Mdl_patch_240 : decode (mb M_Mdl_patch) 240 = .ok (.iload 8, 2) := by decide +kernel
theorem d_Mdl_patch_242 : decode (mb M_Mdl_patch) 242 = .ok (.ifCond .ne 7, 3) := by decide +kernel
theorem d_Mdl_patch_245 : decode (mb M_Mdl_patch) 245 = .ok (.iconst 0, 1) := by decide +kernel
theorem d_Mdl_patch_246 : decode (mb M_Mdl_patch) 246 = .ok (.goto 24, 3) := by decide +kernel
theorem d_Mdl_patch_249 : decode (mb M_Mdl_patch) 249 = .ok (.aload_n 0, 1) := by decide +kernel
theorem d_Mdl_patch_250 : decode (mb M_Mdl_patch) 250 = .ok (.getfield 62, 3) := by decide +kernel
theorem d_Mdl_patch_253 : decode (mb M_Mdl_patch) 253 = .ok (.iload 9, 2) := by decide +kernel
theorem d_Mdl_patch_255 : decode (mb M_Mdl_patch) 255 = .ok (.iconst 1, 1) := by decide +kernel
theorem d_Mdl_patch_256 : decode (mb M_Mdl_patch) 256 = .ok (.isub, 1) := by decide +kernel
theorem d_Mdl_patch_257 : decode (mb M_Mdl_patch) 257 = .ok (.iaload, 1) := by decide +kernel
theorem d_Mdl_patch_258 : decode (mb M_Mdl_patch) 258 = .ok (.aload_n 0, 1) := by decide +kernel
theorem d_Mdl_patch_259 : decode (mb M_Mdl_patch) 259 = .ok (.getfield 68, 3) := by decide +kernel
theorem d_Mdl_patch_262 : decode (mb M_Mdl_patch) 262 = .ok (.iconst 4, 1) := by decide +kernel
theorem d_Mdl_patch_263 : decode (mb M_Mdl_patch) 263 = .ok (.iload 9, 2) := by decide +kernel
theorem d_Mdl_patch_265 : decode (mb M_Mdl_patch) 265 = .ok (.iconst 1, 1) := by decide +kernel
theorem d_Mdl_patch_266 : decode (mb M_Mdl_patch) 266 = .ok (.isub, 1) := by decide +kernel
theorem d_Mdl_patch_267 : decode (mb M_Mdl_patch) 267 = .ok (.imul, 1) := by decide +kernel
theorem d_Mdl_patch_268 : decode (mb M_Mdl_patch) 268 = .ok (.iaload, 1) := by decide +kernel
theorem d_Mdl_patch_269 : decode (mb M_Mdl_patch) 269 = .ok (.iadd, 1) := by decide +kernel
theorem d_Mdl_patch_270 : decode (mb M_Mdl_patch) 270 = .ok (.istore 10, 2) := by decide +kernel
theorem d_Mdl_patch_272 : decode (mb M_Mdl_patch) 272 = .ok (.aload_n 0, 1) := by decide +kernel
theorem d_Mdl_patch_273 : decode (mb M_Mdl_patch) 273 = .ok (.getfield 62, 3) := by decide +kernel
theorem d_Mdl_patch_276 : decode (mb M_Mdl_patch) 276 = .ok (.iload 9, 2) := by decide +kernel
theorem d_Mdl_patch_278 : decode (mb M_Mdl_patch) 278 = .ok (.iaload, 1) := by decide +kernel
theorem d_Mdl_patch_279 : decode (mb M_Mdl_patch) 279 = .ok (.aload_n 0, 1) := by decide +kernel
theorem d_Mdl_patch_280 : decode (mb M_Mdl_patch) 280 = .ok (.getfield 68, 3) := by decide +kernel
theorem d_Mdl_patch_283 : decode (mb M_Mdl_patch) 283 = .ok (.iconst 4, 1) := by decide +kernel
theorem d_Mdl_patch_284 : decode (mb M_Mdl_patch) 284 = .ok (.iload 9, 2) := by decide +kernel
theorem d_Mdl_patch_286 : decode (mb M_Mdl_patch) 286 = .ok (.imul, 1) := by decide +kernel
theorem d_Mdl_patch_287 : decode (mb M_Mdl_patch) 287 = .ok (.iaload, 1) := by decide +kernel
theorem d_Mdl_patch_288 : decode (mb M_Mdl_patch) 288 = .ok (.iadd, 1) := by decide +kernel
theorem d_Mdl_patch_289 : decode (mb M_Mdl_patch) 289 = .ok (.istore 11, 2) := by decide +kernel
theorem d_Mdl_patch_291 : decode (mb M_Mdl_patch) 291 = .ok (.iload 8, 2) := by decide +kernel
theorem d_Mdl_patch_293 : decode (mb M_Mdl_patch) 293 = .ok (.iload 5, 2) := by decide +kernel
theorem d_Mdl_patch_295 : decode (mb M_Mdl_patch) 295 = .ok (.iconst 1, 1) := by decide +kernel
theorem d_Mdl_patch_296 : decode (mb M_Mdl_patch) 296 = .ok (.isub, 1) := by decide +kernel
theorem d_Mdl_patch_297 : decode (mb M_Mdl_patch) 297 = .ok (.if_icmp .ne 12, 3) := by decide +kernel
theorem d_Mdl_patch_300 : decode (mb M_Mdl_patch) 300 = .ok (.aload_n 0, 1) := by decide +kernel
theorem d_Mdl_patch_301 : decode (mb M_Mdl_patch) 301 = .ok (.getfield 20, 3) := by decide +kernel
theorem d_Mdl_patch_304 : decode (mb M_Mdl_patch) 304 = .ok (.iload_n 1, 1) := by decide +kernel
theorem d_Mdl_patch_305 : decode (mb M_Mdl_patch) 305 = .ok (.iaload, 1) := by decide +kernel
theorem d_Mdl_patch_306 : decode (mb M_Mdl_patch) 306 = .ok (.goto 12, 3) := by decide +kernel
theorem d_Mdl_patch_309 : decode (mb M_Mdl_patch) 309 = .ok (.aload_n 0, 1) := by decide +kernel
theorem d_Mdl_patch_310 : decode (mb M_Mdl_patch) 310 = .ok (.getfield 62, 3) := by decide +kernel
theorem d_Mdl_patch_313 : decode (mb M_Mdl_patch) 313 = .ok (.iload 9, 2) := by decide +kernel
theorem d_Mdl_patch_315 : decode (mb M_Mdl_patch) 315 = .ok (.iconst 1, 1) := by decide +kernel
theorem d_Mdl_patch_316 : decode (mb M_Mdl_patch) 316 = .ok (.iadd, 1) := by decide +kernel
theorem d_Mdl_patch_317 : decode (mb M_Mdl_patch) 317 = .ok (.iaload, 1) := by decide +kernel
theorem d_Mdl_patch_318 : decode (mb M_Mdl_patch) 318 = .ok (.istore 12, 2) := by decide +kernel
theorem d_Mdl_patch_320 : decode (mb M_Mdl_patch) 320 = .ok (.aload_n 0, 1) := by decide +kernel
theorem d_Mdl_patch_321 : decode (mb M_Mdl_patch) 321 = .ok (.getfield 62, 3) := by decide +kernel
theorem d_Mdl_patch_324 : decode (mb M_Mdl_patch) 324 = .ok (.iload 9, 2) := by decide +kernel
theorem d_Mdl_patch_326 : decode (mb M_Mdl_patch) 326 = .ok (.iaload, 1) := by decide +kernel
theorem d_Mdl_patch_327 : decode (mb M_Mdl_patch) 327 = .ok (.iload 10, 2) := by decide +kernel
theorem d_Mdl_patch_329 : decode (mb M_Mdl_patch) 329 = .ok (.isub, 1) := by decide +kernel
theorem d_Mdl_patch_330 : decode (mb M_Mdl_patch) 330 = .ok (.iload_n 3, 1) := by decide +kernel
theorem d_Mdl_patch_331 : decode (mb M_Mdl_patch) 331 = .ok (.if_icmp .ge 16, 3) := by decide +kernel
theorem d_Mdl_patch_334 : decode (mb M_Mdl_patch) 334 = .ok (.aload_n 0, 1) := by decide +kernel
theorem d_Mdl_patch_335 : decode (mb M_Mdl_patch) 335 = .ok (.getfield 62, 3) := by decide +kernel
theorem d_Mdl_patch_338 : decode (mb M_Mdl_patch) 338 = .ok (.iload 9, 2) := by decide +kernel
theorem d_Mdl_patch_340 : decode (mb M_Mdl_patch) 340 = .ok (.iaload, 1) := by decide +kernel
theorem d_Mdl_patch_341 : decode (mb M_Mdl_patch) 341 = .ok (.iload 10, 2) := by decide +kernel
theorem d_Mdl_patch_343 : decode (mb M_Mdl_patch) 343 = .ok (.isub, 1) := by decide +kernel
theorem d_Mdl_patch_344 : decode (mb M_Mdl_patch) 344 = .ok (.goto 4, 3) := by decide +kernel
theorem d_Mdl_patch_347 : decode (mb M_Mdl_patch) 347 = .ok (.iload_n 3, 1) := by decide +kernel
theorem d_Mdl_patch_348 : decode (mb M_Mdl_patch) 348 = .ok (.istore 13, 2) := by decide +kernel
theorem d_Mdl_patch_350 : decode (mb M_Mdl_patch) 350 = .ok (.iload 12, 2) := by decide +kernel
theorem d_Mdl_patch_352 : decode (mb M_Mdl_patch) 352 = .ok (.iload 11, 2) := by decide +kernel
theorem d_Mdl_patch_354 : decode (mb M_Mdl_patch) 354 = .ok (.isub, 1) := by decide +kernel
theorem d_Mdl_patch_355 : decode (mb M_Mdl_patch) 355 = .ok (.iload_n 3, 1) := by decide +kernel
theorem d_Mdl_patch_356 : decode (mb M_Mdl_patch) 356 = .ok (.if_icmp .ge 11, 3) := by decide +kernel
theorem d_Mdl_patch_359 : decode (mb M_Mdl_patch) 359 = .ok (.iload 12, 2) := by decide +kernel
theorem d_Mdl_patch_361 : decode (mb M_Mdl_patch) 361 = .ok (.iload 11, 2) := by decide +kernel
theorem d_Mdl_patch_363 : decode (mb M_Mdl_patch) 363 = .ok (.isub, 1) := by decide +kernel
theorem d_Mdl_patch_364 : decode (mb M_Mdl_patch) 364 = .ok (.goto 4, 3) := by decide +kernel
theorem d_Mdl_patch_367 : decode (mb M_Mdl_patch) 367 = .ok (.iload_n 3, 1) := by decide +kernel
theorem d_Mdl_patch_368 : decode (mb M_Mdl_patch) 368 = .ok (.istore 14, 2) := by decide +kernel
theorem d_Mdl_patch_370 : decode (mb M_Mdl_patch) 370 = .ok (.aload_n 0, 1) := by decide +kernel
theorem d_Mdl_patch_371 : decode (mb M_Mdl_patch) 371 = .ok (.getfield 68, 3) := by decide +kernel
theorem d_Mdl_patch_374 : decode (mb M_Mdl_patch) 374 = .ok (.iconst 4, 1) := by decide +kernel
theorem d_Mdl_patch_375 : decode (mb M_Mdl_patch) 375 = .ok (.iload 9, 2) := by decide +kernel
theorem d_Mdl_patch_377 : decode (mb M_Mdl_patch) 377 = .ok (.imul, 1) := by decide +kernel
theorem d_Mdl_patch_378 : decode (mb M_Mdl_patch) 378 = .ok (.iconst 2, 1) := by decide +kernel
theorem d_Mdl_patch_379 : decode (mb M_Mdl_patch) 379 = .ok (.iadd, 1) := by decide +kernel
theorem d_Mdl_patch_380 : decode (mb M_Mdl_patch) 380 = .ok (.iload 13, 2) := by decide +kernel
theorem d_Mdl_patch_382 : decode (mb M_Mdl_patch) 382 = .ok (.iastore, 1) := by decide +kernel
theorem d_Mdl_patch_383 : decode (mb M_Mdl_patch) 383 = .ok (.aload_n 0, 1) := by decide +kernel
theorem d_Mdl_patch_384 : decode (mb M_Mdl_patch) 384 = .ok (.getfield 68, 3) := by decide +kernel
theorem d_Mdl_patch_387 : decode (mb M_Mdl_patch) 387 = .ok (.iconst 4, 1) := by decide +kernel
theorem d_Mdl_patch_388 : decode (mb M_Mdl_patch) 388 = .ok (.iload 9, 2) := by decide +kernel
theorem d_Mdl_patch_390 : decode (mb M_Mdl_patch) 390 = .ok (.imul, 1) := by decide +kernel
theorem d_Mdl_patch_391 : decode (mb M_Mdl_patch) 391 = .ok (.iconst 3, 1) := by decide +kernel
theorem d_Mdl_patch_392 : decode (mb M_Mdl_patch) 392 = .ok (.iadd, 1) := by decide +kernel
theorem d_Mdl_patch_393 : decode (mb M_Mdl_patch) 393 = .ok (.iload 14, 2) := by decide +kernel
theorem d_Mdl_patch_395 : decode (mb M_Mdl_patch) 395 = .ok (.iastore, 1) := by decide +kernel
theorem d_Mdl_patch_396 : decode (mb M_Mdl_patch) 396 = .ok (.iconst 0, 1) := by decide +kernel
theorem d_Mdl_patch_397 : decode (mb M_Mdl_patch) 397 = .ok (.istore 15, 2) := by decide +kernel
theorem d_Mdl_patch_399 : decode (mb M_Mdl_patch) 399 = .ok (.iload 15, 2) := by decide +kernel
theorem d_Mdl_patch_401 : decode (mb M_Mdl_patch) 401 = .ok (.iconst 3, 1) := by decide +kernel
theorem d_Mdl_patch_402 : decode (mb M_Mdl_patch) 402 = .ok (.if_icmp .ge 107, 3) := by decide +kernel
theorem d_Mdl_patch_405 : decode (mb M_Mdl_patch) 405 = .ok (.aload_n 0, 1) := by decide +kernel
theorem d_Mdl_patch_406 : decode (mb M_Mdl_patch) 406 = .ok (.getfield 74, 3) := by decide +kernel
theorem d_Mdl_patch_409 : decode (mb M_Mdl_patch) 409 = .ok (.bipush 6, 2) := by decide +kernel
theorem d_Mdl_patch_411 : decode (mb M_Mdl_patch) 411 = .ok (.iload 9, 2) := by decide +kernel
theorem d_Mdl_patch_413 : decode (mb M_Mdl_patch) 413 = .ok (.imul, 1) := by decide +kernel
theorem d_Mdl_patch_414 : decode (mb M_Mdl_patch) 414 = .ok (.iload 15, 2) := by decide +kernel
theorem d_Mdl_patch_416 : decode (mb M_Mdl_patch) 416 = .ok (.iadd, 1) := by decide +kernel
theorem d_Mdl_patch_417 : decode (mb M_Mdl_patch) 417 = .ok (.iload 15, 2) := by decide +kernel
theorem d_Mdl_patch_419 : decode (mb M_Mdl_patch) 419 = .ok (.iload 13, 2) := by decide +kernel
theorem d_Mdl_patch_421 : decode (mb M_Mdl_patch) 421 = .ok (.if_icmp .ge 34, 3) := by decide +kernel
theorem d_Mdl_patch_424 : decode (mb M_Mdl_patch) 424 = .ok (.aload_n 0, 1) := by decide +kernel
theorem d_Mdl_patch_425 : decode (mb M_Mdl_patch) 425 = .ok (.getfield 7, 3) := by decide +kernel
theorem d_Mdl_patch_428 : decode (mb M_Mdl_patch) 428 = .ok (.aload_n 0, 1) := by decide +kernel
theorem d_Mdl_patch_429 : decode (mb M_Mdl_patch) 429 = .ok (.getfield 23, 3) := by decide +kernel
theorem d_Mdl_patch_432 : decode (mb M_Mdl_patch) 432 = .ok (.bipush 20, 2) := by decide +kernel
theorem d_Mdl_patch_434 : decode (mb M_Mdl_patch) 434 = .ok (.iload_n 1, 1) := by decide +kernel
theorem d_Mdl_patch_435 : decode (mb M_Mdl_patch) 435 = .ok (.imul, 1) := by decide +kernel
theorem d_Mdl_patch_436 : decode (mb M_Mdl_patch) 436 = .ok (.aload_n 0, 1) := by decide +kernel
theorem d_Mdl_patch_437 : decode (mb M_Mdl_patch) 437 = .ok (.getfield 62, 3) := by decide +kernel
theorem d_Mdl_patch_440 : decode (mb M_Mdl_patch) 440 = .ok (.iload 9, 2) := by decide +kernel
theorem d_Mdl_patch_442 : decode (mb M_Mdl_patch) 442 = .ok (.iaload, 1) := by decide +kernel
theorem d_Mdl_patch_443 : decode (mb M_Mdl_patch) 443 = .ok (.iadd, 1) := by decide +kernel
theorem d_Mdl_patch_444 : decode (mb M_Mdl_patch) 444 = .ok (.iload 13, 2) := by decide +kernel
theorem d_Mdl_patch_446 : decode (mb M_Mdl_patch) 446 = .ok (.isub, 1) := by decide +kernel
theorem d_Mdl_patch_447 : decode (mb M_Mdl_patch) 447 = .ok (.iload 15, 2) := by decide +kernel
theorem d_Mdl_patch_449 : decode (mb M_Mdl_patch) 449 = .ok (.iadd, 1) := by decide +kernel
theorem d_Mdl_patch_450 : decode (mb M_Mdl_patch) 450 = .ok (.iaload, 1) := by decide +kernel
theorem d_Mdl_patch_451 : decode (mb M_Mdl_patch) 451 = .ok (.laload, 1) := by decide +kernel
theorem d_Mdl_patch_452 : decode (mb M_Mdl_patch) 452 = .ok (.goto 4, 3) := by decide +kernel
theorem d_Mdl_patch_455 : decode (mb M_Mdl_patch) 455 = .ok (.lconst 0, 1) := by decide +kernel
theorem d_Mdl_patch_456 : decode (mb M_Mdl_patch) 456 = .ok (.lastore, 1) := by decide +kernel
theorem d_Mdl_patch_457 : decode (mb M_Mdl_patch) 457 = .ok (.aload_n 0, 1) := by decide +kernel
theorem d_Mdl_patch_458 : decode (mb M_Mdl_patch) 458 = .ok (.getfield 74, 3) := by decide +kernel
theorem d_Mdl_patch_461 : decode (mb M_Mdl_patch) 461 = .ok (.bipush 6, 2) := by decide +kernel
theorem d_Mdl_patch_463 : decode (mb M_Mdl_patch) 463 = .ok (.iload 9, 2) := by decide +kernel
theorem d_Mdl_patch_465 : decode (mb M_Mdl_patch) 465 = .ok (.imul, 1) := by decide +kernel
theorem d_Mdl_patch_466 : decode (mb M_Mdl_patch) 466 = .ok (.iconst 3, 1) := by decide +kernel
theorem d_Mdl_patch_467 : decode (mb M_Mdl_patch) 467 = .ok (.iadd, 1) := by decide +kernel
theorem d_Mdl_patch_468 : decode (mb M_Mdl_patch) 468 = .ok (.iload 15, 2) := by decide +kernel
theorem d_Mdl_patch_470 : decode (mb M_Mdl_patch) 470 = .ok (.iadd, 1) := by decide +kernel
theorem d_Mdl_patch_471 : decode (mb M_Mdl_patch) 471 = .ok (.iload 15, 2) := by decide +kernel
theorem d_Mdl_patch_473 : decode (mb M_Mdl_patch) 473 = .ok (.iload 14, 2) := by decide +kernel
theorem d_Mdl_patch_475 : decode (mb M_Mdl_patch) 475 = .ok (.if_icmp .ge 26, 3) := by decide +kernel
theorem d_Mdl_patch_478 : decode (mb M_Mdl_patch) 478 = .ok (.aload_n 0, 1) := by decide +kernel
theorem d_Mdl_patch_479 : decode (mb M_Mdl_patch) 479 = .ok (.getfield 7, 3) := by decide +kernel
theorem d_Mdl_patch_482 : decode (mb M_Mdl_patch) 482 = .ok (.aload_n 0, 1) := by decide +kernel
theorem d_Mdl_patch_483 : decode (mb M_Mdl_patch) 483 = .ok (.getfield 23, 3) := by decide +kernel
theorem d_Mdl_patch_486 : decode (mb M_Mdl_patch) 486 = .ok (.bipush 20, 2) := by decide +kernel
theorem d_Mdl_patch_488 : decode (mb M_Mdl_patch) 488 = .ok (.iload_n 1, 1) := by decide +kernel
theorem d_Mdl_patch_489 : decode (mb M_Mdl_patch) 489 = .ok (.imul, 1) := by decide +kernel
theorem d_Mdl_patch_490 : decode (mb M_Mdl_patch) 490 = .ok (.iload 11, 2) := by decide +kernel
theorem d_Mdl_patch_492 : decode (mb M_Mdl_patch) 492 = .ok (.iadd, 1) := by decide +kernel
theorem d_Mdl_patch_493 : decode (mb M_Mdl_patch) 493 = .ok (.iload 15, 2) := by decide +kernel
theorem d_Mdl_patch_495 : decode (mb M_Mdl_patch) 495 = .ok (.iadd, 1) := by decide +kernel
theorem d_Mdl_patch_496 : decode (mb M_Mdl_patch) 496 = .ok (.iaload, 1) := by decide +kernel
theorem d_Mdl_patch_497 : decode (mb M_Mdl_patch) 497 = .ok (.laload, 1) := by decide +kernel
theorem d_Mdl_patch_498 : decode (mb M_Mdl_patch) 498 = .ok (.goto 4, 3) := by decide +kernel
theorem d_Mdl_patch_501 : decode (mb M_Mdl_patch) 501 = .ok (.lconst 0, 1) := by decide +kernel
theorem d_Mdl_patch_502 : decode (mb M_Mdl_patch) 502 = .ok (.lastore, 1) := by decide +kernel
theorem d_Mdl_patch_503 : decode (mb M_Mdl_patch) 503 = .ok (.iinc 15 1, 3) := by decide +kernel
theorem d_Mdl_patch_506 : decode (mb M_Mdl_patch) 506 = .ok (.goto (-107), 3) := by decide +kernel
theorem d_Mdl_patch_509 : decode (mb M_Mdl_patch) 509 = .ok (.iinc 8 1, 3) := by decide +kernel
theorem d_Mdl_patch_512 : decode (mb M_Mdl_patch) 512 = .ok (.goto (-291), 3) := by decide +kernel
theorem d_Mdl_patch_515 : decode (mb M_Mdl_patch) 515 = .ok (.aload_n 0, 1) := by decide +kernel
theorem d_Mdl_patch_516 : decode (mb M_Mdl_patch) 516 = .ok (.dup, 1) := by decide +kernel
theorem d_Mdl_patch_517 : decode (mb M_Mdl_patch) 517 = .ok (.getfield 317, 3) := by decide +kernel
theorem d_Mdl_patch_520 : decode (mb M_Mdl_patch) 520 = .ok (.iconst 1, 1) := by decide +kernel
theorem d_Mdl_patch_521 : decode (mb M_Mdl_patch) 521 = .ok (.iadd, 1) := by decide +kernel
theorem d_Mdl_patch_522 : decode (mb M_Mdl_patch) 522 = .ok (.putfield 317, 3) := by decide +kernel
theorem d_Mdl_patch_525 : decode (mb M_Mdl_patch) 525 = .ok (.aload_n 0, 1) := by decide +kernel
theorem d_Mdl_patch_526 : decode (mb M_Mdl_patch) 526 = .ok (.getfield 317, 3) := by decide +kernel
theorem d_Mdl_patch_529 : decode (mb M_Mdl_patch) 529 = .ok (.iconst 1, 1) := by decide +kernel
theorem d_Mdl_patch_530 : decode (mb M_Mdl_patch) 530 = .ok (.isub, 1) := by decide +kernel
theorem d_Mdl_patch_531 : decode (mb M_Mdl_patch) 531 = .ok (.ireturn, 1) := by decide +kernel
theorem d_Mdl_pieceOf_0 : decode (mb M_Mdl_pieceOf) 0 = .ok (.aload_n 0, 1) := by decide +kernel
theorem d_Mdl_pieceOf_1 : decode (mb M_Mdl_pieceOf) 1 = .ok (.aload_n 0, 1) := by decide +kernel
theorem d_Mdl_pieceOf_2 : decode (mb M_Mdl_pieceOf) 2 = .ok (.iload_n 1, 1) := by decide +kernel
theorem d_Mdl_pieceOf_3 : decode (mb M_Mdl_pieceOf) 3 = .ok (.invokevirtual 309, 3) := by decide +kernel
theorem d_Mdl_pieceOf_6 : decode (mb M_Mdl_pieceOf) 6 = .ok (.ifCond .ne 7, 3) := by decide +kernel
theorem d_Mdl_pieceOf_9 : decode (mb M_Mdl_pieceOf) 9 = .ok (.iconst 1, 1) := by decide +kernel
theorem d_Mdl_pieceOf_10 : decode (mb M_Mdl_pieceOf) 10 = .ok (.goto 17, 3) := by decide +kernel
theorem d_Mdl_pieceOf_13 : decode (mb M_Mdl_pieceOf) 13 = .ok (.iload_n 2, 1) := by decide +kernel
theorem d_Mdl_pieceOf_14 : decode (mb M_Mdl_pieceOf) 14 = .ok (.iconst 0, 1) := by decide +kernel
theorem d_Mdl_pieceOf_15 : decode (mb M_Mdl_pieceOf) 15 = .ok (.iconst 2, 1) := by decide +kernel
theorem d_Mdl_pieceOf_16 : decode (mb M_Mdl_pieceOf) 16 = .ok (.invokestatic 130, 3) := by decide +kernel
theorem d_Mdl_pieceOf_19 : decode (mb M_Mdl_pieceOf) 19 = .ok (.ifCond .eq 7, 3) := by decide +kernel
theorem d_Mdl_pieceOf_22 : decode (mb M_Mdl_pieceOf) 22 = .ok (.iconst 0, 1) := by decide +kernel
theorem d_Mdl_pieceOf_23 : decode (mb M_Mdl_pieceOf) 23 = .ok (.goto 4, 3) := by decide +kernel
theorem d_Mdl_pieceOf_26 : decode (mb M_Mdl_pieceOf) 26 = .ok (.iconst 2, 1) := by decide +kernel
theorem d_Mdl_pieceOf_27 : decode (mb M_Mdl_pieceOf) 27 = .ok (.invokevirtual 151, 3) := by decide +kernel
theorem d_Mdl_pieceOf_30 : decode (mb M_Mdl_pieceOf) 30 = .ok (.ifCond .eq 7, 3) := by decide +kernel
theorem d_Mdl_pieceOf_33 : decode (mb M_Mdl_pieceOf) 33 = .ok (.iconst 0, 1) := by decide +kernel
theorem d_Mdl_pieceOf_34 : decode (mb M_Mdl_pieceOf) 34 = .ok (.goto 13, 3) := by decide +kernel
theorem d_Mdl_pieceOf_37 : decode (mb M_Mdl_pieceOf) 37 = .ok (.aload_n 0, 1) := by decide +kernel
theorem d_Mdl_pieceOf_38 : decode (mb M_Mdl_pieceOf) 38 = .ok (.getfield 38, 3) := by decide +kernel
theorem d_Mdl_pieceOf_41 : decode (mb M_Mdl_pieceOf) 41 = .ok (.iconst 3, 1) := by decide +kernel
theorem d_Mdl_pieceOf_42 : decode (mb M_Mdl_pieceOf) 42 = .ok (.iload_n 1, 1) := by decide +kernel
theorem d_Mdl_pieceOf_43 : decode (mb M_Mdl_pieceOf) 43 = .ok (.imul, 1) := by decide +kernel
theorem d_Mdl_pieceOf_44 : decode (mb M_Mdl_pieceOf) 44 = .ok (.iload_n 2, 1) := by decide +kernel
theorem d_Mdl_pieceOf_45 : decode (mb M_Mdl_pieceOf) 45 = .ok (.iadd, 1) := by decide +kernel
theorem d_Mdl_pieceOf_46 : decode (mb M_Mdl_pieceOf) 46 = .ok (.iaload, 1) := by decide +kernel
theorem d_Mdl_pieceOf_47 : decode (mb M_Mdl_pieceOf) 47 = .ok (.ireturn, 1) := by decide +kernel
theorem d_Mdl_plant_0 : decode (mb M_Mdl_plant) 0 = .ok (.aload_n 0, 1) := by decide +kernel
theorem d_Mdl_plant_1 : decode (mb M_Mdl_plant) 1 = .ok (.getfield 20, 3) := by decide +kernel
theorem d_Mdl_plant_4 : decode (mb M_Mdl_plant) 4 = .ok (.iload_n 2, 1) := by decide +kernel
theorem d_Mdl_plant_5 : decode (mb M_Mdl_plant) 5 = .ok (.iaload, 1) := by decide +kernel
theorem d_Mdl_plant_6 : decode (mb M_Mdl_plant) 6 = .ok (.istore_n 3, 1) := by decide +kernel
theorem d_Mdl_plant_7 : decode (mb M_Mdl_plant) 7 = .ok (.iconst 0, 1) := by decide +kernel
theorem d_Mdl_plant_8 : decode (mb M_Mdl_plant) 8 = .ok (.istore 4, 2) := by decide +kernel
theorem d_Mdl_plant_10 : decode (mb M_Mdl_plant) 10 = .ok (.iload 4, 2) := by decide +kernel
theorem d_Mdl_plant_12 : decode (mb M_Mdl_plant) 12 = .ok (.iload_n 3, 1) := by decide +kernel
theorem d_Mdl_plant_13 : decode (mb M_Mdl_plant) 13 = .ok (.if_icmp .ge 89, 3) := by decide +kernel
theorem d_Mdl_plant_16 : decode (mb M_Mdl_plant) 16 = .ok (.iconst (-1), 1) := by decide +kernel
theorem d_Mdl_plant_17 : decode (mb M_Mdl_plant) 17 = .ok (.istore 5, 2) := by decide +kernel
theorem d_Mdl_plant_19 : decode (mb M_Mdl_plant) 19 = .ok (.iconst 0, 1) := by decide +kernel
theorem d_Mdl_plant_20 : decode (mb M_Mdl_plant) 20 = .ok (.istore 6, 2) := by decide +kernel
theorem d_Mdl_plant_22 : decode (mb M_Mdl_plant) 22 = .ok (.iload 6, 2) := by decide +kernel
theorem d_Mdl_plant_24 : decode (mb M_Mdl_plant) 24 = .ok (.iload 4, 2) := by decide +kernel
theorem d_Mdl_plant_26 : decode (mb M_Mdl_plant) 26 = .ok (.if_icmp .ge 61, 3) := by decide +kernel
theorem d_Mdl_plant_29 : decode (mb M_Mdl_plant) 29 = .ok (.aload_n 0, 1) := by decide +kernel
theorem d_Mdl_plant_30 : decode (mb M_Mdl_plant) 30 = .ok (.getfield 7, 3) := by decide +kernel
theorem d_Mdl_plant_33 : decode (mb M_Mdl_plant) 33 = .ok (.aload_n 0, 1) := by decide +kernel
theorem d_Mdl_plant_34 : decode (mb M_Mdl_plant) 34 = .ok (.getfield 23, 3) := by decide +kernel
theorem d_Mdl_plant_37 : decode (mb M_Mdl_plant) 37 = .ok (.bipush 20, 2) := by decide +kernel
theorem d_Mdl_plant_39 : decode (mb M_Mdl_plant) 39 = .ok (.iload_n 2, 1) := by decide +kernel
theorem d_Mdl_plant_40 : decode (mb M_Mdl_plant) 40 = .ok (.imul, 1) := by decide +kernel
theorem d_Mdl_plant_41 : decode (mb M_Mdl_plant) 41 = .ok (.iload 6, 2) := by decide +kernel
theorem d_Mdl_plant_43 : decode (mb M_Mdl_plant) 43 = .ok (.iadd, 1) := by decide +kernel
theorem d_Mdl_plant_44 : decode (mb M_Mdl_plant) 44 = .ok (.iaload, 1) := by decide +kernel
theorem d_Mdl_plant_45 : decode (mb M_Mdl_plant) 45 = .ok (.laload, 1) := by decide +kernel
theorem d_Mdl_plant_46 : decode (mb M_Mdl_plant) 46 = .ok (.invokestatic 268, 3) := by decide +kernel
theorem d_Mdl_plant_49 : decode (mb M_Mdl_plant) 49 = .ok (.aload_n 0, 1) := by decide +kernel
theorem d_Mdl_plant_50 : decode (mb M_Mdl_plant) 50 = .ok (.getfield 7, 3) := by decide +kernel
theorem d_Mdl_plant_53 : decode (mb M_Mdl_plant) 53 = .ok (.aload_n 0, 1) := by decide +kernel
theorem d_Mdl_plant_54 : decode (mb M_Mdl_plant) 54 = .ok (.getfield 23, 3) := by decide +kernel
theorem d_Mdl_plant_57 : decode (mb M_Mdl_plant) 57 = .ok (.bipush 20, 2) := by decide +kernel
theorem d_Mdl_plant_59 : decode (mb M_Mdl_plant) 59 = .ok (.iload_n 2, 1) := by decide +kernel
theorem d_Mdl_plant_60 : decode (mb M_Mdl_plant) 60 = .ok (.imul, 1) := by decide +kernel
theorem d_Mdl_plant_61 : decode (mb M_Mdl_plant) 61 = .ok (.iload 4, 2) := by decide +kernel
theorem d_Mdl_plant_63 : decode (mb M_Mdl_plant) 63 = .ok (.iadd, 1) := by decide +kernel
theorem d_Mdl_plant_64 : decode (mb M_Mdl_plant) 64 = .ok (.iaload, 1) := by decide +kernel
theorem d_Mdl_plant_65 : decode (mb M_Mdl_plant) 65 = .ok (.laload, 1) := by decide +kernel
theorem d_Mdl_plant_66 : decode (mb M_Mdl_plant) 66 = .ok (.invokestatic 268, 3) := by decide +kernel
theorem d_Mdl_plant_69 : decode (mb M_Mdl_plant) 69 = .ok (.if_icmp .ge 8, 3) := by decide +kernel
theorem d_Mdl_plant_72 : decode (mb M_Mdl_plant) 72 = .ok (.iload 6, 2) := by decide +kernel
theorem d_Mdl_plant_74 : decode (mb M_Mdl_plant) 74 = .ok (.goto 5, 3) := by decide +kernel
theorem d_Mdl_plant_77 : decode (mb M_Mdl_plant) 77 = .ok (.iload 5, 2) := by decide +kernel
theorem d_Mdl_plant_79 : decode (mb M_Mdl_plant) 79 = .ok (.istore 5, 2) := by decide +kernel
theorem d_Mdl_plant_81 : decode (mb M_Mdl_plant) 81 = .ok (.iinc 6 1, 3) := by decide +kernel
theorem d_Mdl_plant_84 : decode (mb M_Mdl_plant) 84 = .ok (.goto (-62), 3) := by decide +kernel
theorem d_Mdl_plant_87 : decode (mb M_Mdl_plant) 87 = .ok (.aload_n 0, 1) := by decide +kernel
theorem d_Mdl_plant_88 : decode (mb M_Mdl_plant) 88 = .ok (.getfield 111, 3) := by decide +kernel
theorem d_Mdl_plant_91 : decode (mb M_Mdl_plant) 91 = .ok (.iload 4, 2) := by decide +kernel
theorem d_Mdl_plant_93 : decode (mb M_Mdl_plant) 93 = .ok (.iload 5, 2) := by decide +kernel
theorem d_Mdl_plant_95 : decode (mb M_Mdl_plant) 95 = .ok (.iastore, 1) := by decide +kernel
theorem d_Mdl_plant_96 : decode (mb M_Mdl_plant) 96 = .ok (.iinc 4 1, 3) := by decide +kernel
theorem d_Mdl_plant_99 : decode (mb M_Mdl_plant) 99 = .ok (.goto (-89), 3) := by decide +kernel
theorem d_Mdl_plant_102 : decode (mb M_Mdl_plant) 102 = .ok (.iconst 0, 1) := by decide +kernel
theorem d_Mdl_plant_103 : decode (mb M_Mdl_plant) 103 = .ok (.istore 4, 2) := by decide +kernel
theorem d_Mdl_plant_105 : decode (mb M_Mdl_plant) 105 = .ok (.iload 4, 2) := by decide +kernel
theorem d_Mdl_plant_107 : decode (mb M_Mdl_plant) 107 = .ok (.iload_n 3, 1) := by decide +kernel
theorem d_Mdl_plant_108 : decode (mb M_Mdl_plant) 108 = .ok (.if_icmp .ge 130, 3) := by decide +kernel
theorem d_Mdl_plant_111 : decode (mb M_Mdl_plant) 111 = .ok (.iconst 0, 1) := by decide +kernel
theorem d_Mdl_plant_112 : decode (mb M_Mdl_plant) 112 = .ok (.istore 5, 2) := by decide +kernel
theorem d_Mdl_plant_114 : decode (mb M_Mdl_plant) 114 = .ok (.iload 4, 2) := by decide +kernel
theorem d_Mdl_plant_116 : decode (mb M_Mdl_plant) 116 = .ok (.iconst 1, 1) := by decide +kernel
theorem d_Mdl_plant_117 : decode (mb M_Mdl_plant) 117 = .ok (.iadd, 1) := by decide +kernel
theorem d_Mdl_plant_118 : decode (mb M_Mdl_plant) 118 = .ok (.istore 6, 2) := by decide +kernel
theorem d_Mdl_plant_120 : decode (mb M_Mdl_plant) 120 = .ok (.iload 6, 2) := by decide +kernel
theorem d_Mdl_plant_122 : decode (mb M_Mdl_plant) 122 = .ok (.iload_n 3, 1) := by decide +kernel
theorem d_Mdl_plant_123 : decode (mb M_Mdl_plant) 123 = .ok (.if_icmp .ge 23, 3) := by decide +kernel
theorem d_Mdl_plant_126 : decode (mb M_Mdl_plant) 126 = .ok (.aload_n 0, 1) := by decide +kernel
theorem d_Mdl_plant_127 : decode (mb M_Mdl_plant) 127 = .ok (.iload 6, 2) := by decide +kernel
theorem d_Mdl_plant_129 : decode (mb M_Mdl_plant) 129 = .ok (.iload 4, 2) := by decide +kernel
theorem d_Mdl_plant_131 : decode (mb M_Mdl_plant) 131 = .ok (.invokevirtual 271, 3) := by decide +kernel
theorem d_Mdl_plant_134 : decode (mb M_Mdl_plant) 134 = .ok (.ifCond .eq 12, 3) := by decide +kernel
theorem d_Mdl_plant_137 : decode (mb M_Mdl_plant) 137 = .ok (.iinc 5 1, 3) := by decide +kernel
theorem d_Mdl_plant_140 : decode (mb M_Mdl_plant) 140 = .ok (.iinc 6 1, 3) := by decide +kernel
theorem d_Mdl_plant_143 : decode (mb M_Mdl_plant) 143 = .ok (.goto (-23), 3) := by decide +kernel
theorem d_Mdl_plant_146 : decode (mb M_Mdl_plant) 146 = .ok (.iconst 0, 1) := by decide +kernel
theorem d_Mdl_plant_147 : decode (mb M_Mdl_plant) 147 = .ok (.istore 6, 2) := by decide +kernel
theorem d_Mdl_plant_149 : decode (mb M_Mdl_plant) 149 = .ok (.aload_n 0, 1) := by decide +kernel
theorem d_Mdl_plant_150 : decode (mb M_Mdl_plant) 150 = .ok (.getfield 111, 3) := by decide +kernel
theorem d_Mdl_plant_153 : decode (mb M_Mdl_plant) 153 = .ok (.iload 4, 2) := by decide +kernel
theorem d_Mdl_plant_155 : decode (mb M_Mdl_plant) 155 = .ok (.iaload, 1) := by decide +kernel
theorem d_Mdl_plant_156 : decode (mb M_Mdl_plant) 156 = .ok (.istore 7, 2) := by decide +kernel
theorem d_Mdl_plant_158 : decode (mb M_Mdl_plant) 158 = .ok (.iload 7, 2) := by decide +kernel
theorem d_Mdl_plant_160 : decode (mb M_Mdl_plant) 160 = .ok (.iconst (-1), 1) := by decide +kernel
theorem d_Mdl_plant_161 : decode (mb M_Mdl_plant) 161 = .ok (.if_icmp .eq 18, 3) := by decide +kernel
theorem d_Mdl_plant_164 : decode (mb M_Mdl_plant) 164 = .ok (.iinc 6 1, 3) := by decide +kernel
theorem d_Mdl_plant_167 : decode (mb M_Mdl_plant) 167 = .ok (.aload_n 0, 1) := by decide +kernel
theorem d_Mdl_plant_168 : decode (mb M_Mdl_plant) 168 = .ok (.getfield 111, 3) := by decide +kernel
theorem d_Mdl_plant_171 : decode (mb M_Mdl_plant) 171 = .ok (.iload 7, 2) := by decide +kernel
theorem d_Mdl_plant_173 : decode (mb M_Mdl_plant) 173 = .ok (.iaload, 1) := by decide +kernel
theorem d_Mdl_plant_174 : decode (mb M_Mdl_plant) 174 = .ok (.istore 7, 2) := by decide +kernel
theorem d_Mdl_plant_176 : decode (mb M_Mdl_plant) 176 = .ok (.goto (-18), 3) := by decide +kernel
theorem d_Mdl_plant_179 : decode (mb M_Mdl_plant) 179 = .ok (.iload 4, 2) := by decide +kernel
theorem d_Mdl_plant_181 : decode (mb M_Mdl_plant) 181 = .ok (.iload 6, 2) := by decide +kernel
theorem d_Mdl_plant_183 : decode (mb M_Mdl_plant) 183 = .ok (.isub, 1) := by decide +kernel
theorem d_Mdl_plant_184 : decode (mb M_Mdl_plant) 184 = .ok (.iload 5, 2) := by decide +kernel
theorem d_Mdl_plant_186 : decode (mb M_Mdl_plant) 186 = .ok (.iadd, 1) := by decide +kernel
theorem d_Mdl_plant_187 : decode (mb M_Mdl_plant) 187 = .ok (.iconst 1, 1) := by decide +kernel
theorem d_Mdl_plant_188 : decode (mb M_Mdl_plant) 188 = .ok (.iadd, 1) := by decide +kernel
theorem d_Mdl_plant_189 : decode (mb M_Mdl_plant) 189 = .ok (.istore 7, 2) := by decide +kernel
theorem d_Mdl_plant_191 : decode (mb M_Mdl_plant) 191 = .ok (.aload_n 0, 1) := by decide +kernel
theorem d_Mdl_plant_192 : decode (mb M_Mdl_plant) 192 = .ok (.getfield 105, 3) := by decide +kernel
theorem d_Mdl_plant_195 : decode (mb M_Mdl_plant) 195 = .ok (.bipush 22, 2) := by decide +kernel
theorem d_Mdl_plant_197 : decode (mb M_Mdl_plant) 197 = .ok (.iload_n 1, 1) := by decide +kernel
theorem d_Mdl_plant_198 : decode (mb M_Mdl_plant) 198 = .ok (.imul, 1) := by decide +kernel
theorem d_Mdl_plant_199 : decode (mb M_Mdl_plant) 199 = .ok (.iload 7, 2) := by decide +kernel
theorem d_Mdl_plant_201 : decode (mb M_Mdl_plant) 201 = .ok (.iadd, 1) := by decide +kernel
theorem d_Mdl_plant_202 : decode (mb M_Mdl_plant) 202 = .ok (.aload_n 0, 1) := by decide +kernel
theorem d_Mdl_plant_203 : decode (mb M_Mdl_plant) 203 = .ok (.getfield 23, 3) := by decide +kernel
theorem d_Mdl_plant_206 : decode (mb M_Mdl_plant) 206 = .ok (.bipush 20, 2) := by decide +kernel
theorem d_Mdl_plant_208 : decode (mb M_Mdl_plant) 208 = .ok (.iload_n 2, 1) := by decide +kernel
theorem d_Mdl_plant_209 : decode (mb M_Mdl_plant) 209 = .ok (.imul, 1) := by decide +kernel
theorem d_Mdl_plant_210 : decode (mb M_Mdl_plant) 210 = .ok (.iload 4, 2) := by decide +kernel
theorem d_Mdl_plant_212 : decode (mb M_Mdl_plant) 212 = .ok (.iadd, 1) := by decide +kernel
theorem d_Mdl_plant_213 : decode (mb M_Mdl_plant) 213 = .ok (.iaload, 1) := by decide +kernel
theorem d_Mdl_plant_214 : decode (mb M_Mdl_plant) 214 = .ok (.iastore, 1) := by decide +kernel
theorem d_Mdl_plant_215 : decode (mb M_Mdl_plant) 215 = .ok (.aload_n 0, 1) := by decide +kernel
theorem d_Mdl_plant_216 : decode (mb M_Mdl_plant) 216 = .ok (.getfield 108, 3) := by decide +kernel
theorem d_Mdl_plant_219 : decode (mb M_Mdl_plant) 219 = .ok (.bipush 22, 2) := by decide +kernel
theorem d_Mdl_plant_221 : decode (mb M_Mdl_plant) 221 = .ok (.iload_n 1, 1) := by decide +kernel
theorem d_Mdl_plant_222 : decode (mb M_Mdl_plant) 222 = .ok (.imul, 1) := by decide +kernel
theorem d_Mdl_plant_223 : decode (mb M_Mdl_plant) 223 = .ok (.iload 7, 2) := by decide +kernel
theorem d_Mdl_plant_225 : decode (mb M_Mdl_plant) 225 = .ok (.iadd, 1) := by decide +kernel
theorem d_Mdl_plant_226 : decode (mb M_Mdl_plant) 226 = .ok (.iload 7, 2) := by decide +kernel
theorem d_Mdl_plant_228 : decode (mb M_Mdl_plant) 228 = .ok (.iload 5, 2) := by decide +kernel
theorem d_Mdl_plant_230 : decode (mb M_Mdl_plant) 230 = .ok (.isub, 1) := by decide +kernel
theorem d_Mdl_plant_231 : decode (mb M_Mdl_plant) 231 = .ok (.iastore, 1) := by decide +kernel
theorem d_Mdl_plant_232 : decode (mb M_Mdl_plant) 232 = .ok (.iinc 4 1, 3) := by decide +kernel
theorem d_Mdl_plant_235 : decode (mb M_Mdl_plant) 235 = .ok (.goto (-130), 3) := by decide +kernel
theorem d_Mdl_plant_238 : decode (mb M_Mdl_plant) 238 = .ok (.aload_n 0, 1) := by decide +kernel
theorem d_Mdl_plant_239 : decode (mb M_Mdl_plant) 239 = .ok (.getfield 105, 3) := by decide +kernel
theorem d_Mdl_plant_242 : decode (mb M_Mdl_plant) 242 = .ok (.bipush 22, 2) := by decide +kernel
theorem d_Mdl_plant_244 : decode (mb M_Mdl_plant) 244 = .ok (.iload_n 1, 1) := by decide +kernel
theorem d_Mdl_plant_245 : decode (mb M_Mdl_plant) 245 = .ok (.imul, 1) := by decide +kernel
theorem d_Mdl_plant_246 : decode (mb M_Mdl_plant) 246 = .ok (.iload_n 3, 1) := by decide +kernel
theorem d_Mdl_plant_247 : decode (mb M_Mdl_plant) 247 = .ok (.iadd, 1) := by decide +kernel
theorem d_Mdl_plant_248 : decode (mb M_Mdl_plant) 248 = .ok (.iconst 1, 1) := by decide +kernel
theorem d_Mdl_plant_249 : decode (mb M_Mdl_plant) 249 = .ok (.iadd, 1) := by decide +kernel
theorem d_Mdl_plant_250 : decode (mb M_Mdl_plant) 250 = .ok (.iconst (-1), 1) := by decide +kernel
theorem d_Mdl_plant_251 : decode (mb M_Mdl_plant) 251 = .ok (.iastore, 1) := by decide +kernel
theorem d_Mdl_plant_252 : decode (mb M_Mdl_plant) 252 = .ok (.aload_n 0, 1) := by decide +kernel
theorem d_Mdl_plant_253 : decode (mb M_Mdl_plant) 253 = .ok (.getfield 108, 3) := by decide +kernel
theorem d_Mdl_plant_256 : decode (mb M_Mdl_plant) 256 = .ok (.bipush 22, 2) := by decide +kernel
theorem d_Mdl_plant_258 : decode (mb M_Mdl_plant) 258 = .ok (.iload_n 1, 1) := by decide +kernel
theorem d_Mdl_plant_259 : decode (mb M_Mdl_plant) 259 = .ok (.imul, 1) := by decide +kernel
theorem d_Mdl_plant_260 : decode (mb M_Mdl_plant) 260 = .ok (.iload_n 3, 1) := by decide +kernel
theorem d_Mdl_plant_261 : decode (mb M_Mdl_plant) 261 = .ok (.iadd, 1) := by decide +kernel
theorem d_Mdl_plant_262 : decode (mb M_Mdl_plant) 262 = .ok (.iconst 1, 1) := by decide +kernel
theorem d_Mdl_plant_263 : decode (mb M_Mdl_plant) 263 = .ok (.iadd, 1) := by decide +kernel
theorem d_Mdl_plant_264 : decode (mb M_Mdl_plant) 264 = .ok (.iconst 1, 1) := by decide +kernel
theorem d_Mdl_plant_265 : decode (mb M_Mdl_plant) 265 = .ok (.iastore, 1) := by decide +kernel
theorem d_Mdl_plant_266 : decode (mb M_Mdl_plant) 266 = .ok (.return_, 1) := by decide +kernel
theorem d_Mdl_putAt_0 : decode (mb M_Mdl_putAt) 0 = .ok (.aload_n 0, 1) := by decide +kernel
theorem d_Mdl_putAt_1 : decode (mb M_Mdl_putAt) 1 = .ok (.getfield 194, 3) := by decide +kernel
theorem d_Mdl_putAt_4 : decode (mb M_Mdl_putAt) 4 = .ok (.istore_n 3, 1) := by decide +kernel
theorem d_Mdl_putAt_5 : decode (mb M_Mdl_putAt) 5 = .ok (.iload_n 3, 1) := by decide +kernel
theorem d_Mdl_putAt_6 : decode (mb M_Mdl_putAt) 6 = .ok (.iload_n 1, 1) := by decide +kernel
theorem d_Mdl_putAt_7 : decode (mb M_Mdl_putAt) 7 = .ok (.if_icmp .le 23, 3) := by decide +kernel
theorem d_Mdl_putAt_10 : decode (mb M_Mdl_putAt) 10 = .ok (.aload_n 0, 1) := by decide +kernel
theorem d_Mdl_putAt_11 : decode (mb M_Mdl_putAt) 11 = .ok (.getfield 35, 3) := by decide +kernel
theorem d_Mdl_putAt_14 : decode (mb M_Mdl_putAt) 14 = .ok (.iload_n 3, 1) := by decide +kernel
theorem d_Mdl_putAt_15 : decode (mb M_Mdl_putAt) 15 = .ok (.aload_n 0, 1) := by decide +kernel
theorem d_Mdl_putAt_16 : decode (mb M_Mdl_putAt) 16 = .ok (.getfield 35, 3) := by decide +kernel
theorem d_Mdl_putAt_19 : decode (mb M_Mdl_putAt) 19 = .ok (.iload_n 3, 1) := by decide +kernel
theorem d_Mdl_putAt_20 : decode (mb M_Mdl_putAt) 20 = .ok (.iconst 1, 1) := by decide +kernel
theorem d_Mdl_putAt_21 : decode (mb M_Mdl_putAt) 21 = .ok (.isub, 1) := by decide +kernel
theorem d_Mdl_putAt_22 : decode (mb M_Mdl_putAt) 22 = .ok (.iaload, 1) := by decide +kernel
theorem d_Mdl_putAt_23 : decode (mb M_Mdl_putAt) 23 = .ok (.iastore, 1) := by decide +kernel
theorem d_Mdl_putAt_24 : decode (mb M_Mdl_putAt) 24 = .ok (.iinc 3 (-1), 3) := by decide +kernel
theorem d_Mdl_putAt_27 : decode (mb M_Mdl_putAt) 27 = .ok (.goto (-22), 3) := by decide +kernel
theorem d_Mdl_putAt_30 : decode (mb M_Mdl_putAt) 30 = .ok (.aload_n 0, 1) := by decide +kernel
theorem d_Mdl_putAt_31 : decode (mb M_Mdl_putAt) 31 = .ok (.getfield 35, 3) := by decide +kernel
theorem d_Mdl_putAt_34 : decode (mb M_Mdl_putAt) 34 = .ok (.iload_n 1, 1) := by decide +kernel
theorem d_Mdl_putAt_35 : decode (mb M_Mdl_putAt) 35 = .ok (.iload_n 2, 1) := by decide +kernel
theorem d_Mdl_putAt_36 : decode (mb M_Mdl_putAt) 36 = .ok (.iastore, 1) := by decide +kernel
theorem d_Mdl_putAt_37 : decode (mb M_Mdl_putAt) 37 = .ok (.aload_n 0, 1) := by decide +kernel
theorem d_Mdl_putAt_38 : decode (mb M_Mdl_putAt) 38 = .ok (.dup, 1) := by decide +kernel
theorem d_Mdl_putAt_39 : decode (mb M_Mdl_putAt) 39 = .ok (.getfield 194, 3) := by decide +kernel
theorem d_Mdl_putAt_42 : decode (mb M_Mdl_putAt) 42 = .ok (.iconst 1, 1) := by decide +kernel
theorem d_Mdl_putAt_43 : decode (mb M_Mdl_putAt) 43 = .ok (.iadd, 1) := by decide +kernel
theorem d_Mdl_putAt_44 : decode (mb M_Mdl_putAt) 44 = .ok (.putfield 194, 3) := by decide +kernel
theorem d_Mdl_putAt_47 : decode (mb M_Mdl_putAt) 47 = .ok (.return_, 1) := by decide +kernel
theorem d_Mdl_putIn_0 : decode (mb M_Mdl_putIn) 0 = .ok (.aload_n 0, 1) := by decide +kernel
theorem d_Mdl_putIn_1 : decode (mb M_Mdl_putIn) 1 = .ok (.getfield 162, 3) := by decide +kernel
theorem d_Mdl_putIn_4 : decode (mb M_Mdl_putIn) 4 = .ok (.istore_n 3, 1) := by decide +kernel
theorem d_Mdl_putIn_5 : decode (mb M_Mdl_putIn) 5 = .ok (.aload_n 0, 1) := by decide +kernel
theorem d_Mdl_putIn_6 : decode (mb M_Mdl_putIn) 6 = .ok (.getfield 20, 3) := by decide +kernel
theorem d_Mdl_putIn_9 : decode (mb M_Mdl_putIn) 9 = .ok (.aload_n 0, 1) := by decide +kernel
theorem d_Mdl_putIn_10 : decode (mb M_Mdl_putIn) 10 = .ok (.getfield 165, 3) := by decide +kernel
theorem d_Mdl_putIn_13 : decode (mb M_Mdl_putIn) 13 = .ok (.iaload, 1) := by decide +kernel
theorem d_Mdl_putIn_14 : decode (mb M_Mdl_putIn) 14 = .ok (.iconst 1, 1) := by decide +kernel
theorem d_Mdl_putIn_15 : decode (mb M_Mdl_putIn) 15 = .ok (.isub, 1) := by decide +kernel
theorem d_Mdl_putIn_16 : decode (mb M_Mdl_putIn) 16 = .ok (.istore 4, 2) := by decide +kernel
theorem d_Mdl_putIn_18 : decode (mb M_Mdl_putIn) 18 = .ok (.iload 4, 2) := by decide +kernel
theorem d_Mdl_putIn_20 : decode (mb M_Mdl_putIn) 20 = .ok (.ifCond .lt 67, 3) := by decide +kernel
theorem d_Mdl_putIn_23 : decode (mb M_Mdl_putIn) 23 = .ok (.lload_n 1, 1) := by decide +kernel
theorem d_Mdl_putIn_24 : decode (mb M_Mdl_putIn) 24 = .ok (.invokestatic 144, 3) := by decide +kernel
theorem d_Mdl_putIn_27 : decode (mb M_Mdl_putIn) 27 = .ok (.iconst 4, 1) := by decide +kernel
theorem d_Mdl_putIn_28 : decode (mb M_Mdl_putIn) 28 = .ok (.if_icmp .lt 59, 3) := by decide +kernel
theorem d_Mdl_putIn_31 : decode (mb M_Mdl_putIn) 31 = .ok (.aload_n 0, 1) := by decide +kernel
theorem d_Mdl_putIn_32 : decode (mb M_Mdl_putIn) 32 = .ok (.getfield 7, 3) := by decide +kernel
theorem d_Mdl_putIn_35 : decode (mb M_Mdl_putIn) 35 = .ok (.aload_n 0, 1) := by decide +kernel
theorem d_Mdl_putIn_36 : decode (mb M_Mdl_putIn) 36 = .ok (.getfield 23, 3) := by decide +kernel
theorem d_Mdl_putIn_39 : decode (mb M_Mdl_putIn) 39 = .ok (.bipush 20, 2) := by decide +kernel
theorem d_Mdl_putIn_41 : decode (mb M_Mdl_putIn) 41 = .ok (.aload_n 0, 1) := by decide +kernel
theorem d_Mdl_putIn_42 : decode (mb M_Mdl_putIn) 42 = .ok (.getfield 165, 3) := by decide +kernel
theorem d_Mdl_putIn_45 : decode (mb M_Mdl_putIn) 45 = .ok (.imul, 1) := by decide +kernel
theorem d_Mdl_putIn_46 : decode (mb M_Mdl_putIn) 46 = .ok (.iload 4, 2) := by decide +kernel
theorem d_Mdl_putIn_48 : decode (mb M_Mdl_putIn) 48 = .ok (.iadd, 1) := by decide +kernel
theorem d_Mdl_putIn_49 : decode (mb M_Mdl_putIn) 49 = .ok (.iaload, 1) := by decide +kernel
theorem d_Mdl_putIn_50 : decode (mb M_Mdl_putIn) 50 = .ok (.laload, 1) := by decide +kernel
theorem d_Mdl_putIn_51 : decode (mb M_Mdl_putIn) 51 = .ok (.lload_n 1, 1) := by decide +kernel
theorem d_Mdl_putIn_52 : decode (mb M_Mdl_putIn) 52 = .ok (.lcmp, 1) := by decide +kernel
theorem d_Mdl_putIn_53 : decode (mb M_Mdl_putIn) 53 = .ok (.ifCond .ne 26, 3) := by decide +kernel
theorem d_Mdl_putIn_56 : decode (mb M_Mdl_putIn) 56 = .ok (.aload_n 0, 1) := by decide +kernel
theorem d_Mdl_putIn_57 : decode (mb M_Mdl_putIn) 57 = .ok (.getfield 13, 3) := by decide +kernel
theorem d_Mdl_putIn_60 : decode (mb M_Mdl_putIn) 60 = .ok (.aload_n 0, 1) := by decide +kernel
theorem d_Mdl_putIn_61 : decode (mb M_Mdl_putIn) 61 = .ok (.getfield 23, 3) := by decide +kernel
theorem d_Mdl_putIn_64 : decode (mb M_Mdl_putIn) 64 = .ok (.bipush 20, 2) := by decide +kernel
theorem d_Mdl_putIn_66 : decode (mb M_Mdl_putIn) 66 = .ok (.aload_n 0, 1) := by decide +kernel
theorem d_Mdl_putIn_67 : decode (mb M_Mdl_putIn) 67 = .ok (.getfield 165, 3) := by decide +kernel
theorem d_Mdl_putIn_70 : decode (mb M_Mdl_putIn) 70 = .ok (.imul, 1) := by decide +kernel
theorem d_Mdl_putIn_71 : decode (mb M_Mdl_putIn) 71 = .ok (.iload 4, 2) := by decide +kernel
theorem d_Mdl_putIn_73 : decode (mb M_Mdl_putIn) 73 = .ok (.iadd, 1) := by decide +kernel
theorem d_Mdl_putIn_74 : decode (mb M_Mdl_putIn) 74 = .ok (.iaload, 1) := by decide +kernel
theorem d_Mdl_putIn_75 : decode (mb M_Mdl_putIn) 75 = .ok (.iaload, 1) := by decide +kernel
theorem d_Mdl_putIn_76 : decode (mb M_Mdl_putIn) 76 = .ok (.goto 4, 3) := by decide +kernel
theorem d_Mdl_putIn_79 : decode (mb M_Mdl_putIn) 79 = .ok (.iload_n 3, 1) := by decide +kernel
theorem d_Mdl_putIn_80 : decode (mb M_Mdl_putIn) 80 = .ok (.istore_n 3, 1) := by decide +kernel
theorem d_Mdl_putIn_81 : decode (mb M_Mdl_putIn) 81 = .ok (.iinc 4 (-1), 3) := by decide +kernel
theorem d_Mdl_putIn_84 : decode (mb M_Mdl_putIn) 84 = .ok (.goto (-66), 3) := by decide +kernel
theorem d_Mdl_putIn_87 : decode (mb M_Mdl_putIn) 87 = .ok (.aload_n 0, 1) := by decide +kernel
theorem d_Mdl_putIn_88 : decode (mb M_Mdl_putIn) 88 = .ok (.lload_n 1, 1) := by decide +kernel
theorem d_Mdl_putIn_89 : decode (mb M_Mdl_putIn) 89 = .ok (.iload_n 3, 1) := by decide +kernel
theorem d_Mdl_putIn_90 : decode (mb M_Mdl_putIn) 90 = .ok (.iconst (-1), 1) := by decide +kernel
theorem d_Mdl_putIn_91 : decode (mb M_Mdl_putIn) 91 = .ok (.invokevirtual 168, 3) := by decide +kernel
theorem d_Mdl_putIn_94 : decode (mb M_Mdl_putIn) 94 = .ok (.ireturn, 1) := by decide +kernel
theorem d_Mdl_putPiece_0 : decode (mb M_Mdl_putPiece) 0 = .ok (.iconst 0, 1) := by decide +kernel
theorem d_Mdl_putPiece_1 : decode (mb M_Mdl_putPiece) 1 = .ok (.istore_n 3, 1) := by decide +kernel
theorem d_Mdl_putPiece_2 : decode (mb M_Mdl_putPiece) 2 = .ok (.iload_n 3, 1) := by decide +kernel
theorem d_Mdl_putPiece_3 : decode (mb M_Mdl_putPiece) 3 = .ok (.aload_n 0, 1) := by decide +kernel
theorem d_Mdl_putPiece_4 : decode (mb M_Mdl_putPiece) 4 = .ok (.getfield 38, 3) := by decide +kernel
theorem d_Mdl_putPiece_7 : decode (mb M_Mdl_putPiece) 7 = .ok (.iload_n 2, 1) := by decide +kernel
theorem d_Mdl_putPiece_8 : decode (mb M_Mdl_putPiece) 8 = .ok (.iaload, 1) := by decide +kernel
theorem d_Mdl_putPiece_9 : decode (mb M_Mdl_putPiece) 9 = .ok (.if_icmp .ge 27, 3) := by decide +kernel
theorem d_Mdl_putPiece_12 : decode (mb M_Mdl_putPiece) 12 = .ok (.aload_n 0, 1) := by decide +kernel
theorem d_Mdl_putPiece_13 : decode (mb M_Mdl_putPiece) 13 = .ok (.iload_n 1, 1) := by decide +kernel
theorem d_Mdl_putPiece_14 : decode (mb M_Mdl_putPiece) 14 = .ok (.iload_n 3, 1) := by decide +kernel
theorem d_Mdl_putPiece_15 : decode (mb M_Mdl_putPiece) 15 = .ok (.iadd, 1) := by decide +kernel
theorem d_Mdl_putPiece_16 : decode (mb M_Mdl_putPiece) 16 = .ok (.aload_n 0, 1) := by decide +kernel
theorem d_Mdl_putPiece_17 : decode (mb M_Mdl_putPiece) 17 = .ok (.getfield 41, 3) := by decide +kernel
theorem d_Mdl_putPiece_20 : decode (mb M_Mdl_putPiece) 20 = .ok (.bipush 20, 2) := by decide +kernel
theorem d_Mdl_putPiece_22 : decode (mb M_Mdl_putPiece) 22 = .ok (.iload_n 2, 1) := by decide +kernel
theorem d_Mdl_putPiece_23 : decode (mb M_Mdl_putPiece) 23 = .ok (.imul, 1) := by decide +kernel
theorem d_Mdl_putPiece_24 : decode (mb M_Mdl_putPiece) 24 = .ok (.iload_n 3, 1) := by decide +kernel
theorem d_Mdl_putPiece_25 : decode (mb M_Mdl_putPiece) 25 = .ok (.iadd, 1) := by decide +kernel
theorem d_Mdl_putPiece_26 : decode (mb M_Mdl_putPiece) 26 = .ok (.iaload, 1) := by decide +kernel
theorem d_Mdl_putPiece_27 : decode (mb M_Mdl_putPiece) 27 = .ok (.invokevirtual 211, 3) := by decide +kernel
theorem d_Mdl_putPiece_30 : decode (mb M_Mdl_putPiece) 30 = .ok (.iinc 3 1, 3) := by decide +kernel
theorem d_Mdl_putPiece_33 : decode (mb M_Mdl_putPiece) 33 = .ok (.goto (-31), 3) := by decide +kernel
theorem d_Mdl_putPiece_36 : decode (mb M_Mdl_putPiece) 36 = .ok (.iload_n 1, 1) := by decide +kernel
theorem d_Mdl_putPiece_37 : decode (mb M_Mdl_putPiece) 37 = .ok (.aload_n 0, 1) := by decide +kernel
theorem d_Mdl_putPiece_38 : decode (mb M_Mdl_putPiece) 38 = .ok (.getfield 38, 3) := by decide +kernel
theorem d_Mdl_putPiece_41 : decode (mb M_Mdl_putPiece) 41 = .ok (.iload_n 2, 1) := by decide +kernel
theorem d_Mdl_putPiece_42 : decode (mb M_Mdl_putPiece) 42 = .ok (.iaload, 1) := by decide +kernel
theorem d_Mdl_putPiece_43 : decode (mb M_Mdl_putPiece) 43 = .ok (.iadd, 1) := by decide +kernel
theorem d_Mdl_putPiece_44 : decode (mb M_Mdl_putPiece) 44 = .ok (.ireturn, 1) := by decide +kernel
theorem d_Mdl_refused_0 : decode (mb M_Mdl_refused) 0 = .ok (.aload_n 0, 1) := by decide +kernel
theorem d_Mdl_refused_1 : decode (mb M_Mdl_refused) 1 = .ok (.iload_n 1, 1) := by decide +kernel
theorem d_Mdl_refused_2 : decode (mb M_Mdl_refused) 2 = .ok (.putfield 127, 3) := by decide +kernel
theorem d_Mdl_refused_5 : decode (mb M_Mdl_refused) 5 = .ok (.iload_n 1, 1) := by decide +kernel
theorem d_Mdl_refused_6 : decode (mb M_Mdl_refused) 6 = .ok (.ifCond .eq 7, 3) := by decide +kernel
theorem d_Mdl_refused_9 : decode (mb M_Mdl_refused) 9 = .ok (.iconst 1, 1) := by decide +kernel
theorem d_Mdl_refused_10 : decode (mb M_Mdl_refused) 10 = .ok (.goto 4, 3) := by decide +kernel
theorem d_Mdl_refused_13 : decode (mb M_Mdl_refused) 13 = .ok (.iconst 0, 1) := by decide +kernel
theorem d_Mdl_refused_14 : decode (mb M_Mdl_refused) 14 = .ok (.ireturn, 1) := by decide +kernel
theorem d_Mdl_remember_0 : decode (mb M_Mdl_remember) 0 = .ok (.aload_n 0, 1) := by decide +kernel
theorem d_Mdl_remember_1 : decode (mb M_Mdl_remember) 1 = .ok (.getfield 44, 3) := by decide +kernel
theorem d_Mdl_remember_4 : decode (mb M_Mdl_remember) 4 = .ok (.aload_n 0, 1) := by decide +kernel
theorem d_Mdl_remember_5 : decode (mb M_Mdl_remember) 5 = .ok (.getfield 191, 3) := by decide +kernel
theorem d_Mdl_remember_8 : decode (mb M_Mdl_remember) 8 = .ok (.aload_n 0, 1) := by decide +kernel
theorem d_Mdl_remember_9 : decode (mb M_Mdl_remember) 9 = .ok (.getfield 194, 3) := by decide +kernel
theorem d_Mdl_remember_12 : decode (mb M_Mdl_remember) 12 = .ok (.iastore, 1) := by decide +kernel
theorem d_Mdl_remember_13 : decode (mb M_Mdl_remember) 13 = .ok (.aload_n 0, 1) := by decide +kernel
theorem d_Mdl_remember_14 : decode (mb M_Mdl_remember) 14 = .ok (.getfield 47, 3) := by decide +kernel
theorem d_Mdl_remember_17 : decode (mb M_Mdl_remember) 17 = .ok (.aload_n 0, 1) := by decide +kernel
theorem d_Mdl_remember_18 : decode (mb M_Mdl_remember) 18 = .ok (.getfield 191, 3) := by decide +kernel
theorem d_Mdl_remember_21 : decode (mb M_Mdl_remember) 21 = .ok (.aload_n 0, 1) := by decide +kernel
theorem d_Mdl_remember_22 : decode (mb M_Mdl_remember) 22 = .ok (.getfield 188, 3) := by decide +kernel
theorem d_Mdl_remember_25 : decode (mb M_Mdl_remember) 25 = .ok (.iastore, 1) := by decide +kernel
theorem d_Mdl_remember_26 : decode (mb M_Mdl_remember) 26 = .ok (.iconst 0, 1) := by decide +kernel
theorem d_Mdl_remember_27 : decode (mb M_Mdl_remember) 27 = .ok (.istore_n 1, 1) := by decide +kernel
theorem d_Mdl_remember_28 : decode (mb M_Mdl_remember) 28 = .ok (.iload_n 1, 1) := by decide +kernel
theorem d_Mdl_remember_29 : decode (mb M_Mdl_remember) 29 = .ok (.aload_n 0, 1) := by decide +kernel
theorem d_Mdl_remember_30 : decode (mb M_Mdl_remember) 30 = .ok (.getfield 194, 3) := by decide +kernel
theorem d_Mdl_remember_33 : decode (mb M_Mdl_remember) 33 = .ok (.if_icmp .ge 29, 3) := by decide +kernel
theorem d_Mdl_remember_36 : decode (mb M_Mdl_remember) 36 = .ok (.aload_n 0, 1) := by decide +kernel
theorem d_Mdl_remember_37 : decode (mb M_Mdl_remember) 37 = .ok (.getfield 50, 3) := by decide +kernel
theorem d_Mdl_remember_40 : decode (mb M_Mdl_remember) 40 = .ok (.bipush 48, 2) := by decide +kernel
theorem d_Mdl_remember_42 : decode (mb M_Mdl_remember) 42 = .ok (.aload_n 0, 1) := by decide +kernel
theorem d_Mdl_remember_43 : decode (mb M_Mdl_remember) 43 = .ok (.getfield 191, 3) := by decide +kernel
theorem d_Mdl_remember_46 : decode (mb M_Mdl_remember) 46 = .ok (.imul, 1) := by decide +kernel
theorem d_Mdl_remember_47 : decode (mb M_Mdl_remember) 47 = .ok (.iload_n 1, 1) := by decide +kernel
theorem d_Mdl_remember_48 : decode (mb M_Mdl_remember) 48 = .ok (.iadd, 1) := by decide +kernel
theorem d_Mdl_remember_49 : decode (mb M_Mdl_remember) 49 = .ok (.aload_n 0, 1) := by decide +kernel
theorem d_Mdl_remember_50 : decode (mb M_Mdl_remember) 50 = .ok (.getfield 35, 3) := by decide +kernel
theorem d_Mdl_remember_53 : decode (mb M_Mdl_remember) 53 = .ok (.iload_n 1, 1) := by decide +kernel
theorem d_Mdl_remember_54 : decode (mb M_Mdl_remember) 54 = .ok (.iaload, 1) := by decide +kernel
theorem d_Mdl_remember_55 : decode (mb M_Mdl_remember) 55 = .ok (.iastore, 1) := by decide +kernel
theorem d_Mdl_remember_56 : decode (mb M_Mdl_remember) 56 = .ok (.iinc 1 1, 3) := by decide +kernel
theorem d_Mdl_remember_59 : decode (mb M_Mdl_remember) 59 = .ok (.goto (-31), 3) := by decide +kernel
theorem d_Mdl_remember_62 : decode (mb M_Mdl_remember) 62 = .ok (.aload_n 0, 1) := by decide +kernel
theorem d_Mdl_remember_63 : decode (mb M_Mdl_remember) 63 = .ok (.dup, 1) := by decide +kernel
theorem d_Mdl_remember_64 : decode (mb M_Mdl_remember) 64 = .ok (.getfield 191, 3) := by decide +kernel
theorem d_Mdl_remember_67 : decode (mb M_Mdl_remember) 67 = .ok (.iconst 1, 1) := by decide +kernel
theorem d_Mdl_remember_68 : decode (mb M_Mdl_remember) 68 = .ok (.iadd, 1) := by decide +kernel
theorem d_Mdl_remember_69 : decode (mb M_Mdl_remember) 69 = .ok (.putfield 191, 3) := by decide +kernel
theorem d_Mdl_remember_72 : decode (mb M_Mdl_remember) 72 = .ok (.return_, 1) := by decide +kernel
theorem d_Mdl_remove_0 : decode (mb M_Mdl_remove) 0 = .ok (.aload_n 0, 1) := by decide +kernel
theorem d_Mdl_remove_1 : decode (mb M_Mdl_remove) 1 = .ok (.aload_n 0, 1) := by decide +kernel
theorem d_Mdl_remove_2 : decode (mb M_Mdl_remove) 2 = .ok (.iload_n 1, 1) := by decide +kernel
theorem d_Mdl_remove_3 : decode (mb M_Mdl_remove) 3 = .ok (.invokevirtual 215, 3) := by decide +kernel
theorem d_Mdl_remove_6 : decode (mb M_Mdl_remove) 6 = .ok (.ifCond .ne 7, 3) := by decide +kernel
theorem d_Mdl_remove_9 : decode (mb M_Mdl_remove) 9 = .ok (.iconst 1, 1) := by decide +kernel
theorem d_Mdl_remove_10 : decode (mb M_Mdl_remove) 10 = .ok (.goto 15, 3) := by decide +kernel
theorem d_Mdl_remove_13 : decode (mb M_Mdl_remove) 13 = .ok (.aload_n 0, 1) := by decide +kernel
theorem d_Mdl_remove_14 : decode (mb M_Mdl_remove) 14 = .ok (.invokevirtual 201, 3) := by decide +kernel
theorem d_Mdl_remove_17 : decode (mb M_Mdl_remove) 17 = .ok (.ifCond .eq 7, 3) := by decide +kernel
theorem d_Mdl_remove_20 : decode (mb M_Mdl_remove) 20 = .ok (.iconst 0, 1) := by decide +kernel
theorem d_Mdl_remove_21 : decode (mb M_Mdl_remove) 21 = .ok (.goto 4, 3) := by decide +kernel
theorem d_Mdl_remove_24 : decode (mb M_Mdl_remove) 24 = .ok (.iconst 2, 1) := by decide +kernel
theorem d_Mdl_remove_25 : decode (mb M_Mdl_remove) 25 = .ok (.invokevirtual 151, 3) := by decide +kernel
theorem d_Mdl_remove_28 : decode (mb M_Mdl_remove) 28 = .ok (.ifCond .eq 5, 3) := by decide +kernel
theorem d_Mdl_remove_31 : decode (mb M_Mdl_remove) 31 = .ok (.iconst 0, 1) := by decide +kernel
theorem d_Mdl_remove_32 : decode (mb M_Mdl_remove) 32 = .ok (.ireturn, 1) := by decide +kernel
theorem d_Mdl_remove_33 : decode (mb M_Mdl_remove) 33 = .ok (.aload_n 0, 1) := by decide +kernel
theorem d_Mdl_remove_34 : decode (mb M_Mdl_remove) 34 = .ok (.invokevirtual 205, 3) := by decide +kernel
theorem d_Mdl_remove_37 : decode (mb M_Mdl_remove) 37 = .ok (.aload_n 0, 1) := by decide +kernel
theorem d_Mdl_remove_38 : decode (mb M_Mdl_remove) 38 = .ok (.iload_n 1, 1) := by decide +kernel
theorem d_Mdl_remove_39 : decode (mb M_Mdl_remove) 39 = .ok (.invokevirtual 218, 3) := by decide +kernel
theorem d_Mdl_remove_42 : decode (mb M_Mdl_remove) 42 = .ok (.aload_n 0, 1) := by decide +kernel
theorem d_Mdl_remove_43 : decode (mb M_Mdl_remove) 43 = .ok (.getfield 194, 3) := by decide +kernel
theorem d_Mdl_remove_46 : decode (mb M_Mdl_remove) 46 = .ok (.ireturn, 1) := by decide +kernel
theorem d_Mdl_renew_0 : decode (mb M_Mdl_renew) 0 = .ok (.aload_n 0, 1) := by decide +kernel
theorem d_Mdl_renew_1 : decode (mb M_Mdl_renew) 1 = .ok (.iload_n 1, 1) := by decide +kernel
theorem d_Mdl_renew_2 : decode (mb M_Mdl_renew) 2 = .ok (.invokevirtual 351, 3) := by decide +kernel
theorem d_Mdl_renew_5 : decode (mb M_Mdl_renew) 5 = .ok (.ifCond .eq 15, 3) := by decide +kernel
theorem d_Mdl_renew_8 : decode (mb M_Mdl_renew) 8 = .ok (.aload_n 0, 1) := by decide +kernel
theorem d_Mdl_renew_9 : decode (mb M_Mdl_renew) 9 = .ok (.iload_n 2, 1) := by decide +kernel
theorem d_Mdl_renew_10 : decode (mb M_Mdl_renew) 10 = .ok (.invokevirtual 172, 3) := by decide +kernel
theorem d_Mdl_renew_13 : decode (mb M_Mdl_renew) 13 = .ok (.ifCond .eq 7, 3) := by decide +kernel
theorem d_Mdl_renew_16 : decode (mb M_Mdl_renew) 16 = .ok (.iconst 1, 1) := by decide +kernel
theorem d_Mdl_renew_17 : decode (mb M_Mdl_renew) 17 = .ok (.goto 4, 3) := by decide +kernel
theorem d_Mdl_renew_20 : decode (mb M_Mdl_renew) 20 = .ok (.iconst 0, 1) := by decide +kernel
theorem d_Mdl_renew_21 : decode (mb M_Mdl_renew) 21 = .ok (.istore_n 3, 1) := by decide +kernel
theorem d_Mdl_renew_22 : decode (mb M_Mdl_renew) 22 = .ok (.iload_n 3, 1) := by decide +kernel
theorem d_Mdl_renew_23 : decode (mb M_Mdl_renew) 23 = .ok (.ifCond .eq 30, 3) := by decide +kernel
theorem d_Mdl_renew_26 : decode (mb M_Mdl_renew) 26 = .ok (.aload_n 0, 1) := by decide +kernel
theorem d_Mdl_renew_27 : decode (mb M_Mdl_renew) 27 = .ok (.getfield 86, 3) := by decide +kernel
theorem d_Mdl_renew_30 : decode (mb M_Mdl_renew) 30 = .ok (.iload_n 1, 1) := by decide +kernel
theorem d_Mdl_renew_31 : decode (mb M_Mdl_renew) 31 = .ok (.baload, 1) := by decide +kernel
theorem d_Mdl_renew_32 : decode (mb M_Mdl_renew) 32 = .ok (.ifCond .ne 21, 3) := by decide +kernel
theorem d_Mdl_renew_35 : decode (mb M_Mdl_renew) 35 = .ok (.aload_n 0, 1) := by decide +kernel
theorem d_Mdl_renew_36 : decode (mb M_Mdl_renew) 36 = .ok (.iload_n 2, 1) := by decide +kernel
theorem d_Mdl_renew_37 : decode (mb M_Mdl_renew) 37 = .ok (.aload_n 0, 1) := by decide +kernel
theorem d_Mdl_renew_38 : decode (mb M_Mdl_renew) 38 = .ok (.getfield 80, 3) := by decide +kernel
theorem d_Mdl_renew_41 : decode (mb M_Mdl_renew) 41 = .ok (.iload_n 1, 1) := by decide +kernel
theorem d_Mdl_renew_42 : decode (mb M_Mdl_renew) 42 = .ok (.iaload, 1) := by decide +kernel
theorem d_Mdl_renew_43 : decode (mb M_Mdl_renew) 43 = .ok (.invokevirtual 238, 3) := by decide +kernel
theorem d_Mdl_renew_46 : decode (mb M_Mdl_renew) 46 = .ok (.ifCond .eq 7, 3) := by decide +kernel
theorem d_Mdl_renew_49 : decode (mb M_Mdl_renew) 49 = .ok (.iconst 1, 1) := by decide +kernel
theorem d_Mdl_renew_50 : decode (mb M_Mdl_renew) 50 = .ok (.goto 4, 3) := by decide +kernel
theorem d_Mdl_renew_53 : decode (mb M_Mdl_renew) 53 = .ok (.iconst 0, 1) := by decide +kernel
theorem d_Mdl_renew_54 : decode (mb M_Mdl_renew) 54 = .ok (.istore 4, 2) := by decide +kernel
theorem d_Mdl_renew_56 : decode (mb M_Mdl_renew) 56 = .ok (.aload_n 0, 1) := by decide +kernel
theorem d_Mdl_renew_57 : decode (mb M_Mdl_renew) 57 = .ok (.iload_n 3, 1) := by decide +kernel
theorem d_Mdl_renew_58 : decode (mb M_Mdl_renew) 58 = .ok (.ifCond .ne 7, 3) := by decide +kernel
theorem d_Mdl_renew_61 : decode (mb M_Mdl_renew) 61 = .ok (.iconst 1, 1) := by decide +kernel
theorem d_Mdl_renew_62 : decode (mb M_Mdl_renew) 62 = .ok (.goto 13, 3) := by decide +kernel
theorem d_Mdl_renew_65 : decode (mb M_Mdl_renew) 65 = .ok (.iload 4, 2) := by decide +kernel
theorem d_Mdl_renew_67 : decode (mb M_Mdl_renew) 67 = .ok (.ifCond .eq 7, 3) := by decide +kernel
theorem d_Mdl_renew_70 : decode (mb M_Mdl_renew) 70 = .ok (.iconst 0, 1) := by decide +kernel
theorem d_Mdl_renew_71 : decode (mb M_Mdl_renew) 71 = .ok (.goto 4, 3) := by decide +kernel
theorem d_Mdl_renew_74 : decode (mb M_Mdl_renew) 74 = .ok (.iconst 2, 1) := by decide +kernel
theorem d_Mdl_renew_75 : decode (mb M_Mdl_renew) 75 = .ok (.invokevirtual 151, 3) := by decide +kernel
theorem d_Mdl_renew_78 : decode (mb M_Mdl_renew) 78 = .ok (.ifCond .eq 5, 3) := by decide +kernel
theorem d_Mdl_renew_81 : decode (mb M_Mdl_renew) 81 = .ok (.iconst 0, 1) := by decide +kernel
theorem d_Mdl_renew_82 : decode (mb M_Mdl_renew) 82 = .ok (.ireturn, 1) := by decide +kernel
theorem d_Mdl_renew_83 : decode (mb M_Mdl_renew) 83 = .ok (.aload_n 0, 1) := by decide +kernel
theorem d_Mdl_renew_84 : decode (mb M_Mdl_renew) 84 = .ok (.getfield 80, 3) := by decide +kernel
theorem d_Mdl_renew_87 : decode (mb M_Mdl_renew) 87 = .ok (.iload_n 1, 1) := by decide +kernel
theorem d_Mdl_renew_88 : decode (mb M_Mdl_renew) 88 = .ok (.iaload, 1) := by decide +kernel
theorem d_Mdl_renew_89 : decode (mb M_Mdl_renew) 89 = .ok (.istore 5, 2) := by decide +kernel
theorem d_Mdl_renew_91 : decode (mb M_Mdl_renew) 91 = .ok (.aload_n 0, 1) := by decide +kernel
theorem d_Mdl_renew_92 : decode (mb M_Mdl_renew) 92 = .ok (.iload 5, 2) := by decide +kernel
theorem d_Mdl_renew_94 : decode (mb M_Mdl_renew) 94 = .ok (.iconst 0, 1) := by decide +kernel
theorem d_Mdl_renew_95 : decode (mb M_Mdl_renew) 95 = .ok (.aload_n 0, 1) := by decide +kernel
theorem d_Mdl_renew_96 : decode (mb M_Mdl_renew) 96 = .ok (.getfield 20, 3) := by decide +kernel
theorem d_Mdl_renew_99 : decode (mb M_Mdl_renew) 99 = .ok (.iload 5, 2) := by decide +kernel
theorem d_Mdl_renew_101 : decode (mb M_Mdl_renew) 101 = .ok (.iaload, 1) := by decide +kernel
theorem d_Mdl_renew_102 : decode (mb M_Mdl_renew) 102 = .ok (.iload_n 2, 1) := by decide +kernel
theorem d_Mdl_renew_103 : decode (mb M_Mdl_renew) 103 = .ok (.iconst 0, 1) := by decide +kernel
theorem d_Mdl_renew_104 : decode (mb M_Mdl_renew) 104 = .ok (.aload_n 0, 1) := by decide +kernel
theorem d_Mdl_renew_105 : decode (mb M_Mdl_renew) 105 = .ok (.getfield 20, 3) := by decide +kernel
theorem d_Mdl_renew_108 : decode (mb M_Mdl_renew) 108 = .ok (.iload_n 2, 1) := by decide +kernel
theorem d_Mdl_renew_109 : decode (mb M_Mdl_renew) 109 = .ok (.iaload, 1) := by decide +kernel
theorem d_Mdl_renew_110 : decode (mb M_Mdl_renew) 110 = .ok (.invokevirtual 294, 3) := by decide +kernel
theorem d_Mdl_renew_113 : decode (mb M_Mdl_renew) 113 = .ok (.istore 6, 2) := by decide +kernel
theorem d_Mdl_renew_115 : decode (mb M_Mdl_renew) 115 = .ok (.iconst 0, 1) := by decide +kernel
theorem d_Mdl_renew_116 : decode (mb M_Mdl_renew) 116 = .ok (.istore 7, 2) := by decide +kernel
theorem d_Mdl_renew_118 : decode (mb M_Mdl_renew) 118 = .ok (.iconst 0, 1) := by decide +kernel
theorem d_Mdl_renew_119 : decode (mb M_Mdl_renew) 119 = .ok (.istore 8, 2) := by decide +kernel
theorem d_Mdl_renew_121 : decode (mb M_Mdl_renew) 121 = .ok (.iload 8, 2) := by decide +kernel
theorem d_Mdl_renew_123 : decode (mb M_Mdl_renew) 123 = .ok (.bipush 6, 2) := by decide +kernel
theorem d_Mdl_renew_125 : decode (mb M_Mdl_renew) 125 = .ok (.if_icmp .ge 95, 3) := by decide +kernel
theorem d_Mdl_renew_128 : decode (mb M_Mdl_renew) 128 = .ok (.aload_n 0, 1) := by decide +kernel
theorem d_Mdl_renew_129 : decode (mb M_Mdl_renew) 129 = .ok (.getfield 90, 3) := by decide +kernel
theorem d_Mdl_renew_132 : decode (mb M_Mdl_renew) 132 = .ok (.bipush 6, 2) := by decide +kernel
theorem d_Mdl_renew_134 : decode (mb M_Mdl_renew) 134 = .ok (.iload_n 1, 1) := by decide +kernel
theorem d_Mdl_renew_135 : decode (mb M_Mdl_renew) 135 = .ok (.imul, 1) := by decide +kernel
theorem d_Mdl_renew_136 : decode (mb M_Mdl_renew) 136 = .ok (.iload 8, 2) := by decide +kernel
theorem d_Mdl_renew_138 : decode (mb M_Mdl_renew) 138 = .ok (.iadd, 1) := by decide +kernel
theorem d_Mdl_renew_139 : decode (mb M_Mdl_renew) 139 = .ok (.iaload, 1) := by decide +kernel
theorem d_Mdl_renew_140 : decode (mb M_Mdl_renew) 140 = .ok (.ifCond .eq 23, 3) := by decide +kernel
theorem d_Mdl_renew_143 : decode (mb M_Mdl_renew) 143 = .ok (.iload 6, 2) := by decide +kernel
theorem d_Mdl_renew_145 : decode (mb M_Mdl_renew) 145 = .ok (.ifCond .eq 14, 3) := by decide +kernel
theorem d_Mdl_renew_148 : decode (mb M_Mdl_renew) 148 = .ok (.iload 8, 2) := by decide +kernel
theorem d_Mdl_renew_150 : decode (mb M_Mdl_renew) 150 = .ok (.aload_n 0, 1) := by decide +kernel
theorem d_Mdl_renew_151 : decode (mb M_Mdl_renew) 151 = .ok (.getfield 26, 3) := by decide +kernel
theorem d_Mdl_renew_154 : decode (mb M_Mdl_renew) 154 = .ok (.iload_n 2, 1) := by decide +kernel
theorem d_Mdl_renew_155 : decode (mb M_Mdl_renew) 155 = .ok (.iaload, 1) := by decide +kernel
theorem d_Mdl_renew_156 : decode (mb M_Mdl_renew) 156 = .ok (.if_icmp .ne 7, 3) := by decide +kernel
theorem d_Mdl_renew_159 : decode (mb M_Mdl_renew) 159 = .ok (.iconst 1, 1) := by decide +kernel
theorem d_Mdl_renew_160 : decode (mb M_Mdl_renew) 160 = .ok (.goto 4, 3) := by decide +kernel
theorem d_Mdl_renew_163 : decode (mb M_Mdl_renew) 163 = .ok (.iconst 0, 1) := by decide +kernel
theorem d_Mdl_renew_164 : decode (mb M_Mdl_renew) 164 = .ok (.istore 9, 2) := by decide +kernel
theorem d_Mdl_renew_166 : decode (mb M_Mdl_renew) 166 = .ok (.aload_n 0, 1) := by decide +kernel
theorem d_Mdl_renew_167 : decode (mb M_Mdl_renew) 167 = .ok (.getfield 90, 3) := by decide +kernel
theorem d_Mdl_renew_170 : decode (mb M_Mdl_renew) 170 = .ok (.bipush 6, 2) := by decide +kernel
theorem d_Mdl_renew_172 : decode (mb M_Mdl_renew) 172 = .ok (.iload_n 1, 1) := by decide +kernel
theorem d_Mdl_renew_173 : decode (mb M_Mdl_renew) 173 = .ok (.imul, 1) := by decide +kernel
theorem d_Mdl_renew_174 : decode (mb M_Mdl_renew) 174 = .ok (.iload 8, 2) := by decide +kernel
theorem d_Mdl_renew_176 : decode (mb M_Mdl_renew) 176 = .ok (.iadd, 1) := by decide +kernel
theorem d_Mdl_renew_177 : decode (mb M_Mdl_renew) 177 = .ok (.iload 9, 2) := by decide +kernel
theorem d_Mdl_renew_179 : decode (mb M_Mdl_renew) 179 = .ok (.ifCond .eq 7, 3) := by decide +kernel
theorem d_Mdl_renew_182 : decode (mb M_Mdl_renew) 182 = .ok (.iconst 0, 1) := by decide +kernel
theorem d_Mdl_renew_183 : decode (mb M_Mdl_renew) 183 = .ok (.goto 15, 3) := by decide +kernel
theorem d_Mdl_renew_186 : decode (mb M_Mdl_renew) 186 = .ok (.aload_n 0, 1) := by decide +kernel
theorem d_Mdl_renew_187 : decode (mb M_Mdl_renew) 187 = .ok (.getfield 90, 3) := by decide +kernel
theorem d_Mdl_renew_190 : decode (mb M_Mdl_renew) 190 = .ok (.bipush 6, 2) := by decide +kernel
theorem d_Mdl_renew_192 : decode (mb M_Mdl_renew) 192 = .ok (.iload_n 1, 1) := by decide +kernel
theorem d_Mdl_renew_193 : decode (mb M_Mdl_renew) 193 = .ok (.imul, 1) := by decide +kernel
theorem d_Mdl_renew_194 : decode (mb M_Mdl_renew) 194 = .ok (.iload 8, 2) := by decide +kernel
theorem d_Mdl_renew_196 : decode (mb M_Mdl_renew) 196 = .ok (.iadd, 1) := by decide +kernel
theorem d_Mdl_renew_197 : decode (mb M_Mdl_renew) 197 = .ok (.iaload, 1) := by decide +kernel
theorem d_Mdl_renew_198 : decode (mb M_Mdl_renew) 198 = .ok (.iastore, 1) := by decide +kernel
theorem d_Mdl_renew_199 : decode (mb M_Mdl_renew) 199 = .ok (.iload 7, 2) := by decide +kernel
theorem d_Mdl_renew_201 : decode (mb M_Mdl_renew) 201 = .ok (.iload 9, 2) := by decide +kernel
theorem d_Mdl_renew_203 : decode (mb M_Mdl_renew) 203 = .ok (.ifCond .eq 7, 3) := by decide +kernel
theorem d_Mdl_renew_206 : decode (mb M_Mdl_renew) 206 = .ok (.iconst 1, 1) := by decide +kernel
theorem d_Mdl_renew_207 : decode (mb M_Mdl_renew) 207 = .ok (.goto 4, 3) := by decide +kernel
theorem d_Mdl_renew_210 : decode (mb M_Mdl_renew) 210 = .ok (.iconst 0, 1) := by decide +kernel
theorem d_Mdl_renew_211 : decode (mb M_Mdl_renew) 211 = .ok (.iadd, 1) := by decide +kernel
theorem d_Mdl_renew_212 : decode (mb M_Mdl_renew) 212 = .ok (.istore 7, 2) := by decide +kernel
theorem d_Mdl_renew_214 : decode (mb M_Mdl_renew) 214 = .ok (.iinc 8 1, 3) := by decide +kernel
theorem d_Mdl_renew_217 : decode (mb M_Mdl_renew) 217 = .ok (.goto (-96), 3) := by decide +kernel
theorem d_Mdl_renew_220 : decode (mb M_Mdl_renew) 220 = .ok (.aload_n 0, 1) := by decide +kernel
theorem d_Mdl_renew_221 : decode (mb M_Mdl_renew) 221 = .ok (.getfield 80, 3) := by decide +kernel
theorem d_Mdl_renew_224 : decode (mb M_Mdl_renew) 224 = .ok (.iload_n 1, 1) := by decide +kernel
theorem d_Mdl_renew_225 : decode (mb M_Mdl_renew) 225 = .ok (.iload_n 2, 1) := by decide +kernel
theorem d_Mdl_renew_226 : decode (mb M_Mdl_renew) 226 = .ok (.iastore, 1) := by decide +kernel
theorem d_Mdl_renew_227 : decode (mb M_Mdl_renew) 227 = .ok (.iload 7, 2) := by decide +kernel
theorem d_Mdl_renew_229 : decode (mb M_Mdl_renew) 229 = .ok (.ireturn, 1) := by decide +kernel
theorem d_Mdl_review_0 : decode (mb M_Mdl_review) 0 = .ok (.aload_n 0, 1) := by decide +kernel
theorem d_Mdl_review_1 : decode (mb M_Mdl_review) 1 = .ok (.iload_n 1, 1) := by decide +kernel
theorem d_Mdl_review_2 : decode (mb M_Mdl_review) 2 = .ok (.invokevirtual 172, 3) := by decide +kernel
theorem d_Mdl_review_5 : decode (mb M_Mdl_review) 5 = .ok (.ifCond .eq 24, 3) := by decide +kernel
theorem d_Mdl_review_8 : decode (mb M_Mdl_review) 8 = .ok (.iload_n 1, 1) := by decide +kernel
theorem d_Mdl_review_9 : decode (mb M_Mdl_review) 9 = .ok (.ifCond .eq 20, 3) := by decide +kernel
theorem d_Mdl_review_12 : decode (mb M_Mdl_review) 12 = .ok (.iload_n 2, 1) := by decide +kernel
theorem d_Mdl_review_13 : decode (mb M_Mdl_review) 13 = .ok (.iconst (-1), 1) := by decide +kernel
theorem d_Mdl_review_14 : decode (mb M_Mdl_review) 14 = .ok (.if_icmp .eq 11, 3) := by decide +kernel
theorem d_Mdl_review_17 : decode (mb M_Mdl_review) 17 = .ok (.aload_n 0, 1) := by decide +kernel
theorem d_Mdl_review_18 : decode (mb M_Mdl_review) 18 = .ok (.iload_n 2, 1) := by decide +kernel
theorem d_Mdl_review_19 : decode (mb M_Mdl_review) 19 = .ok (.invokevirtual 351, 3) := by decide +kernel
theorem d_Mdl_review_22 : decode (mb M_Mdl_review) 22 = .ok (.ifCond .eq 7, 3) := by decide +kernel
theorem d_Mdl_review_25 : decode (mb M_Mdl_review) 25 = .ok (.iconst 1, 1) := by decide +kernel
theorem d_Mdl_review_26 : decode (mb M_Mdl_review) 26 = .ok (.goto 4, 3) := by decide +kernel
theorem d_Mdl_review_29 : decode (mb M_Mdl_review) 29 = .ok (.iconst 0, 1) := by decide +kernel
theorem d_Mdl_review_30 : decode (mb M_Mdl_review) 30 = .ok (.istore_n 3, 1) := by decide +kernel
theorem d_Mdl_review_31 : decode (mb M_Mdl_review) 31 = .ok (.aload_n 0, 1) := by decide +kernel
theorem d_Mdl_review_32 : decode (mb M_Mdl_review) 32 = .ok (.iload_n 3, 1) := by decide +kernel
theorem d_Mdl_review_33 : decode (mb M_Mdl_review) 33 = .ok (.ifCond .ne 7, 3) := by decide +kernel
theorem d_Mdl_review_36 : decode (mb M_Mdl_review) 36 = .ok (.iconst 1, 1) := by decide +kernel
theorem d_Mdl_review_37 : decode (mb M_Mdl_review) 37 = .ok (.goto 17, 3) := by decide +kernel
theorem d_Mdl_review_40 : decode (mb M_Mdl_review) 40 = .ok (.aload_n 0, 1) := by decide +kernel
theorem d_Mdl_review_41 : decode (mb M_Mdl_review) 41 = .ok (.getfield 348, 3) := by decide +kernel
theorem d_Mdl_review_44 : decode (mb M_Mdl_review) 44 = .ok (.bipush 20, 2) := by decide +kernel
theorem d_Mdl_review_46 : decode (mb M_Mdl_review) 46 = .ok (.if_icmp .ne 7, 3) := by decide +kernel
theorem d_Mdl_review_49 : decode (mb M_Mdl_review) 49 = .ok (.iconst 2, 1) := by decide +kernel
theorem d_Mdl_review_50 : decode (mb M_Mdl_review) 50 = .ok (.goto 4, 3) := by decide +kernel
theorem d_Mdl_review_53 : decode (mb M_Mdl_review) 53 = .ok (.iconst 0, 1) := by decide +kernel
theorem d_Mdl_review_54 : decode (mb M_Mdl_review) 54 = .ok (.invokevirtual 151, 3) := by decide +kernel
theorem d_Mdl_review_57 : decode (mb M_Mdl_review) 57 = .ok (.ifCond .eq 5, 3) := by decide +kernel
theorem d_Mdl_review_60 : decode (mb M_Mdl_review) 60 = .ok (.iconst 0, 1) := by decide +kernel
theorem d_Mdl_review_61 : decode (mb M_Mdl_review) 61 = .ok (.ireturn, 1) := by decide +kernel
theorem d_Mdl_review_62 : decode (mb M_Mdl_review) 62 = .ok (.aload_n 0, 1) := by decide +kernel
theorem d_Mdl_review_63 : decode (mb M_Mdl_review) 63 = .ok (.getfield 80, 3) := by decide +kernel
theorem d_Mdl_review_66 : decode (mb M_Mdl_review) 66 = .ok (.aload_n 0, 1) := by decide +kernel
theorem d_Mdl_review_67 : decode (mb M_Mdl_review) 67 = .ok (.getfield 348, 3) := by decide +kernel
theorem d_Mdl_review_70 : decode (mb M_Mdl_review) 70 = .ok (.iload_n 1, 1) := by decide +kernel
theorem d_Mdl_review_71 : decode (mb M_Mdl_review) 71 = .ok (.iastore, 1) := by decide +kernel
theorem d_Mdl_review_72 : decode (mb M_Mdl_review) 72 = .ok (.aload_n 0, 1) := by decide +kernel
theorem d_Mdl_review_73 : decode (mb M_Mdl_review) 73 = .ok (.getfield 83, 3) := by decide +kernel
theorem d_Mdl_review_76 : decode (mb M_Mdl_review) 76 = .ok (.aload_n 0, 1) := by decide +kernel
theorem d_Mdl_review_77 : decode (mb M_Mdl_review) 77 = .ok (.getfield 348, 3) := by decide +kernel
theorem d_Mdl_review_80 : decode (mb M_Mdl_review) 80 = .ok (.iload_n 2, 1) := by decide +kernel
theorem d_Mdl_review_81 : decode (mb M_Mdl_review) 81 = .ok (.iastore, 1) := by decide +kernel
theorem d_Mdl_review_82 : decode (mb M_Mdl_review) 82 = .ok (.aload_n 0, 1) := by decide +kernel
theorem d_Mdl_review_83 : decode (mb M_Mdl_review) 83 = .ok (.dup, 1) := by decide +kernel
theorem d_Mdl_review_84 : decode (mb M_Mdl_review) 84 = .ok (.getfield 348, 3) := by decide +kernel
theorem d_Mdl_review_87 : decode (mb M_Mdl_review) 87 = .ok (.iconst 1, 1) := by decide +kernel
theorem d_Mdl_review_88 : decode (mb M_Mdl_review) 88 = .ok (.iadd, 1) := by decide +kernel
theorem d_Mdl_review_89 : decode (mb M_Mdl_review) 89 = .ok (.putfield 348, 3) := by decide +kernel
theorem d_Mdl_review_92 : decode (mb M_Mdl_review) 92 = .ok (.aload_n 0, 1) := by decide +kernel
theorem d_Mdl_review_93 : decode (mb M_Mdl_review) 93 = .ok (.getfield 348, 3) := by decide +kernel
theorem d_Mdl_review_96 : decode (mb M_Mdl_review) 96 = .ok (.iconst 1, 1) := by decide +kernel
theorem d_Mdl_review_97 : decode (mb M_Mdl_review) 97 = .ok (.isub, 1) := by decide +kernel
theorem d_Mdl_review_98 : decode (mb M_Mdl_review) 98 = .ok (.ireturn, 1) := by decide +kernel
theorem d_Mdl_reviewState_0 : decode (mb M_Mdl_reviewState) 0 = .ok (.aload_n 0, 1) := by decide +kernel
theorem d_Mdl_reviewState_1 : decode (mb M_Mdl_reviewState) 1 = .ok (.aload_n 0, 1) := by decide +kernel
theorem d_Mdl_reviewState_2 : decode (mb M_Mdl_reviewState) 2 = .ok (.iload_n 1, 1) := by decide +kernel
theorem d_Mdl_reviewState_3 : decode (mb M_Mdl_reviewState) 3 = .ok (.invokevirtual 351, 3) := by decide +kernel
theorem d_Mdl_reviewState_6 : decode (mb M_Mdl_reviewState) 6 = .ok (.ifCond .eq 7, 3) := by decide +kernel
theorem d_Mdl_reviewState_9 : decode (mb M_Mdl_reviewState) 9 = .ok (.iconst 0, 1) := by decide +kernel
theorem d_Mdl_reviewState_10 : decode (mb M_Mdl_reviewState) 10 = .ok (.goto 4, 3) := by decide +kernel
theorem d_Mdl_reviewState_13 : decode (mb M_Mdl_reviewState) 13 = .ok (.iconst 1, 1) := by decide +kernel
theorem d_Mdl_reviewState_14 : decode (mb M_Mdl_reviewState) 14 = .ok (.invokevirtual 151, 3) := by decide +kernel
theorem d_Mdl_reviewState_17 : decode (mb M_Mdl_reviewState) 17 = .ok (.ifCond .eq 7, 3) := by decide +kernel
theorem d_Mdl_reviewState_20 : decode (mb M_Mdl_reviewState) 20 = .ok (.iconst 0, 1) := by decide +kernel
theorem d_Mdl_reviewState_21 : decode (mb M_Mdl_reviewState) 21 = .ok (.goto 8, 3) := by decide +kernel
theorem d_Mdl_reviewState_24 : decode (mb M_Mdl_reviewState) 24 = .ok (.aload_n 0, 1) := by decide +kernel
theorem d_Mdl_reviewState_25 : decode (mb M_Mdl_reviewState) 25 = .ok (.iload_n 1, 1) := by decide +kernel
theorem d_Mdl_reviewState_26 : decode (mb M_Mdl_reviewState) 26 = .ok (.invokevirtual 354, 3) := by decide +kernel
theorem d_Mdl_reviewState_29 : decode (mb M_Mdl_reviewState) 29 = .ok (.ireturn, 1) := by decide +kernel
theorem d_Mdl_settle_0 : decode (mb M_Mdl_settle) 0 = .ok (.aload_n 0, 1) := by decide +kernel
theorem d_Mdl_settle_1 : decode (mb M_Mdl_settle) 1 = .ok (.iload_n 1, 1) := by decide +kernel
theorem d_Mdl_settle_2 : decode (mb M_Mdl_settle) 2 = .ok (.invokevirtual 309, 3) := by decide +kernel
theorem d_Mdl_settle_5 : decode (mb M_Mdl_settle) 5 = .ok (.istore_n 3, 1) := by decide +kernel
theorem d_Mdl_settle_6 : decode (mb M_Mdl_settle) 6 = .ok (.iload_n 2, 1) := by decide +kernel
theorem d_Mdl_settle_7 : decode (mb M_Mdl_settle) 7 = .ok (.iconst 0, 1) := by decide +kernel
theorem d_Mdl_settle_8 : decode (mb M_Mdl_settle) 8 = .ok (.iconst 4, 1) := by decide +kernel
theorem d_Mdl_settle_9 : decode (mb M_Mdl_settle) 9 = .ok (.invokestatic 130, 3) := by decide +kernel
theorem d_Mdl_settle_12 : decode (mb M_Mdl_settle) 12 = .ok (.istore 4, 2) := by decide +kernel
theorem d_Mdl_settle_14 : decode (mb M_Mdl_settle) 14 = .ok (.iload_n 2, 1) := by decide +kernel
theorem d_Mdl_settle_15 : decode (mb M_Mdl_settle) 15 = .ok (.iconst 4, 1) := by decide +kernel
theorem d_Mdl_settle_16 : decode (mb M_Mdl_settle) 16 = .ok (.if_icmp .ne 7, 3) := by decide +kernel
theorem d_Mdl_settle_19 : decode (mb M_Mdl_settle) 19 = .ok (.iconst 1, 1) := by decide +kernel
theorem d_Mdl_settle_20 : decode (mb M_Mdl_settle) 20 = .ok (.goto 13, 3) := by decide +kernel
theorem d_Mdl_settle_23 : decode (mb M_Mdl_settle) 23 = .ok (.iload_n 2, 1) := by decide +kernel
theorem d_Mdl_settle_24 : decode (mb M_Mdl_settle) 24 = .ok (.iconst 3, 1) := by decide +kernel
theorem d_Mdl_settle_25 : decode (mb M_Mdl_settle) 25 = .ok (.if_icmp .ne 7, 3) := by decide +kernel
theorem d_Mdl_settle_28 : decode (mb M_Mdl_settle) 28 = .ok (.iconst 0, 1) := by decide +kernel
theorem d_Mdl_settle_29 : decode (mb M_Mdl_settle) 29 = .ok (.goto 4, 3) := by decide +kernel
theorem d_Mdl_settle_32 : decode (mb M_Mdl_settle) 32 = .ok (.iload_n 2, 1) := by decide +kernel
theorem d_Mdl_settle_33 : decode (mb M_Mdl_settle) 33 = .ok (.istore 5, 2) := by decide +kernel
theorem d_Mdl_settle_35 : decode (mb M_Mdl_settle) 35 = .ok (.iload_n 2, 1) := by decide +kernel
theorem d_Mdl_settle_36 : decode (mb M_Mdl_settle) 36 = .ok (.iconst 4, 1) := by decide +kernel
theorem d_Mdl_settle_37 : decode (mb M_Mdl_settle) 37 = .ok (.if_icmp .ne 7, 3) := by decide +kernel
theorem d_Mdl_settle_40 : decode (mb M_Mdl_settle) 40 = .ok (.iconst 0, 1) := by decide +kernel
theorem d_Mdl_settle_41 : decode (mb M_Mdl_settle) 41 = .ok (.goto 13, 3) := by decide +kernel
theorem d_Mdl_settle_44 : decode (mb M_Mdl_settle) 44 = .ok (.iload_n 2, 1) := by decide +kernel
theorem d_Mdl_settle_45 : decode (mb M_Mdl_settle) 45 = .ok (.iconst 3, 1) := by decide +kernel
theorem d_Mdl_settle_46 : decode (mb M_Mdl_settle) 46 = .ok (.if_icmp .ne 7, 3) := by decide +kernel
theorem d_Mdl_settle_49 : decode (mb M_Mdl_settle) 49 = .ok (.iconst 1, 1) := by decide +kernel
theorem d_Mdl_settle_50 : decode (mb M_Mdl_settle) 50 = .ok (.goto 4, 3) := by decide +kernel
theorem d_Mdl_settle_53 : decode (mb M_Mdl_settle) 53 = .ok (.iconst (-1), 1) := by decide +kernel
theorem d_Mdl_settle_54 : decode (mb M_Mdl_settle) 54 = .ok (.istore 6, 2) := by decide +kernel
theorem d_Mdl_settle_56 : decode (mb M_Mdl_settle) 56 = .ok (.iload_n 3, 1) := by decide +kernel
theorem d_Mdl_settle_57 : decode (mb M_Mdl_settle) 57 = .ok (.ifCond .eq 44, 3) := by decide +kernel
theorem d_Mdl_settle_60 : decode (mb M_Mdl_settle) 60 = .ok (.iload 4, 2) := by decide +kernel
theorem d_Mdl_settle_62 : decode (mb M_Mdl_settle) 62 = .ok (.ifCond .eq 39, 3) := by decide +kernel
theorem d_Mdl_settle_65 : decode (mb M_Mdl_settle) 65 = .ok (.aload_n 0, 1) := by decide +kernel
theorem d_Mdl_settle_66 : decode (mb M_Mdl_settle) 66 = .ok (.getfield 38, 3) := by decide +kernel
theorem d_Mdl_settle_69 : decode (mb M_Mdl_settle) 69 = .ok (.iconst 3, 1) := by decide +kernel
theorem d_Mdl_settle_70 : decode (mb M_Mdl_settle) 70 = .ok (.iload_n 1, 1) := by decide +kernel
theorem d_Mdl_settle_71 : decode (mb M_Mdl_settle) 71 = .ok (.imul, 1) := by decide +kernel
theorem d_Mdl_settle_72 : decode (mb M_Mdl_settle) 72 = .ok (.iload 5, 2) := by decide +kernel
theorem d_Mdl_settle_74 : decode (mb M_Mdl_settle) 74 = .ok (.iadd, 1) := by decide +kernel
theorem d_Mdl_settle_75 : decode (mb M_Mdl_settle) 75 = .ok (.iaload, 1) := by decide +kernel
theorem d_Mdl_settle_76 : decode (mb M_Mdl_settle) 76 = .ok (.iload 6, 2) := by decide +kernel
theorem d_Mdl_settle_78 : decode (mb M_Mdl_settle) 78 = .ok (.iconst (-1), 1) := by decide +kernel
theorem d_Mdl_settle_79 : decode (mb M_Mdl_settle) 79 = .ok (.if_icmp .ne 7, 3) := by decide +kernel
theorem d_Mdl_settle_82 : decode (mb M_Mdl_settle) 82 = .ok (.iconst 0, 1) := by decide +kernel
theorem d_Mdl_settle_83 : decode (mb M_Mdl_settle) 83 = .ok (.goto 14, 3) := by decide +kernel
theorem d_Mdl_settle_86 : decode (mb M_Mdl_settle) 86 = .ok (.aload_n 0, 1) := by decide +kernel
theorem d_Mdl_settle_87 : decode (mb M_Mdl_settle) 87 = .ok (.getfield 38, 3) := by decide +kernel
theorem d_Mdl_settle_90 : decode (mb M_Mdl_settle) 90 = .ok (.iconst 3, 1) := by decide +kernel
theorem d_Mdl_settle_91 : decode (mb M_Mdl_settle) 91 = .ok (.iload_n 1, 1) := by decide +kernel
theorem d_Mdl_settle_92 : decode (mb M_Mdl_settle) 92 = .ok (.imul, 1) := by decide +kernel
theorem d_Mdl_settle_93 : decode (mb M_Mdl_settle) 93 = .ok (.iload 6, 2) := by decide +kernel
theorem d_Mdl_settle_95 : decode (mb M_Mdl_settle) 95 = .ok (.iadd, 1) := by decide +kernel
theorem d_Mdl_settle_96 : decode (mb M_Mdl_settle) 96 = .ok (.iaload, 1) := by decide +kernel
theorem d_Mdl_settle_97 : decode (mb M_Mdl_settle) 97 = .ok (.iadd, 1) := by decide +kernel
theorem d_Mdl_settle_98 : decode (mb M_Mdl_settle) 98 = .ok (.goto 4, 3) := by decide +kernel
theorem d_Mdl_settle_101 : decode (mb M_Mdl_settle) 101 = .ok (.iconst 0, 1) := by decide +kernel
theorem d_Mdl_settle_102 : decode (mb M_Mdl_settle) 102 = .ok (.istore 7, 2) := by decide +kernel
theorem d_Mdl_settle_104 : decode (mb M_Mdl_settle) 104 = .ok (.iload_n 3, 1) := by decide +kernel
theorem d_Mdl_settle_105 : decode (mb M_Mdl_settle) 105 = .ok (.ifCond .eq 30, 3) := by decide +kernel
theorem d_Mdl_settle_108 : decode (mb M_Mdl_settle) 108 = .ok (.aload_n 0, 1) := by decide +kernel
theorem d_Mdl_settle_109 : decode (mb M_Mdl_settle) 109 = .ok (.getfield 188, 3) := by decide +kernel
theorem d_Mdl_settle_112 : decode (mb M_Mdl_settle) 112 = .ok (.iload_n 1, 1) := by decide +kernel
theorem d_Mdl_settle_113 : decode (mb M_Mdl_settle) 113 = .ok (.ishr, 1) := by decide +kernel
theorem d_Mdl_settle_114 : decode (mb M_Mdl_settle) 114 = .ok (.iconst 1, 1) := by decide +kernel
theorem d_Mdl_settle_115 : decode (mb M_Mdl_settle) 115 = .ok (.iand, 1) := by decide +kernel
theorem d_Mdl_settle_116 : decode (mb M_Mdl_settle) 116 = .ok (.ifCond .ne 19, 3) := by decide +kernel
theorem d_Mdl_settle_119 : decode (mb M_Mdl_settle) 119 = .ok (.aload_n 0, 1) := by decide +kernel
theorem d_Mdl_settle_120 : decode (mb M_Mdl_settle) 120 = .ok (.invokevirtual 197, 3) := by decide +kernel
theorem d_Mdl_settle_123 : decode (mb M_Mdl_settle) 123 = .ok (.iload 7, 2) := by decide +kernel
theorem d_Mdl_settle_125 : decode (mb M_Mdl_settle) 125 = .ok (.iadd, 1) := by decide +kernel
theorem d_Mdl_settle_126 : decode (mb M_Mdl_settle) 126 = .ok (.bipush 20, 2) := by decide +kernel
theorem d_Mdl_settle_128 : decode (mb M_Mdl_settle) 128 = .ok (.if_icmp .gt 7, 3) := by decide +kernel
theorem d_Mdl_settle_131 : decode (mb M_Mdl_settle) 131 = .ok (.iconst 1, 1) := by decide +kernel
theorem d_Mdl_settle_132 : decode (mb M_Mdl_settle) 132 = .ok (.goto 4, 3) := by decide +kernel
theorem d_Mdl_settle_135 : decode (mb M_Mdl_settle) 135 = .ok (.iconst 0, 1) := by decide +kernel
theorem d_Mdl_settle_136 : decode (mb M_Mdl_settle) 136 = .ok (.istore 8, 2) := by decide +kernel
theorem d_Mdl_settle_138 : decode (mb M_Mdl_settle) 138 = .ok (.aload_n 0, 1) := by decide +kernel
theorem d_Mdl_settle_139 : decode (mb M_Mdl_settle) 139 = .ok (.iload_n 3, 1) := by decide +kernel
theorem d_Mdl_settle_140 : decode (mb M_Mdl_settle) 140 = .ok (.ifCond .ne 7, 3) := by decide +kernel
theorem d_Mdl_settle_143 : decode (mb M_Mdl_settle) 143 = .ok (.iconst 1, 1) := by decide +kernel
theorem d_Mdl_settle_144 : decode (mb M_Mdl_settle) 144 = .ok (.goto 22, 3) := by decide +kernel
theorem d_Mdl_settle_147 : decode (mb M_Mdl_settle) 147 = .ok (.iload 4, 2) := by decide +kernel
theorem d_Mdl_settle_149 : decode (mb M_Mdl_settle) 149 = .ok (.ifCond .ne 7, 3) := by decide +kernel
theorem d_Mdl_settle_152 : decode (mb M_Mdl_settle) 152 = .ok (.iconst 2, 1) := by decide +kernel
theorem d_Mdl_settle_153 : decode (mb M_Mdl_settle) 153 = .ok (.goto 13, 3) := by decide +kernel
theorem d_Mdl_settle_156 : decode (mb M_Mdl_settle) 156 = .ok (.iload 8, 2) := by decide +kernel
theorem d_Mdl_settle_158 : decode (mb M_Mdl_settle) 158 = .ok (.ifCond .eq 7, 3) := by decide +kernel
theorem d_Mdl_settle_161 : decode (mb M_Mdl_settle) 161 = .ok (.iconst 0, 1) := by decide +kernel
theorem d_Mdl_settle_162 : decode (mb M_Mdl_settle) 162 = .ok (.goto 4, 3) := by decide +kernel
theorem d_Mdl_settle_165 : decode (mb M_Mdl_settle) 165 = .ok (.iconst 3, 1) := by decide +kernel
theorem d_Mdl_settle_166 : decode (mb M_Mdl_settle) 166 = .ok (.invokevirtual 151, 3) := by decide +kernel
theorem d_Mdl_settle_169 : decode (mb M_Mdl_settle) 169 = .ok (.ifCond .eq 5, 3) := by decide +kernel
theorem d_Mdl_settle_172 : decode (mb M_Mdl_settle) 172 = .ok (.iconst 0, 1) := by decide +kernel
theorem d_Mdl_settle_173 : decode (mb M_Mdl_settle) 173 = .ok (.ireturn, 1) := by decide +kernel
theorem d_Mdl_settle_174 : decode (mb M_Mdl_settle) 174 = .ok (.aload_n 0, 1) := by decide +kernel
theorem d_Mdl_settle_175 : decode (mb M_Mdl_settle) 175 = .ok (.invokevirtual 205, 3) := by decide +kernel
theorem d_Mdl_settle_178 : decode (mb M_Mdl_settle) 178 = .ok (.iconst 0, 1) := by decide +kernel
theorem d_Mdl_settle_179 : decode (mb M_Mdl_settle) 179 = .ok (.istore 9, 2) := by decide +kernel
theorem d_Mdl_settle_181 : decode (mb M_Mdl_settle) 181 = .ok (.aload_n 0, 1) := by decide +kernel
theorem d_Mdl_settle_182 : decode (mb M_Mdl_settle) 182 = .ok (.getfield 35, 3) := by decide +kernel
theorem d_Mdl_settle_185 : decode (mb M_Mdl_settle) 185 = .ok (.iload 9, 2) := by decide +kernel
theorem d_Mdl_settle_187 : decode (mb M_Mdl_settle) 187 = .ok (.iaload, 1) := by decide +kernel
theorem d_Mdl_settle_188 : decode (mb M_Mdl_settle) 188 = .ok (.iconst (-1), 1) := by decide +kernel
theorem d_Mdl_settle_189 : decode (mb M_Mdl_settle) 189 = .ok (.iload_n 1, 1) := by decide +kernel
theorem d_Mdl_settle_190 : decode (mb M_Mdl_settle) 190 = .ok (.isub, 1) := by decide +kernel
theorem d_Mdl_settle_191 : decode (mb M_Mdl_settle) 191 = .ok (.if_icmp .eq 9, 3) := by decide +kernel
theorem d_Mdl_settle_194 : decode (mb M_Mdl_settle) 194 = .ok (.iinc 9 1, 3) := by decide +kernel
theorem d_Mdl_settle_197 : decode (mb M_Mdl_settle) 197 = .ok (.goto (-16), 3) := by decide +kernel
theorem d_Mdl_settle_200 : decode (mb M_Mdl_settle) 200 = .ok (.aload_n 0, 1) := by decide +kernel
theorem d_Mdl_settle_201 : decode (mb M_Mdl_settle) 201 = .ok (.iload 9, 2) := by decide +kernel
theorem d_Mdl_settle_203 : decode (mb M_Mdl_settle) 203 = .ok (.invokevirtual 218, 3) := by decide +kernel
theorem d_Mdl_settle_206 : decode (mb M_Mdl_settle) 206 = .ok (.aload_n 0, 1) := by decide +kernel
theorem d_Mdl_settle_207 : decode (mb M_Mdl_settle) 207 = .ok (.iload 9, 2) := by decide +kernel
theorem d_Mdl_settle_209 : decode (mb M_Mdl_settle) 209 = .ok (.iconst 3, 1) := by decide +kernel
theorem d_Mdl_settle_210 : decode (mb M_Mdl_settle) 210 = .ok (.iload_n 1, 1) := by decide +kernel
theorem d_Mdl_settle_211 : decode (mb M_Mdl_settle) 211 = .ok (.imul, 1) := by decide +kernel
theorem d_Mdl_settle_212 : decode (mb M_Mdl_settle) 212 = .ok (.iload 5, 2) := by decide +kernel
theorem d_Mdl_settle_214 : decode (mb M_Mdl_settle) 214 = .ok (.iadd, 1) := by decide +kernel
theorem d_Mdl_settle_215 : decode (mb M_Mdl_settle) 215 = .ok (.invokevirtual 312, 3) := by decide +kernel
theorem d_Mdl_settle_218 : decode (mb M_Mdl_settle) 218 = .ok (.istore 9, 2) := by decide +kernel
theorem d_Mdl_settle_220 : decode (mb M_Mdl_settle) 220 = .ok (.iload 6, 2) := by decide +kernel
theorem d_Mdl_settle_222 : decode (mb M_Mdl_settle) 222 = .ok (.iconst (-1), 1) := by decide +kernel
theorem d_Mdl_settle_223 : decode (mb M_Mdl_settle) 223 = .ok (.if_icmp .eq 16, 3) := by decide +kernel
theorem d_Mdl_settle_226 : decode (mb M_Mdl_settle) 226 = .ok (.aload_n 0, 1) := by decide +kernel
theorem d_Mdl_settle_227 : decode (mb M_Mdl_settle) 227 = .ok (.iload 9, 2) := by decide +kernel
theorem d_Mdl_settle_229 : decode (mb M_Mdl_settle) 229 = .ok (.iconst 3, 1) := by decide +kernel
theorem d_Mdl_settle_230 : decode (mb M_Mdl_settle) 230 = .ok (.iload_n 1, 1) := by decide +kernel
theorem d_Mdl_settle_231 : decode (mb M_Mdl_settle) 231 = .ok (.imul, 1) := by decide +kernel
theorem d_Mdl_settle_232 : decode (mb M_Mdl_settle) 232 = .ok (.iload 6, 2) := by decide +kernel
theorem d_Mdl_settle_234 : decode (mb M_Mdl_settle) 234 = .ok (.iadd, 1) := by decide +kernel
theorem d_Mdl_settle_235 : decode (mb M_Mdl_settle) 235 = .ok (.invokevirtual 312, 3) := by decide +kernel
theorem d_Mdl_settle_238 : decode (mb M_Mdl_settle) 238 = .ok (.pop, 1) := by decide +kernel
theorem d_Mdl_settle_239 : decode (mb M_Mdl_settle) 239 = .ok (.aload_n 0, 1) := by decide +kernel
theorem d_Mdl_settle_240 : decode (mb M_Mdl_settle) 240 = .ok (.dup, 1) := by decide +kernel
theorem d_Mdl_settle_241 : decode (mb M_Mdl_settle) 241 = .ok (.getfield 188, 3) := by decide +kernel
theorem d_Mdl_settle_244 : decode (mb M_Mdl_settle) 244 = .ok (.iconst 1, 1) := by decide +kernel
theorem d_Mdl_settle_245 : decode (mb M_Mdl_settle) 245 = .ok (.iload_n 1, 1) := by decide +kernel
theorem d_Mdl_settle_246 : decode (mb M_Mdl_settle) 246 = .ok (.ishl, 1) := by decide +kernel
theorem d_Mdl_settle_247 : decode (mb M_Mdl_settle) 247 = .ok (.ior, 1) := by decide +kernel
theorem d_Mdl_settle_248 : decode (mb M_Mdl_settle) 248 = .ok (.putfield 188, 3) := by decide +kernel
theorem d_Mdl_settle_251 : decode (mb M_Mdl_settle) 251 = .ok (.aload_n 0, 1) := by decide +kernel
theorem d_Mdl_settle_252 : decode (mb M_Mdl_settle) 252 = .ok (.invokevirtual 315, 3) := by decide +kernel
theorem d_Mdl_settle_255 : decode (mb M_Mdl_settle) 255 = .ok (.ireturn, 1) := by decide +kernel
theorem d_Mdl_signAt_0 : decode (mb M_Mdl_signAt) 0 = .ok (.iload_n 2, 1) := by decide +kernel
theorem d_Mdl_signAt_1 : decode (mb M_Mdl_signAt) 1 = .ok (.bipush 7, 2) := by decide +kernel
theorem d_Mdl_signAt_3 : decode (mb M_Mdl_signAt) 3 = .ok (.if_icmp .le 7, 3) := by decide +kernel
theorem d_Mdl_signAt_6 : decode (mb M_Mdl_signAt) 6 = .ok (.iconst 0, 1) := by decide +kernel
theorem d_Mdl_signAt_7 : decode (mb M_Mdl_signAt) 7 = .ok (.goto 14, 3) := by decide +kernel
theorem d_Mdl_signAt_10 : decode (mb M_Mdl_signAt) 10 = .ok (.lload_n 0, 1) := by decide +kernel
theorem d_Mdl_signAt_11 : decode (mb M_Mdl_signAt) 11 = .ok (.bipush 8, 2) := by decide +kernel
theorem d_Mdl_signAt_13 : decode (mb M_Mdl_signAt) 13 = .ok (.iload_n 2, 1) := by decide +kernel
theorem d_Mdl_signAt_14 : decode (mb M_Mdl_signAt) 14 = .ok (.imul, 1) := by decide +kernel
theorem d_Mdl_signAt_15 : decode (mb M_Mdl_signAt) 15 = .ok (.lushr, 1) := by decide +kernel
theorem d_Mdl_signAt_16 : decode (mb M_Mdl_signAt) 16 = .ok (.ldc2_w 134, 3) := by decide +kernel
theorem d_Mdl_signAt_19 : decode (mb M_Mdl_signAt) 19 = .ok (.land, 1) := by decide +kernel
theorem d_Mdl_signAt_20 : decode (mb M_Mdl_signAt) 20 = .ok (.l2i, 1) := by decide +kernel
theorem d_Mdl_signAt_21 : decode (mb M_Mdl_signAt) 21 = .ok (.ireturn, 1) := by decide +kernel
theorem d_Mdl_since_0 : decode (mb M_Mdl_since) 0 = .ok (.aload_n 0, 1) := by decide +kernel
theorem d_Mdl_since_1 : decode (mb M_Mdl_since) 1 = .ok (.aload_n 0, 1) := by decide +kernel
theorem d_Mdl_since_2 : decode (mb M_Mdl_since) 2 = .ok (.iload_n 1, 1) := by decide +kernel
theorem d_Mdl_since_3 : decode (mb M_Mdl_since) 3 = .ok (.iload_n 2, 1) := by decide +kernel
theorem d_Mdl_since_4 : decode (mb M_Mdl_since) 4 = .ok (.invokevirtual 226, 3) := by decide +kernel
theorem d_Mdl_since_7 : decode (mb M_Mdl_since) 7 = .ok (.ifCond .eq 7, 3) := by decide +kernel
theorem d_Mdl_since_10 : decode (mb M_Mdl_since) 10 = .ok (.iconst 0, 1) := by decide +kernel
theorem d_Mdl_since_11 : decode (mb M_Mdl_since) 11 = .ok (.goto 4, 3) := by decide +kernel
theorem d_Mdl_since_14 : decode (mb M_Mdl_since) 14 = .ok (.iconst 1, 1) := by decide +kernel
theorem d_Mdl_since_15 : decode (mb M_Mdl_since) 15 = .ok (.invokevirtual 151, 3) := by decide +kernel
theorem d_Mdl_since_18 : decode (mb M_Mdl_since) 18 = .ok (.ifCond .eq 5, 3) := by decide +kernel
theorem d_Mdl_since_21 : decode (mb M_Mdl_since) 21 = .ok (.iconst 0, 1) := by decide +kernel
theorem d_Mdl_since_22 : decode (mb M_Mdl_since) 22 = .ok (.ireturn, 1) := by decide +kernel
theorem d_Mdl_since_23 : decode (mb M_Mdl_since) 23 = .ok (.iload_n 1, 1) := by decide +kernel
theorem d_Mdl_since_24 : decode (mb M_Mdl_since) 24 = .ok (.istore_n 3, 1) := by decide +kernel
theorem d_Mdl_since_25 : decode (mb M_Mdl_since) 25 = .ok (.aload_n 0, 1) := by decide +kernel
theorem d_Mdl_since_26 : decode (mb M_Mdl_since) 26 = .ok (.getfield 123, 3) := by decide +kernel
theorem d_Mdl_since_29 : decode (mb M_Mdl_since) 29 = .ok (.iconst 1, 1) := by decide +kernel
theorem d_Mdl_since_30 : decode (mb M_Mdl_since) 30 = .ok (.isub, 1) := by decide +kernel
theorem d_Mdl_since_31 : decode (mb M_Mdl_since) 31 = .ok (.istore 4, 2) := by decide +kernel
theorem d_Mdl_since_33 : decode (mb M_Mdl_since) 33 = .ok (.iload 4, 2) := by decide +kernel
theorem d_Mdl_since_35 : decode (mb M_Mdl_since) 35 = .ok (.ifCond .lt 64, 3) := by decide +kernel
theorem d_Mdl_since_38 : decode (mb M_Mdl_since) 38 = .ok (.iconst 0, 1) := by decide +kernel
theorem d_Mdl_since_39 : decode (mb M_Mdl_since) 39 = .ok (.istore 5, 2) := by decide +kernel
theorem d_Mdl_since_41 : decode (mb M_Mdl_since) 41 = .ok (.iload 5, 2) := by decide +kernel
theorem d_Mdl_since_43 : decode (mb M_Mdl_since) 43 = .ok (.aload_n 0, 1) := by decide +kernel
theorem d_Mdl_since_44 : decode (mb M_Mdl_since) 44 = .ok (.getfield 20, 3) := by decide +kernel
theorem d_Mdl_since_47 : decode (mb M_Mdl_since) 47 = .ok (.iload 4, 2) := by decide +kernel
theorem d_Mdl_since_49 : decode (mb M_Mdl_since) 49 = .ok (.iaload, 1) := by decide +kernel
theorem d_Mdl_since_50 : decode (mb M_Mdl_since) 50 = .ok (.if_icmp .ge 43, 3) := by decide +kernel
theorem d_Mdl_since_53 : decode (mb M_Mdl_since) 53 = .ok (.aload_n 0, 1) := by decide +kernel
theorem d_Mdl_since_54 : decode (mb M_Mdl_since) 54 = .ok (.getfield 23, 3) := by decide +kernel
theorem d_Mdl_since_57 : decode (mb M_Mdl_since) 57 = .ok (.bipush 20, 2) := by decide +kernel
theorem d_Mdl_since_59 : decode (mb M_Mdl_since) 59 = .ok (.iload 4, 2) := by decide +kernel
theorem d_Mdl_since_61 : decode (mb M_Mdl_since) 61 = .ok (.imul, 1) := by decide +kernel
theorem d_Mdl_since_62 : decode (mb M_Mdl_since) 62 = .ok (.iload 5, 2) := by decide +kernel
theorem d_Mdl_since_64 : decode (mb M_Mdl_since) 64 = .ok (.iadd, 1) := by decide +kernel
theorem d_Mdl_since_65 : decode (mb M_Mdl_since) 65 = .ok (.iaload, 1) := by decide +kernel
theorem d_Mdl_since_66 : decode (mb M_Mdl_since) 66 = .ok (.aload_n 0, 1) := by decide +kernel
theorem d_Mdl_since_67 : decode (mb M_Mdl_since) 67 = .ok (.getfield 23, 3) := by decide +kernel
theorem d_Mdl_since_70 : decode (mb M_Mdl_since) 70 = .ok (.bipush 20, 2) := by decide +kernel
theorem d_Mdl_since_72 : decode (mb M_Mdl_since) 72 = .ok (.iload_n 1, 1) := by decide +kernel
theorem d_Mdl_since_73 : decode (mb M_Mdl_since) 73 = .ok (.imul, 1) := by decide +kernel
theorem d_Mdl_since_74 : decode (mb M_Mdl_since) 74 = .ok (.iload_n 2, 1) := by decide +kernel
theorem d_Mdl_since_75 : decode (mb M_Mdl_since) 75 = .ok (.iadd, 1) := by decide +kernel
theorem d_Mdl_since_76 : decode (mb M_Mdl_since) 76 = .ok (.iaload, 1) := by decide +kernel
theorem d_Mdl_since_77 : decode (mb M_Mdl_since) 77 = .ok (.if_icmp .ne 8, 3) := by decide +kernel
theorem d_Mdl_since_80 : decode (mb M_Mdl_since) 80 = .ok (.iload 4, 2) := by decide +kernel
theorem d_Mdl_since_82 : decode (mb M_Mdl_since) 82 = .ok (.goto 4, 3) := by decide +kernel
theorem d_Mdl_since_85 : decode (mb M_Mdl_since) 85 = .ok (.iload_n 3, 1) := by decide +kernel
theorem d_Mdl_since_86 : decode (mb M_Mdl_since) 86 = .ok (.istore_n 3, 1) := by decide +kernel
theorem d_Mdl_since_87 : decode (mb M_Mdl_since) 87 = .ok (.iinc 5 1, 3) := by decide +kernel
theorem d_Mdl_since_90 : decode (mb M_Mdl_since) 90 = .ok (.goto (-49), 3) := by decide +kernel
theorem d_Mdl_since_93 : decode (mb M_Mdl_since) 93 = .ok (.iinc 4 (-1), 3) := by decide +kernel
theorem d_Mdl_since_96 : decode (mb M_Mdl_since) 96 = .ok (.goto (-63), 3) := by decide +kernel
theorem d_Mdl_since_99 : decode (mb M_Mdl_since) 99 = .ok (.iload_n 3, 1) := by decide +kernel
theorem d_Mdl_since_100 : decode (mb M_Mdl_since) 100 = .ok (.ireturn, 1) := by decide +kernel
theorem d_Mdl_stateOf_0 : decode (mb M_Mdl_stateOf) 0 = .ok (.iconst 0, 1) := by decide +kernel
theorem d_Mdl_stateOf_1 : decode (mb M_Mdl_stateOf) 1 = .ok (.istore_n 2, 1) := by decide +kernel
theorem d_Mdl_stateOf_2 : decode (mb M_Mdl_stateOf) 2 = .ok (.iconst 0, 1) := by decide +kernel
theorem d_Mdl_stateOf_3 : decode (mb M_Mdl_stateOf) 3 = .ok (.istore_n 3, 1) := by decide +kernel
theorem d_Mdl_stateOf_4 : decode (mb M_Mdl_stateOf) 4 = .ok (.iconst 0, 1) := by decide +kernel
theorem d_Mdl_stateOf_5 : decode (mb M_Mdl_stateOf) 5 = .ok (.istore 4, 2) := by decide +kernel
theorem d_Mdl_stateOf_7 : decode (mb M_Mdl_stateOf) 7 = .ok (.iload 4, 2) := by decide +kernel
theorem d_Mdl_stateOf_9 : decode (mb M_Mdl_stateOf) 9 = .ok (.bipush 6, 2) := by decide +kernel
theorem d_Mdl_stateOf_11 : decode (mb M_Mdl_stateOf) 11 = .ok (.if_icmp .ge 57, 3) := by decide +kernel
theorem d_Mdl_stateOf_14 : decode (mb M_Mdl_stateOf) 14 = .ok (.iload_n 2, 1) := by decide +kernel
theorem d_Mdl_stateOf_15 : decode (mb M_Mdl_stateOf) 15 = .ok (.aload_n 0, 1) := by decide +kernel
theorem d_Mdl_stateOf_16 : decode (mb M_Mdl_stateOf) 16 = .ok (.getfield 90, 3) := by decide +kernel
theorem d_Mdl_stateOf_19 : decode (mb M_Mdl_stateOf) 19 = .ok (.bipush 6, 2) := by decide +kernel
theorem d_Mdl_stateOf_21 : decode (mb M_Mdl_stateOf) 21 = .ok (.iload_n 1, 1) := by decide +kernel
theorem d_Mdl_stateOf_22 : decode (mb M_Mdl_stateOf) 22 = .ok (.imul, 1) := by decide +kernel
theorem d_Mdl_stateOf_23 : decode (mb M_Mdl_stateOf) 23 = .ok (.iload 4, 2) := by decide +kernel
theorem d_Mdl_stateOf_25 : decode (mb M_Mdl_stateOf) 25 = .ok (.iadd, 1) := by decide +kernel
theorem d_Mdl_stateOf_26 : decode (mb M_Mdl_stateOf) 26 = .ok (.iaload, 1) := by decide +kernel
theorem d_Mdl_stateOf_27 : decode (mb M_Mdl_stateOf) 27 = .ok (.iconst 1, 1) := by decide +kernel
theorem d_Mdl_stateOf_28 : decode (mb M_Mdl_stateOf) 28 = .ok (.if_icmp .ne 7, 3) := by decide +kernel
theorem d_Mdl_stateOf_31 : decode (mb M_Mdl_stateOf) 31 = .ok (.iconst 1, 1) := by decide +kernel
theorem d_Mdl_stateOf_32 : decode (mb M_Mdl_stateOf) 32 = .ok (.goto 4, 3) := by decide +kernel
theorem d_Mdl_stateOf_35 : decode (mb M_Mdl_stateOf) 35 = .ok (.iconst 0, 1) := by decide +kernel
theorem d_Mdl_stateOf_36 : decode (mb M_Mdl_stateOf) 36 = .ok (.iadd, 1) := by decide +kernel
theorem d_Mdl_stateOf_37 : decode (mb M_Mdl_stateOf) 37 = .ok (.istore_n 2, 1) := by decide +kernel
theorem d_Mdl_stateOf_38 : decode (mb M_Mdl_stateOf) 38 = .ok (.iload_n 3, 1) := by decide +kernel
theorem d_Mdl_stateOf_39 : decode (mb M_Mdl_stateOf) 39 = .ok (.aload_n 0, 1) := by decide +kernel
theorem d_Mdl_stateOf_40 : decode (mb M_Mdl_stateOf) 40 = .ok (.getfield 90, 3) := by decide +kernel
theorem d_Mdl_stateOf_43 : decode (mb M_Mdl_stateOf) 43 = .ok (.bipush 6, 2) := by decide +kernel
theorem d_Mdl_stateOf_45 : decode (mb M_Mdl_stateOf) 45 = .ok (.iload_n 1, 1) := by decide +kernel
theorem d_Mdl_stateOf_46 : decode (mb M_Mdl_stateOf) 46 = .ok (.imul, 1) := by decide +kernel
theorem d_Mdl_stateOf_47 : decode (mb M_Mdl_stateOf) 47 = .ok (.iload 4, 2) := by decide +kernel
theorem d_Mdl_stateOf_49 : decode (mb M_Mdl_stateOf) 49 = .ok (.iadd, 1) := by decide +kernel
theorem d_Mdl_stateOf_50 : decode (mb M_Mdl_stateOf) 50 = .ok (.iaload, 1) := by decide +kernel
theorem d_Mdl_stateOf_51 : decode (mb M_Mdl_stateOf) 51 = .ok (.iconst 2, 1) := by decide +kernel
theorem d_Mdl_stateOf_52 : decode (mb M_Mdl_stateOf) 52 = .ok (.if_icmp .ne 7, 3) := by decide +kernel
theorem d_Mdl_stateOf_55 : decode (mb M_Mdl_stateOf) 55 = .ok (.iconst 1, 1) := by decide +kernel
theorem d_Mdl_stateOf_56 : decode (mb M_Mdl_stateOf) 56 = .ok (.goto 4, 3) := by decide +kernel
theorem d_Mdl_stateOf_59 : decode (mb M_Mdl_stateOf) 59 = .ok (.iconst 0, 1) := by decide +kernel
theorem d_Mdl_stateOf_60 : decode (mb M_Mdl_stateOf) 60 = .ok (.iadd, 1) := by decide +kernel
theorem d_Mdl_stateOf_61 : decode (mb M_Mdl_stateOf) 61 = .ok (.istore_n 3, 1) := by decide +kernel
theorem d_Mdl_stateOf_62 : decode (mb M_Mdl_stateOf) 62 = .ok (.iinc 4 1, 3) := by decide +kernel
theorem d_Mdl_stateOf_65 : decode (mb M_Mdl_stateOf) 65 = .ok (.goto (-58), 3) := by decide +kernel
theorem d_Mdl_stateOf_68 : decode (mb M_Mdl_stateOf) 68 = .ok (.aload_n 0, 1) := by decide +kernel
theorem d_Mdl_stateOf_69 : decode (mb M_Mdl_stateOf) 69 = .ok (.getfield 86, 3) := by decide +kernel
theorem d_Mdl_stateOf_72 : decode (mb M_Mdl_stateOf) 72 = .ok (.iload_n 1, 1) := by decide +kernel
theorem d_Mdl_stateOf_73 : decode (mb M_Mdl_stateOf) 73 = .ok (.baload, 1) := by decide +kernel
theorem d_Mdl_stateOf_74 : decode (mb M_Mdl_stateOf) 74 = .ok (.ifCond .eq 7, 3) := by decide +kernel
theorem d_Mdl_stateOf_77 : decode (mb M_Mdl_stateOf) 77 = .ok (.iconst 2, 1) := by decide +kernel
theorem d_Mdl_stateOf_78 : decode (mb M_Mdl_stateOf) 78 = .ok (.goto 17, 3) := by decide +kernel
theorem d_Mdl_stateOf_81 : decode (mb M_Mdl_stateOf) 81 = .ok (.iload_n 2, 1) := by decide +kernel
theorem d_Mdl_stateOf_82 : decode (mb M_Mdl_stateOf) 82 = .ok (.iconst 1, 1) := by decide +kernel
theorem d_Mdl_stateOf_83 : decode (mb M_Mdl_stateOf) 83 = .ok (.if_icmp .le 11, 3) := by decide +kernel
theorem d_Mdl_stateOf_86 : decode (mb M_Mdl_stateOf) 86 = .ok (.iload_n 3, 1) := by decide +kernel
theorem d_Mdl_stateOf_87 : decode (mb M_Mdl_stateOf) 87 = .ok (.ifCond .ne 7, 3) := by decide +kernel
theorem d_Mdl_stateOf_90 : decode (mb M_Mdl_stateOf) 90 = .ok (.iconst 1, 1) := by decide +kernel
theorem d_Mdl_stateOf_91 : decode (mb M_Mdl_stateOf) 91 = .ok (.goto 4, 3) := by decide +kernel
theorem d_Mdl_stateOf_94 : decode (mb M_Mdl_stateOf) 94 = .ok (.iconst 0, 1) := by decide +kernel
theorem d_Mdl_stateOf_95 : decode (mb M_Mdl_stateOf) 95 = .ok (.ireturn, 1) := by decide +kernel
theorem d_Mdl_takeAt_0 : decode (mb M_Mdl_takeAt) 0 = .ok (.iload_n 1, 1) := by decide +kernel
theorem d_Mdl_takeAt_1 : decode (mb M_Mdl_takeAt) 1 = .ok (.istore_n 2, 1) := by decide +kernel
theorem d_Mdl_takeAt_2 : decode (mb M_Mdl_takeAt) 2 = .ok (.iload_n 2, 1) := by decide +kernel
theorem d_Mdl_takeAt_3 : decode (mb M_Mdl_takeAt) 3 = .ok (.aload_n 0, 1) := by decide +kernel
theorem d_Mdl_takeAt_4 : decode (mb M_Mdl_takeAt) 4 = .ok (.getfield 194, 3) := by decide +kernel
theorem d_Mdl_takeAt_7 : decode (mb M_Mdl_takeAt) 7 = .ok (.iconst 1, 1) := by decide +kernel
theorem d_Mdl_takeAt_8 : decode (mb M_Mdl_takeAt) 8 = .ok (.isub, 1) := by decide +kernel
theorem d_Mdl_takeAt_9 : decode (mb M_Mdl_takeAt) 9 = .ok (.if_icmp .ge 23, 3) := by decide +kernel
theorem d_Mdl_takeAt_12 : decode (mb M_Mdl_takeAt) 12 = .ok (.aload_n 0, 1) := by decide +kernel
theorem d_Mdl_takeAt_13 : decode (mb M_Mdl_takeAt) 13 = .ok (.getfield 35, 3) := by decide +kernel
theorem d_Mdl_takeAt_16 : decode (mb M_Mdl_takeAt) 16 = .ok (.iload_n 2, 1) := by decide +kernel
theorem d_Mdl_takeAt_17 : decode (mb M_Mdl_takeAt) 17 = .ok (.aload_n 0, 1) := by decide +kernel
theorem d_Mdl_takeAt_18 : decode (mb M_Mdl_takeAt) 18 = .ok (.getfield 35, 3) := by decide +kernel
theorem d_Mdl_takeAt_21 : decode (mb M_Mdl_takeAt) 21 = .ok (.iload_n 2, 1) := by decide +kernel
theorem d_Mdl_takeAt_22 : decode (mb M_Mdl_takeAt) 22 = .ok (.iconst 1, 1) := by decide +kernel
theorem d_Mdl_takeAt_23 : decode (mb M_Mdl_takeAt) 23 = .ok (.iadd, 1) := by decide +kernel
theorem d_Mdl_takeAt_24 : decode (mb M_Mdl_takeAt) 24 = .ok (.iaload, 1) := by decide +kernel
theorem d_Mdl_takeAt_25 : decode (mb M_Mdl_takeAt) 25 = .ok (.iastore, 1) := by decide +kernel
theorem d_Mdl_takeAt_26 : decode (mb M_Mdl_takeAt) 26 = .ok (.iinc 2 1, 3) := by decide +kernel
theorem d_Mdl_takeAt_29 : decode (mb M_Mdl_takeAt) 29 = .ok (.goto (-27), 3) := by decide +kernel
theorem d_Mdl_takeAt_32 : decode (mb M_Mdl_takeAt) 32 = .ok (.aload_n 0, 1) := by decide +kernel
theorem d_Mdl_takeAt_33 : decode (mb M_Mdl_takeAt) 33 = .ok (.dup, 1) := by decide +kernel
theorem d_Mdl_takeAt_34 : decode (mb M_Mdl_takeAt) 34 = .ok (.getfield 194, 3) := by decide +kernel
theorem d_Mdl_takeAt_37 : decode (mb M_Mdl_takeAt) 37 = .ok (.iconst 1, 1) := by decide +kernel
theorem d_Mdl_takeAt_38 : decode (mb M_Mdl_takeAt) 38 = .ok (.isub, 1) := by decide +kernel
theorem d_Mdl_takeAt_39 : decode (mb M_Mdl_takeAt) 39 = .ok (.putfield 194, 3) := by decide +kernel
theorem d_Mdl_takeAt_42 : decode (mb M_Mdl_takeAt) 42 = .ok (.return_, 1) := by decide +kernel
theorem d_Mdl_thrown_0 : decode (mb M_Mdl_thrown) 0 = .ok (.aload_n 0, 1) := by decide +kernel
theorem d_Mdl_thrown_1 : decode (mb M_Mdl_thrown) 1 = .ok (.getfield 127, 3) := by decide +kernel
theorem d_Mdl_thrown_4 : decode (mb M_Mdl_thrown) 4 = .ok (.ireturn, 1) := by decide +kernel
theorem d_Mdl_treeCost_0 : decode (mb M_Mdl_treeCost) 0 = .ok (.aload_n 0, 1) := by decide +kernel
theorem d_Mdl_treeCost_1 : decode (mb M_Mdl_treeCost) 1 = .ok (.aload_n 0, 1) := by decide +kernel
theorem d_Mdl_treeCost_2 : decode (mb M_Mdl_treeCost) 2 = .ok (.iload_n 1, 1) := by decide +kernel
theorem d_Mdl_treeCost_3 : decode (mb M_Mdl_treeCost) 3 = .ok (.invokevirtual 172, 3) := by decide +kernel
theorem d_Mdl_treeCost_6 : decode (mb M_Mdl_treeCost) 6 = .ok (.ifCond .eq 15, 3) := by decide +kernel
theorem d_Mdl_treeCost_9 : decode (mb M_Mdl_treeCost) 9 = .ok (.aload_n 0, 1) := by decide +kernel
theorem d_Mdl_treeCost_10 : decode (mb M_Mdl_treeCost) 10 = .ok (.iload_n 2, 1) := by decide +kernel
theorem d_Mdl_treeCost_11 : decode (mb M_Mdl_treeCost) 11 = .ok (.invokevirtual 172, 3) := by decide +kernel
theorem d_Mdl_treeCost_14 : decode (mb M_Mdl_treeCost) 14 = .ok (.ifCond .eq 7, 3) := by decide +kernel
theorem d_Mdl_treeCost_17 : decode (mb M_Mdl_treeCost) 17 = .ok (.iconst 0, 1) := by decide +kernel
theorem d_Mdl_treeCost_18 : decode (mb M_Mdl_treeCost) 18 = .ok (.goto 4, 3) := by decide +kernel
theorem d_Mdl_treeCost_21 : decode (mb M_Mdl_treeCost) 21 = .ok (.iconst 1, 1) := by decide +kernel
theorem d_Mdl_treeCost_22 : decode (mb M_Mdl_treeCost) 22 = .ok (.invokevirtual 151, 3) := by decide +kernel
theorem d_Mdl_treeCost_25 : decode (mb M_Mdl_treeCost) 25 = .ok (.ifCond .eq 5, 3) := by decide +kernel
theorem d_Mdl_treeCost_28 : decode (mb M_Mdl_treeCost) 28 = .ok (.iconst 0, 1) := by decide +kernel
theorem d_Mdl_treeCost_29 : decode (mb M_Mdl_treeCost) 29 = .ok (.ireturn, 1) := by decide +kernel
theorem d_Mdl_treeCost_30 : decode (mb M_Mdl_treeCost) 30 = .ok (.aload_n 0, 1) := by decide +kernel
theorem d_Mdl_treeCost_31 : decode (mb M_Mdl_treeCost) 31 = .ok (.iconst 0, 1) := by decide +kernel
theorem d_Mdl_treeCost_32 : decode (mb M_Mdl_treeCost) 32 = .ok (.iload_n 1, 1) := by decide +kernel
theorem d_Mdl_treeCost_33 : decode (mb M_Mdl_treeCost) 33 = .ok (.invokevirtual 282, 3) := by decide +kernel
theorem d_Mdl_treeCost_36 : decode (mb M_Mdl_treeCost) 36 = .ok (.aload_n 0, 1) := by decide +kernel
theorem d_Mdl_treeCost_37 : decode (mb M_Mdl_treeCost) 37 = .ok (.iconst 1, 1) := by decide +kernel
theorem d_Mdl_treeCost_38 : decode (mb M_Mdl_treeCost) 38 = .ok (.iload_n 2, 1) := by decide +kernel
theorem d_Mdl_treeCost_39 : decode (mb M_Mdl_treeCost) 39 = .ok (.invokevirtual 282, 3) := by decide +kernel
theorem d_Mdl_treeCost_42 : decode (mb M_Mdl_treeCost) 42 = .ok (.aload_n 0, 1) := by decide +kernel
theorem d_Mdl_treeCost_43 : decode (mb M_Mdl_treeCost) 43 = .ok (.getfield 20, 3) := by decide +kernel
theorem d_Mdl_treeCost_46 : decode (mb M_Mdl_treeCost) 46 = .ok (.iload_n 1, 1) := by decide +kernel
theorem d_Mdl_treeCost_47 : decode (mb M_Mdl_treeCost) 47 = .ok (.iaload, 1) := by decide +kernel
theorem d_Mdl_treeCost_48 : decode (mb M_Mdl_treeCost) 48 = .ok (.iconst 1, 1) := by decide +kernel
theorem d_Mdl_treeCost_49 : decode (mb M_Mdl_treeCost) 49 = .ok (.iadd, 1) := by decide +kernel
theorem d_Mdl_treeCost_50 : decode (mb M_Mdl_treeCost) 50 = .ok (.istore_n 3, 1) := by decide +kernel
theorem d_Mdl_treeCost_51 : decode (mb M_Mdl_treeCost) 51 = .ok (.aload_n 0, 1) := by decide +kernel
theorem d_Mdl_treeCost_52 : decode (mb M_Mdl_treeCost) 52 = .ok (.getfield 20, 3) := by decide +kernel
theorem d_Mdl_treeCost_55 : decode (mb M_Mdl_treeCost) 55 = .ok (.iload_n 2, 1) := by decide +kernel
theorem d_Mdl_treeCost_56 : decode (mb M_Mdl_treeCost) 56 = .ok (.iaload, 1) := by decide +kernel
theorem d_Mdl_treeCost_57 : decode (mb M_Mdl_treeCost) 57 = .ok (.iconst 1, 1) := by decide +kernel
theorem d_Mdl_treeCost_58 : decode (mb M_Mdl_treeCost) 58 = .ok (.iadd, 1) := by decide +kernel
theorem d_Mdl_treeCost_59 : decode (mb M_Mdl_treeCost) 59 = .ok (.istore 4, 2) := by decide +kernel
theorem d_Mdl_treeCost_61 : decode (mb M_Mdl_treeCost) 61 = .ok (.iconst 1, 1) := by decide +kernel
theorem d_Mdl_treeCost_62 : decode (mb M_Mdl_treeCost) 62 = .ok (.istore 5, 2) := by decide +kernel
theorem d_Mdl_treeCost_64 : decode (mb M_Mdl_treeCost) 64 = .ok (.iload 5, 2) := by decide +kernel
theorem d_Mdl_treeCost_66 : decode (mb M_Mdl_treeCost) 66 = .ok (.iload_n 3, 1) := by decide +kernel
theorem d_Mdl_treeCost_67 : decode (mb M_Mdl_treeCost) 67 = .ok (.if_icmp .gt 56, 3) := by decide +kernel
theorem d_Mdl_treeCost_70 : decode (mb M_Mdl_treeCost) 70 = .ok (.iconst 1, 1) := by decide +kernel
theorem d_Mdl_treeCost_71 : decode (mb M_Mdl_treeCost) 71 = .ok (.istore 6, 2) := by decide +kernel
theorem d_Mdl_treeCost_73 : decode (mb M_Mdl_treeCost) 73 = .ok (.iload 6, 2) := by decide +kernel
theorem d_Mdl_treeCost_75 : decode (mb M_Mdl_treeCost) 75 = .ok (.iload 4, 2) := by decide +kernel
theorem d_Mdl_treeCost_77 : decode (mb M_Mdl_treeCost) 77 = .ok (.if_icmp .gt 40, 3) := by decide +kernel
theorem d_Mdl_treeCost_80 : decode (mb M_Mdl_treeCost) 80 = .ok (.aload_n 0, 1) := by decide +kernel
theorem d_Mdl_treeCost_81 : decode (mb M_Mdl_treeCost) 81 = .ok (.iconst 0, 1) := by decide +kernel
theorem d_Mdl_treeCost_82 : decode (mb M_Mdl_treeCost) 82 = .ok (.iload 5, 2) := by decide +kernel
theorem d_Mdl_treeCost_84 : decode (mb M_Mdl_treeCost) 84 = .ok (.iload_n 3, 1) := by decide +kernel
theorem d_Mdl_treeCost_85 : decode (mb M_Mdl_treeCost) 85 = .ok (.invokevirtual 285, 3) := by decide +kernel
theorem d_Mdl_treeCost_88 : decode (mb M_Mdl_treeCost) 88 = .ok (.ifCond .eq 23, 3) := by decide +kernel
theorem d_Mdl_treeCost_91 : decode (mb M_Mdl_treeCost) 91 = .ok (.aload_n 0, 1) := by decide +kernel
theorem d_Mdl_treeCost_92 : decode (mb M_Mdl_treeCost) 92 = .ok (.iconst 1, 1) := by decide +kernel
theorem d_Mdl_treeCost_93 : decode (mb M_Mdl_treeCost) 93 = .ok (.iload 6, 2) := by decide +kernel
theorem d_Mdl_treeCost_95 : decode (mb M_Mdl_treeCost) 95 = .ok (.iload 4, 2) := by decide +kernel
theorem d_Mdl_treeCost_97 : decode (mb M_Mdl_treeCost) 97 = .ok (.invokevirtual 285, 3) := by decide +kernel
theorem d_Mdl_treeCost_100 : decode (mb M_Mdl_treeCost) 100 = .ok (.ifCond .eq 11, 3) := by decide +kernel
theorem d_Mdl_treeCost_103 : decode (mb M_Mdl_treeCost) 103 = .ok (.aload_n 0, 1) := by decide +kernel
theorem d_Mdl_treeCost_104 : decode (mb M_Mdl_treeCost) 104 = .ok (.iload 5, 2) := by decide +kernel
theorem d_Mdl_treeCost_106 : decode (mb M_Mdl_treeCost) 106 = .ok (.iload 6, 2) := by decide +kernel
theorem d_Mdl_treeCost_108 : decode (mb M_Mdl_treeCost) 108 = .ok (.invokevirtual 288, 3) := by decide +kernel
theorem d_Mdl_treeCost_111 : decode (mb M_Mdl_treeCost) 111 = .ok (.iinc 6 1, 3) := by decide +kernel
theorem d_Mdl_treeCost_114 : decode (mb M_Mdl_treeCost) 114 = .ok (.goto (-41), 3) := by decide +kernel
theorem d_Mdl_treeCost_117 : decode (mb M_Mdl_treeCost) 117 = .ok (.iinc 5 1, 3) := by decide +kernel
theorem d_Mdl_treeCost_120 : decode (mb M_Mdl_treeCost) 120 = .ok (.goto (-56), 3) := by decide +kernel
theorem d_Mdl_treeCost_123 : decode (mb M_Mdl_treeCost) 123 = .ok (.aload_n 0, 1) := by decide +kernel
theorem d_Mdl_treeCost_124 : decode (mb M_Mdl_treeCost) 124 = .ok (.getfield 114, 3) := by decide +kernel
theorem d_Mdl_treeCost_127 : decode (mb M_Mdl_treeCost) 127 = .ok (.bipush 22, 2) := by decide +kernel
theorem d_Mdl_treeCost_129 : decode (mb M_Mdl_treeCost) 129 = .ok (.iload_n 3, 1) := by decide +kernel
theorem d_Mdl_treeCost_130 : decode (mb M_Mdl_treeCost) 130 = .ok (.imul, 1) := by decide +kernel
theorem d_Mdl_treeCost_131 : decode (mb M_Mdl_treeCost) 131 = .ok (.iload 4, 2) := by decide +kernel
theorem d_Mdl_treeCost_133 : decode (mb M_Mdl_treeCost) 133 = .ok (.iadd, 1) := by decide +kernel
theorem d_Mdl_treeCost_134 : decode (mb M_Mdl_treeCost) 134 = .ok (.iaload, 1) := by decide +kernel
theorem d_Mdl_treeCost_135 : decode (mb M_Mdl_treeCost) 135 = .ok (.ireturn, 1) := by decide +kernel
theorem d_Mdl_turn_0 : decode (mb M_Mdl_turn) 0 = .ok (.aload_n 0, 1) := by decide +kernel
theorem d_Mdl_turn_1 : decode (mb M_Mdl_turn) 1 = .ok (.aload_n 0, 1) := by decide +kernel
theorem d_Mdl_turn_2 : decode (mb M_Mdl_turn) 2 = .ok (.iload_n 1, 1) := by decide +kernel
theorem d_Mdl_turn_3 : decode (mb M_Mdl_turn) 3 = .ok (.invokevirtual 324, 3) := by decide +kernel
theorem d_Mdl_turn_6 : decode (mb M_Mdl_turn) 6 = .ok (.ifCond .ne 7, 3) := by decide +kernel
theorem d_Mdl_turn_9 : decode (mb M_Mdl_turn) 9 = .ok (.iconst 1, 1) := by decide +kernel
theorem d_Mdl_turn_10 : decode (mb M_Mdl_turn) 10 = .ok (.goto 17, 3) := by decide +kernel
theorem d_Mdl_turn_13 : decode (mb M_Mdl_turn) 13 = .ok (.aload_n 0, 1) := by decide +kernel
theorem d_Mdl_turn_14 : decode (mb M_Mdl_turn) 14 = .ok (.getfield 317, 3) := by decide +kernel
theorem d_Mdl_turn_17 : decode (mb M_Mdl_turn) 17 = .ok (.bipush 10, 2) := by decide +kernel
theorem d_Mdl_turn_19 : decode (mb M_Mdl_turn) 19 = .ok (.if_icmp .ne 7, 3) := by decide +kernel
theorem d_Mdl_turn_22 : decode (mb M_Mdl_turn) 22 = .ok (.iconst 2, 1) := by decide +kernel
theorem d_Mdl_turn_23 : decode (mb M_Mdl_turn) 23 = .ok (.goto 4, 3) := by decide +kernel
theorem d_Mdl_turn_26 : decode (mb M_Mdl_turn) 26 = .ok (.iconst 0, 1) := by decide +kernel
theorem d_Mdl_turn_27 : decode (mb M_Mdl_turn) 27 = .ok (.invokevirtual 151, 3) := by decide +kernel
theorem d_Mdl_turn_30 : decode (mb M_Mdl_turn) 30 = .ok (.ifCond .eq 5, 3) := by decide +kernel
theorem d_Mdl_turn_33 : decode (mb M_Mdl_turn) 33 = .ok (.iconst 0, 1) := by decide +kernel
theorem d_Mdl_turn_34 : decode (mb M_Mdl_turn) 34 = .ok (.ireturn, 1) := by decide +kernel
theorem d_Mdl_turn_35 : decode (mb M_Mdl_turn) 35 = .ok (.aload_n 0, 1) := by decide +kernel
theorem d_Mdl_turn_36 : decode (mb M_Mdl_turn) 36 = .ok (.getfield 59, 3) := by decide +kernel
theorem d_Mdl_turn_39 : decode (mb M_Mdl_turn) 39 = .ok (.aload_n 0, 1) := by decide +kernel
theorem d_Mdl_turn_40 : decode (mb M_Mdl_turn) 40 = .ok (.getfield 317, 3) := by decide +kernel
theorem d_Mdl_turn_43 : decode (mb M_Mdl_turn) 43 = .ok (.aload_n 0, 1) := by decide +kernel
theorem d_Mdl_turn_44 : decode (mb M_Mdl_turn) 44 = .ok (.getfield 59, 3) := by decide +kernel
theorem d_Mdl_turn_47 : decode (mb M_Mdl_turn) 47 = .ok (.iload_n 1, 1) := by decide +kernel
theorem d_Mdl_turn_48 : decode (mb M_Mdl_turn) 48 = .ok (.iaload, 1) := by decide +kernel
theorem d_Mdl_turn_49 : decode (mb M_Mdl_turn) 49 = .ok (.iastore, 1) := by decide +kernel
theorem d_Mdl_turn_50 : decode (mb M_Mdl_turn) 50 = .ok (.iconst 0, 1) := by decide +kernel
theorem d_Mdl_turn_51 : decode (mb M_Mdl_turn) 51 = .ok (.istore_n 2, 1) := by decide +kernel
theorem d_Mdl_turn_52 : decode (mb M_Mdl_turn) 52 = .ok (.iload_n 2, 1) := by decide +kernel
theorem d_Mdl_turn_53 : decode (mb M_Mdl_turn) 53 = .ok (.aload_n 0, 1) := by decide +kernel
theorem d_Mdl_turn_54 : decode (mb M_Mdl_turn) 54 = .ok (.getfield 59, 3) := by decide +kernel
theorem d_Mdl_turn_57 : decode (mb M_Mdl_turn) 57 = .ok (.iload_n 1, 1) := by decide +kernel
theorem d_Mdl_turn_58 : decode (mb M_Mdl_turn) 58 = .ok (.iaload, 1) := by decide +kernel
theorem d_Mdl_turn_59 : decode (mb M_Mdl_turn) 59 = .ok (.if_icmp .ge 246, 3) := by decide +kernel
theorem d_Mdl_turn_62 : decode (mb M_Mdl_turn) 62 = .ok (.bipush 21, 2) := by decide +kernel
theorem d_Mdl_turn_64 : decode (mb M_Mdl_turn) 64 = .ok (.iload_n 1, 1) := by decide +kernel
theorem d_Mdl_turn_65 : decode (mb M_Mdl_turn) 65 = .ok (.imul, 1) := by decide +kernel
theorem d_Mdl_turn_66 : decode (mb M_Mdl_turn) 66 = .ok (.iload_n 2, 1) := by decide +kernel
theorem d_Mdl_turn_67 : decode (mb M_Mdl_turn) 67 = .ok (.iadd, 1) := by decide +kernel
theorem d_Mdl_turn_68 : decode (mb M_Mdl_turn) 68 = .ok (.istore_n 3, 1) := by decide +kernel
theorem d_Mdl_turn_69 : decode (mb M_Mdl_turn) 69 = .ok (.bipush 21, 2) := by decide +kernel
theorem d_Mdl_turn_71 : decode (mb M_Mdl_turn) 71 = .ok (.aload_n 0, 1) := by decide +kernel
theorem d_Mdl_turn_72 : decode (mb M_Mdl_turn) 72 = .ok (.getfield 317, 3) := by decide +kernel
theorem d_Mdl_turn_75 : decode (mb M_Mdl_turn) 75 = .ok (.imul, 1) := by decide +kernel
theorem d_Mdl_turn_76 : decode (mb M_Mdl_turn) 76 = .ok (.iload_n 2, 1) := by decide +kernel
theorem d_Mdl_turn_77 : decode (mb M_Mdl_turn) 77 = .ok (.iadd, 1) := by decide +kernel
theorem d_Mdl_turn_78 : decode (mb M_Mdl_turn) 78 = .ok (.istore 4, 2) := by decide +kernel
theorem d_Mdl_turn_80 : decode (mb M_Mdl_turn) 80 = .ok (.aload_n 0, 1) := by decide +kernel
theorem d_Mdl_turn_81 : decode (mb M_Mdl_turn) 81 = .ok (.getfield 62, 3) := by decide +kernel
theorem d_Mdl_turn_84 : decode (mb M_Mdl_turn) 84 = .ok (.iload 4, 2) := by decide +kernel
theorem d_Mdl_turn_86 : decode (mb M_Mdl_turn) 86 = .ok (.aload_n 0, 1) := by decide +kernel
theorem d_Mdl_turn_87 : decode (mb M_Mdl_turn) 87 = .ok (.getfield 65, 3) := by decide +kernel
theorem d_Mdl_turn_90 : decode (mb M_Mdl_turn) 90 = .ok (.iload_n 3, 1) := by decide +kernel
theorem d_Mdl_turn_91 : decode (mb M_Mdl_turn) 91 = .ok (.iaload, 1) := by decide +kernel
theorem d_Mdl_turn_92 : decode (mb M_Mdl_turn) 92 = .ok (.iastore, 1) := by decide +kernel
theorem d_Mdl_turn_93 : decode (mb M_Mdl_turn) 93 = .ok (.aload_n 0, 1) := by decide +kernel
theorem d_Mdl_turn_94 : decode (mb M_Mdl_turn) 94 = .ok (.getfield 65, 3) := by decide +kernel
theorem d_Mdl_turn_97 : decode (mb M_Mdl_turn) 97 = .ok (.iload 4, 2) := by decide +kernel
theorem d_Mdl_turn_99 : decode (mb M_Mdl_turn) 99 = .ok (.aload_n 0, 1) := by decide +kernel
theorem d_Mdl_turn_100 : decode (mb M_Mdl_turn) 100 = .ok (.getfield 62, 3) := by decide +kernel
theorem d_Mdl_turn_103 : decode (mb M_Mdl_turn) 103 = .ok (.iload_n 3, 1) := by decide +kernel
theorem d_Mdl_turn_104 : decode (mb M_Mdl_turn) 104 = .ok (.iaload, 1) := by decide +kernel
theorem d_Mdl_turn_105 : decode (mb M_Mdl_turn) 105 = .ok (.iastore, 1) := by decide +kernel
theorem d_Mdl_turn_106 : decode (mb M_Mdl_turn) 106 = .ok (.aload_n 0, 1) := by decide +kernel
theorem d_Mdl_turn_107 : decode (mb M_Mdl_turn) 107 = .ok (.getfield 68, 3) := by decide +kernel
theorem d_Mdl_turn_110 : decode (mb M_Mdl_turn) 110 = .ok (.iconst 4, 1) := by decide +kernel
theorem d_Mdl_turn_111 : decode (mb M_Mdl_turn) 111 = .ok (.iload 4, 2) := by decide +kernel
theorem d_Mdl_turn_113 : decode (mb M_Mdl_turn) 113 = .ok (.imul, 1) := by decide +kernel
theorem d_Mdl_turn_114 : decode (mb M_Mdl_turn) 114 = .ok (.aload_n 0, 1) := by decide +kernel
theorem d_Mdl_turn_115 : decode (mb M_Mdl_turn) 115 = .ok (.getfield 68, 3) := by decide +kernel
theorem d_Mdl_turn_118 : decode (mb M_Mdl_turn) 118 = .ok (.iconst 4, 1) := by decide +kernel
theorem d_Mdl_turn_119 : decode (mb M_Mdl_turn) 119 = .ok (.iload_n 3, 1) := by decide +kernel
theorem d_Mdl_turn_120 : decode (mb M_Mdl_turn) 120 = .ok (.imul, 1) := by decide +kernel
theorem d_Mdl_turn_121 : decode (mb M_Mdl_turn) 121 = .ok (.iconst 1, 1) := by decide +kernel
theorem d_Mdl_turn_122 : decode (mb M_Mdl_turn) 122 = .ok (.iadd, 1) := by decide +kernel
theorem d_Mdl_turn_123 : decode (mb M_Mdl_turn) 123 = .ok (.iaload, 1) := by decide +kernel
theorem d_Mdl_turn_124 : decode (mb M_Mdl_turn) 124 = .ok (.iastore, 1) := by decide +kernel
theorem d_Mdl_turn_125 : decode (mb M_Mdl_turn) 125 = .ok (.aload_n 0, 1) := by decide +kernel
theorem d_Mdl_turn_126 : decode (mb M_Mdl_turn) 126 = .ok (.getfield 68, 3) := by decide +kernel
theorem d_Mdl_turn_129 : decode (mb M_Mdl_turn) 129 = .ok (.iconst 4, 1) := by decide +kernel
theorem d_Mdl_turn_130 : decode (mb M_Mdl_turn) 130 = .ok (.iload 4, 2) := by decide +kernel
theorem d_Mdl_turn_132 : decode (mb M_Mdl_turn) 132 = .ok (.imul, 1) := by decide +kernel
theorem d_Mdl_turn_133 : decode (mb M_Mdl_turn) 133 = .ok (.iconst 1, 1) := by decide +kernel
theorem d_Mdl_turn_134 : decode (mb M_Mdl_turn) 134 = .ok (.iadd, 1) := by decide +kernel
theorem d_Mdl_turn_135 : decode (mb M_Mdl_turn) 135 = .ok (.aload_n 0, 1) := by decide +kernel
theorem d_Mdl_turn_136 : decode (mb M_Mdl_turn) 136 = .ok (.getfield 68, 3) := by decide +kernel
theorem d_Mdl_turn_139 : decode (mb M_Mdl_turn) 139 = .ok (.iconst 4, 1) := by decide +kernel
theorem d_Mdl_turn_140 : decode (mb M_Mdl_turn) 140 = .ok (.iload_n 3, 1) := by decide +kernel
theorem d_Mdl_turn_141 : decode (mb M_Mdl_turn) 141 = .ok (.imul, 1) := by decide +kernel
theorem d_Mdl_turn_142 : decode (mb M_Mdl_turn) 142 = .ok (.iaload, 1) := by decide +kernel
theorem d_Mdl_turn_143 : decode (mb M_Mdl_turn) 143 = .ok (.iastore, 1) := by decide +kernel
theorem d_Mdl_turn_144 : decode (mb M_Mdl_turn) 144 = .ok (.aload_n 0, 1) := by decide +kernel
theorem d_Mdl_turn_145 : decode (mb M_Mdl_turn) 145 = .ok (.getfield 68, 3) := by decide +kernel
theorem d_Mdl_turn_148 : decode (mb M_Mdl_turn) 148 = .ok (.iconst 4, 1) := by decide +kernel
theorem d_Mdl_turn_149 : decode (mb M_Mdl_turn) 149 = .ok (.iload 4, 2) := by decide +kernel
theorem d_Mdl_turn_151 : decode (mb M_Mdl_turn) 151 = .ok (.imul, 1) := by decide +kernel
theorem d_Mdl_turn_152 : decode (mb M_Mdl_turn) 152 = .ok (.iconst 2, 1) := by decide +kernel
theorem d_Mdl_turn_153 : decode (mb M_Mdl_turn) 153 = .ok (.iadd, 1) := by decide +kernel
theorem d_Mdl_turn_154 : decode (mb M_Mdl_turn) 154 = .ok (.aload_n 0, 1) := by decide +kernel
theorem d_Mdl_turn_155 : decode (mb M_Mdl_turn) 155 = .ok (.getfield 68, 3) := by decide +kernel
theorem d_Mdl_turn_158 : decode (mb M_Mdl_turn) 158 = .ok (.iconst 4, 1) := by decide +kernel
theorem d_Mdl_turn_159 : decode (mb M_Mdl_turn) 159 = .ok (.iload_n 3, 1) := by decide +kernel
theorem d_Mdl_turn_160 : decode (mb M_Mdl_turn) 160 = .ok (.imul, 1) := by decide +kernel
theorem d_Mdl_turn_161 : decode (mb M_Mdl_turn) 161 = .ok (.iconst 2, 1) := by decide +kernel
theorem d_Mdl_turn_162 : decode (mb M_Mdl_turn) 162 = .ok (.iadd, 1) := by decide +kernel
theorem d_Mdl_turn_163 : decode (mb M_Mdl_turn) 163 = .ok (.iaload, 1) := by decide +kernel
theorem d_Mdl_turn_164 : decode (mb M_Mdl_turn) 164 = .ok (.iastore, 1) := by decide +kernel
theorem d_Mdl_turn_165 : decode (mb M_Mdl_turn) 165 = .ok (.aload_n 0, 1) := by decide +kernel
theorem d_Mdl_turn_166 : decode (mb M_Mdl_turn) 166 = .ok (.getfield 68, 3) := by decide +kernel
theorem d_Mdl_turn_169 : decode (mb M_Mdl_turn) 169 = .ok (.iconst 4, 1) := by decide +kernel
theorem d_Mdl_turn_170 : decode (mb M_Mdl_turn) 170 = .ok (.iload 4, 2) := by decide +kernel
theorem d_Mdl_turn_172 : decode (mb M_Mdl_turn) 172 = .ok (.imul, 1) := by decide +kernel
theorem d_Mdl_turn_173 : decode (mb M_Mdl_turn) 173 = .ok (.iconst 3, 1) := by decide +kernel
theorem d_Mdl_turn_174 : decode (mb M_Mdl_turn) 174 = .ok (.iadd, 1) := by decide +kernel
theorem d_Mdl_turn_175 : decode (mb M_Mdl_turn) 175 = .ok (.aload_n 0, 1) := by decide +kernel
theorem d_Mdl_turn_176 : decode (mb M_Mdl_turn) 176 = .ok (.getfield 68, 3) := by decide +kernel
theorem d_Mdl_turn_179 : decode (mb M_Mdl_turn) 179 = .ok (.iconst 4, 1) := by decide +kernel
theorem d_Mdl_turn_180 : decode (mb M_Mdl_turn) 180 = .ok (.iload_n 3, 1) := by decide +kernel
theorem d_Mdl_turn_181 : decode (mb M_Mdl_turn) 181 = .ok (.imul, 1) := by decide +kernel
theorem d_Mdl_turn_182 : decode (mb M_Mdl_turn) 182 = .ok (.iconst 3, 1) := by decide +kernel
theorem d_Mdl_turn_183 : decode (mb M_Mdl_turn) 183 = .ok (.iadd, 1) := by decide +kernel
theorem d_Mdl_turn_184 : decode (mb M_Mdl_turn) 184 = .ok (.iaload, 1) := by decide +kernel
theorem d_Mdl_turn_185 : decode (mb M_Mdl_turn) 185 = .ok (.iastore, 1) := by decide +kernel
theorem d_Mdl_turn_186 : decode (mb M_Mdl_turn) 186 = .ok (.iconst 0, 1) := by decide +kernel
theorem d_Mdl_turn_187 : decode (mb M_Mdl_turn) 187 = .ok (.istore 5, 2) := by decide +kernel
theorem d_Mdl_turn_189 : decode (mb M_Mdl_turn) 189 = .ok (.iload 5, 2) := by decide +kernel
theorem d_Mdl_turn_191 : decode (mb M_Mdl_turn) 191 = .ok (.bipush 20, 2) := by decide +kernel
theorem d_Mdl_turn_193 : decode (mb M_Mdl_turn) 193 = .ok (.if_icmp .ge 65, 3) := by decide +kernel
theorem d_Mdl_turn_196 : decode (mb M_Mdl_turn) 196 = .ok (.aload_n 0, 1) := by decide +kernel
theorem d_Mdl_turn_197 : decode (mb M_Mdl_turn) 197 = .ok (.getfield 71, 3) := by decide +kernel
theorem d_Mdl_turn_200 : decode (mb M_Mdl_turn) 200 = .ok (.bipush 40, 2) := by decide +kernel
theorem d_Mdl_turn_202 : decode (mb M_Mdl_turn) 202 = .ok (.iload 4, 2) := by decide +kernel
theorem d_Mdl_turn_204 : decode (mb M_Mdl_turn) 204 = .ok (.imul, 1) := by decide +kernel
theorem d_Mdl_turn_205 : decode (mb M_Mdl_turn) 205 = .ok (.iload 5, 2) := by decide +kernel
theorem d_Mdl_turn_207 : decode (mb M_Mdl_turn) 207 = .ok (.iadd, 1) := by decide +kernel
theorem d_Mdl_turn_208 : decode (mb M_Mdl_turn) 208 = .ok (.aload_n 0, 1) := by decide +kernel
theorem d_Mdl_turn_209 : decode (mb M_Mdl_turn) 209 = .ok (.getfield 71, 3) := by decide +kernel
theorem d_Mdl_turn_212 : decode (mb M_Mdl_turn) 212 = .ok (.bipush 40, 2) := by decide +kernel
theorem d_Mdl_turn_214 : decode (mb M_Mdl_turn) 214 = .ok (.iload_n 3, 1) := by decide +kernel
theorem d_Mdl_turn_215 : decode (mb M_Mdl_turn) 215 = .ok (.imul, 1) := by decide +kernel
theorem d_Mdl_turn_216 : decode (mb M_Mdl_turn) 216 = .ok (.bipush 20, 2) := by decide +kernel
theorem d_Mdl_turn_218 : decode (mb M_Mdl_turn) 218 = .ok (.iadd, 1) := by decide +kernel
theorem d_Mdl_turn_219 : decode (mb M_Mdl_turn) 219 = .ok (.iload 5, 2) := by decide +kernel
theorem d_Mdl_turn_221 : decode (mb M_Mdl_turn) 221 = .ok (.iadd, 1) := by decide +kernel
theorem d_Mdl_turn_222 : decode (mb M_Mdl_turn) 222 = .ok (.laload, 1) := by decide +kernel
theorem d_Mdl_turn_223 : decode (mb M_Mdl_turn) 223 = .ok (.lastore, 1) := by decide +kernel
theorem d_Mdl_turn_224 : decode (mb M_Mdl_turn) 224 = .ok (.aload_n 0, 1) := by decide +kernel
theorem d_Mdl_turn_225 : decode (mb M_Mdl_turn) 225 = .ok (.getfield 71, 3) := by decide +kernel
theorem d_Mdl_turn_228 : decode (mb M_Mdl_turn) 228 = .ok (.bipush 40, 2) := by decide +kernel
theorem d_Mdl_turn_230 : decode (mb M_Mdl_turn) 230 = .ok (.iload 4, 2) := by decide +kernel
theorem d_Mdl_turn_232 : decode (mb M_Mdl_turn) 232 = .ok (.imul, 1) := by decide +kernel
theorem d_Mdl_turn_233 : decode (mb M_Mdl_turn) 233 = .ok (.bipush 20, 2) := by decide +kernel
theorem d_Mdl_turn_235 : decode (mb M_Mdl_turn) 235 = .ok (.iadd, 1) := by decide +kernel
theorem d_Mdl_turn_236 : decode (mb M_Mdl_turn) 236 = .ok (.iload 5, 2) := by decide +kernel
theorem d_Mdl_turn_238 : decode (mb M_Mdl_turn) 238 = .ok (.iadd, 1) := by decide +kernel
theorem d_Mdl_turn_239 : decode (mb M_Mdl_turn) 239 = .ok (.aload_n 0, 1) := by decide +kernel
theorem d_Mdl_turn_240 : decode (mb M_Mdl_turn) 240 = .ok (.getfield 71, 3) := by decide +kernel
theorem d_Mdl_turn_243 : decode (mb M_Mdl_turn) 243 = .ok (.bipush 40, 2) := by decide +kernel
theorem d_Mdl_turn_245 : decode (mb M_Mdl_turn) 245 = .ok (.iload_n 3, 1) := by decide +kernel
theorem d_Mdl_turn_246 : decode (mb M_Mdl_turn) 246 = .ok (.imul, 1) := by decide +kernel
theorem d_Mdl_turn_247 : decode (mb M_Mdl_turn) 247 = .ok (.iload 5, 2) := by decide +kernel
theorem d_Mdl_turn_249 : decode (mb M_Mdl_turn) 249 = .ok (.iadd, 1) := by decide +kernel
theorem d_Mdl_turn_250 : decode (mb M_Mdl_turn) 250 = .ok (.laload, 1) := by decide +kernel
theorem d_Mdl_turn_251 : decode (mb M_Mdl_turn) 251 = .ok (.lastore, 1) := by decide +kernel
theorem d_Mdl_turn_252 : decode (mb M_Mdl_turn) 252 = .ok (.iinc 5 1, 3) := by decide +kernel
theorem d_Mdl_turn_255 : decode (mb M_Mdl_turn) 255 = .ok (.goto (-66), 3) := by decide +kernel
theorem d_Mdl_turn_258 : decode (mb M_Mdl_turn) 258 = .ok (.iconst 0, 1) := by decide +kernel
theorem d_Mdl_turn_259 : decode (mb M_Mdl_turn) 259 = .ok (.istore 5, 2) := by decide +kernel
theorem d_Mdl_turn_261 : decode (mb M_Mdl_turn) 261 = .ok (.iload 5, 2) := by decide +kernel
theorem d_Mdl_turn_263 : decode (mb M_Mdl_turn) 263 = .ok (.bipush 6, 2) := by decide +kernel
theorem d_Mdl_turn_265 : decode (mb M_Mdl_turn) 265 = .ok (.if_icmp .ge 34, 3) := by decide +kernel
theorem d_Mdl_turn_268 : decode (mb M_Mdl_turn) 268 = .ok (.aload_n 0, 1) := by decide +kernel
theorem d_Mdl_turn_269 : decode (mb M_Mdl_turn) 269 = .ok (.getfield 74, 3) := by decide +kernel
theorem d_Mdl_turn_272 : decode (mb M_Mdl_turn) 272 = .ok (.bipush 6, 2) := by decide +kernel
theorem d_Mdl_turn_274 : decode (mb M_Mdl_turn) 274 = .ok (.iload 4, 2) := by decide +kernel
theorem d_Mdl_turn_276 : decode (mb M_Mdl_turn) 276 = .ok (.imul, 1) := by decide +kernel
theorem d_Mdl_turn_277 : decode (mb M_Mdl_turn) 277 = .ok (.iload 5, 2) := by decide +kernel
theorem d_Mdl_turn_279 : decode (mb M_Mdl_turn) 279 = .ok (.iadd, 1) := by decide +kernel
theorem d_Mdl_turn_280 : decode (mb M_Mdl_turn) 280 = .ok (.aload_n 0, 1) := by decide +kernel
theorem d_Mdl_turn_281 : decode (mb M_Mdl_turn) 281 = .ok (.getfield 74, 3) := by decide +kernel
theorem d_Mdl_turn_284 : decode (mb M_Mdl_turn) 284 = .ok (.bipush 6, 2) := by decide +kernel
theorem d_Mdl_turn_286 : decode (mb M_Mdl_turn) 286 = .ok (.iload_n 3, 1) := by decide +kernel
theorem d_Mdl_turn_287 : decode (mb M_Mdl_turn) 287 = .ok (.imul, 1) := by decide +kernel
theorem d_Mdl_turn_288 : decode (mb M_Mdl_turn) 288 = .ok (.iload 5, 2) := by decide +kernel
theorem d_Mdl_turn_290 : decode (mb M_Mdl_turn) 290 = .ok (.iadd, 1) := by decide +kernel
theorem d_Mdl_turn_291 : decode (mb M_Mdl_turn) 291 = .ok (.laload, 1) := by decide +kernel
theorem d_Mdl_turn_292 : decode (mb M_Mdl_turn) 292 = .ok (.lastore, 1) := by decide +kernel
theorem d_Mdl_turn_293 : decode (mb M_Mdl_turn) 293 = .ok (.iinc 5 1, 3) := by decide +kernel
theorem d_Mdl_turn_296 : decode (mb M_Mdl_turn) 296 = .ok (.goto (-35), 3) := by decide +kernel
theorem d_Mdl_turn_299 : decode (mb M_Mdl_turn) 299 = .ok (.iinc 2 1, 3) := by decide +kernel
theorem d_Mdl_turn_302 : decode (mb M_Mdl_turn) 302 = .ok (.goto (-250), 3) := by decide +kernel
theorem d_Mdl_turn_305 : decode (mb M_Mdl_turn) 305 = .ok (.aload_n 0, 1) := by decide +kernel
theorem d_Mdl_turn_306 : decode (mb M_Mdl_turn) 306 = .ok (.dup, 1) := by decide +kernel
theorem d_Mdl_turn_307 : decode (mb M_Mdl_turn) 307 = .ok (.getfield 317, 3) := by decide +kernel
theorem d_Mdl_turn_310 : decode (mb M_Mdl_turn) 310 = .ok (.iconst 1, 1) := by decide +kernel
theorem d_Mdl_turn_311 : decode (mb M_Mdl_turn) 311 = .ok (.iadd, 1) := by decide +kernel
theorem d_Mdl_turn_312 : decode (mb M_Mdl_turn) 312 = .ok (.putfield 317, 3) := by decide +kernel
theorem d_Mdl_turn_315 : decode (mb M_Mdl_turn) 315 = .ok (.aload_n 0, 1) := by decide +kernel
theorem d_Mdl_turn_316 : decode (mb M_Mdl_turn) 316 = .ok (.getfield 317, 3) := by decide +kernel
theorem d_Mdl_turn_319 : decode (mb M_Mdl_turn) 319 = .ok (.iconst 1, 1) := by decide +kernel
theorem d_Mdl_turn_320 : decode (mb M_Mdl_turn) 320 = .ok (.isub, 1) := by decide +kernel
theorem d_Mdl_turn_321 : decode (mb M_Mdl_turn) 321 = .ok (.ireturn, 1) := by decide +kernel
theorem d_Mdl_undo_0 : decode (mb M_Mdl_undo) 0 = .ok (.aload_n 0, 1) := by decide +kernel
theorem d_Mdl_undo_1 : decode (mb M_Mdl_undo) 1 = .ok (.aload_n 0, 1) := by decide +kernel
theorem d_Mdl_undo_2 : decode (mb M_Mdl_undo) 2 = .ok (.getfield 178, 3) := by decide +kernel
theorem d_Mdl_undo_5 : decode (mb M_Mdl_undo) 5 = .ok (.ifCond .eq 21, 3) := by decide +kernel
theorem d_Mdl_undo_8 : decode (mb M_Mdl_undo) 8 = .ok (.aload_n 0, 1) := by decide +kernel
theorem d_Mdl_undo_9 : decode (mb M_Mdl_undo) 9 = .ok (.getfield 191, 3) := by decide +kernel
theorem d_Mdl_undo_12 : decode (mb M_Mdl_undo) 12 = .ok (.ifCond .le 14, 3) := by decide +kernel
theorem d_Mdl_undo_15 : decode (mb M_Mdl_undo) 15 = .ok (.aload_n 0, 1) := by decide +kernel
theorem d_Mdl_undo_16 : decode (mb M_Mdl_undo) 16 = .ok (.invokevirtual 201, 3) := by decide +kernel
theorem d_Mdl_undo_19 : decode (mb M_Mdl_undo) 19 = .ok (.ifCond .eq 7, 3) := by decide +kernel
theorem d_Mdl_undo_22 : decode (mb M_Mdl_undo) 22 = .ok (.iconst 0, 1) := by decide +kernel
theorem d_Mdl_undo_23 : decode (mb M_Mdl_undo) 23 = .ok (.goto 4, 3) := by decide +kernel
theorem d_Mdl_undo_26 : decode (mb M_Mdl_undo) 26 = .ok (.iconst 1, 1) := by decide +kernel
theorem d_Mdl_undo_27 : decode (mb M_Mdl_undo) 27 = .ok (.invokevirtual 151, 3) := by decide +kernel
theorem d_Mdl_undo_30 : decode (mb M_Mdl_undo) 30 = .ok (.ifCond .eq 5, 3) := by decide +kernel
theorem d_Mdl_undo_33 : decode (mb M_Mdl_undo) 33 = .ok (.iconst 0, 1) := by decide +kernel
theorem d_Mdl_undo_34 : decode (mb M_Mdl_undo) 34 = .ok (.ireturn, 1) := by decide +kernel
theorem d_Mdl_undo_35 : decode (mb M_Mdl_undo) 35 = .ok (.aload_n 0, 1) := by decide +kernel
theorem d_Mdl_undo_36 : decode (mb M_Mdl_undo) 36 = .ok (.dup, 1) := by decide +kernel
theorem d_Mdl_undo_37 : decode (mb M_Mdl_undo) 37 = .ok (.getfield 191, 3) := by decide +kernel
theorem d_Mdl_undo_40 : decode (mb M_Mdl_undo) 40 = .ok (.iconst 1, 1) := by decide +kernel
theorem d_Mdl_undo_41 : decode (mb M_Mdl_undo) 41 = .ok (.isub, 1) := by decide +kernel
theorem d_Mdl_undo_42 : decode (mb M_Mdl_undo) 42 = .ok (.putfield 191, 3) := by decide +kernel
theorem d_Mdl_undo_45 : decode (mb M_Mdl_undo) 45 = .ok (.aload_n 0, 1) := by decide +kernel
theorem d_Mdl_undo_46 : decode (mb M_Mdl_undo) 46 = .ok (.aload_n 0, 1) := by decide +kernel
theorem d_Mdl_undo_47 : decode (mb M_Mdl_undo) 47 = .ok (.getfield 44, 3) := by decide +kernel
theorem d_Mdl_undo_50 : decode (mb M_Mdl_undo) 50 = .ok (.aload_n 0, 1) := by decide +kernel
theorem d_Mdl_undo_51 : decode (mb M_Mdl_undo) 51 = .ok (.getfield 191, 3) := by decide +kernel
theorem d_Mdl_undo_54 : decode (mb M_Mdl_undo) 54 = .ok (.iaload, 1) := by decide +kernel
theorem d_Mdl_undo_55 : decode (mb M_Mdl_undo) 55 = .ok (.putfield 194, 3) := by decide +kernel
theorem d_Mdl_undo_58 : decode (mb M_Mdl_undo) 58 = .ok (.aload_n 0, 1) := by decide +kernel
theorem d_Mdl_undo_59 : decode (mb M_Mdl_undo) 59 = .ok (.aload_n 0, 1) := by decide +kernel
theorem d_Mdl_undo_60 : decode (mb M_Mdl_undo) 60 = .ok (.getfield 47, 3) := by decide +kernel
theorem d_Mdl_undo_63 : decode (mb M_Mdl_undo) 63 = .ok (.aload_n 0, 1) := by decide +kernel
theorem d_Mdl_undo_64 : decode (mb M_Mdl_undo) 64 = .ok (.getfield 191, 3) := by decide +kernel
theorem d_Mdl_undo_67 : decode (mb M_Mdl_undo) 67 = .ok (.iaload, 1) := by decide +kernel
theorem d_Mdl_undo_68 : decode (mb M_Mdl_undo) 68 = .ok (.putfield 188, 3) := by decide +kernel
theorem d_Mdl_undo_71 : decode (mb M_Mdl_undo) 71 = .ok (.iconst 0, 1) := by decide +kernel
theorem d_Mdl_undo_72 : decode (mb M_Mdl_undo) 72 = .ok (.istore_n 1, 1) := by decide +kernel
theorem d_Mdl_undo_73 : decode (mb M_Mdl_undo) 73 = .ok (.iload_n 1, 1) := by decide +kernel
theorem d_Mdl_undo_74 : decode (mb M_Mdl_undo) 74 = .ok (.aload_n 0, 1) := by decide +kernel
theorem d_Mdl_undo_75 : decode (mb M_Mdl_undo) 75 = .ok (.getfield 194, 3) := by decide +kernel
theorem d_Mdl_undo_78 : decode (mb M_Mdl_undo) 78 = .ok (.if_icmp .ge 29, 3) := by decide +kernel
theorem d_Mdl_undo_81 : decode (mb M_Mdl_undo) 81 = .ok (.aload_n 0, 1) := by decide +kernel
theorem d_Mdl_undo_82 : decode (mb M_Mdl_undo) 82 = .ok (.getfield 35, 3) := by decide +kernel
theorem d_Mdl_undo_85 : decode (mb M_Mdl_undo) 85 = .ok (.iload_n 1, 1) := by decide +kernel
theorem d_Mdl_undo_86 : decode (mb M_Mdl_undo) 86 = .ok (.aload_n 0, 1) := by decide +kernel
theorem d_Mdl_undo_87 : decode (mb M_Mdl_undo) 87 = .ok (.getfield 50, 3) := by decide +kernel
theorem d_Mdl_undo_90 : decode (mb M_Mdl_undo) 90 = .ok (.bipush 48, 2) := by decide +kernel
theorem d_Mdl_undo_92 : decode (mb M_Mdl_undo) 92 = .ok (.aload_n 0, 1) := by decide +kernel
theorem d_Mdl_undo_93 : decode (mb M_Mdl_undo) 93 = .ok (.getfield 191, 3) := by decide +kernel
theorem d_Mdl_undo_96 : decode (mb M_Mdl_undo) 96 = .ok (.imul, 1) := by decide +kernel
theorem d_Mdl_undo_97 : decode (mb M_Mdl_undo) 97 = .ok (.iload_n 1, 1) := by decide +kernel
theorem d_Mdl_undo_98 : decode (mb M_Mdl_undo) 98 = .ok (.iadd, 1) := by decide +kernel
theorem d_Mdl_undo_99 : decode (mb M_Mdl_undo) 99 = .ok (.iaload, 1) := by decide +kernel
theorem d_Mdl_undo_100 : decode (mb M_Mdl_undo) 100 = .ok (.iastore, 1) := by decide +kernel
theorem d_Mdl_undo_101 : decode (mb M_Mdl_undo) 101 = .ok (.iinc 1 1, 3) := by decide +kernel
theorem d_Mdl_undo_104 : decode (mb M_Mdl_undo) 104 = .ok (.goto (-31), 3) := by decide +kernel
theorem d_Mdl_undo_107 : decode (mb M_Mdl_undo) 107 = .ok (.aload_n 0, 1) := by decide +kernel
theorem d_Mdl_undo_108 : decode (mb M_Mdl_undo) 108 = .ok (.invokevirtual 197, 3) := by decide +kernel
theorem d_Mdl_undo_111 : decode (mb M_Mdl_undo) 111 = .ok (.ireturn, 1) := by decide +kernel
theorem d_Mdl_verdict_0 : decode (mb M_Mdl_verdict) 0 = .ok (.aload_n 0, 1) := by decide +kernel
theorem d_Mdl_verdict_1 : decode (mb M_Mdl_verdict) 1 = .ok (.iload_n 1, 1) := by decide +kernel
theorem d_Mdl_verdict_2 : decode (mb M_Mdl_verdict) 2 = .ok (.invokevirtual 351, 3) := by decide +kernel
theorem d_Mdl_verdict_5 : decode (mb M_Mdl_verdict) 5 = .ok (.ifCond .eq 14, 3) := by decide +kernel
theorem d_Mdl_verdict_8 : decode (mb M_Mdl_verdict) 8 = .ok (.iload_n 2, 1) := by decide +kernel
theorem d_Mdl_verdict_9 : decode (mb M_Mdl_verdict) 9 = .ok (.invokestatic 175, 3) := by decide +kernel
theorem d_Mdl_verdict_12 : decode (mb M_Mdl_verdict) 12 = .ok (.ifCond .eq 7, 3) := by decide +kernel
theorem d_Mdl_verdict_15 : decode (mb M_Mdl_verdict) 15 = .ok (.iconst 1, 1) := by decide +kernel
theorem d_Mdl_verdict_16 : decode (mb M_Mdl_verdict) 16 = .ok (.goto 4, 3) := by decide +kernel
theorem d_Mdl_verdict_19 : decode (mb M_Mdl_verdict) 19 = .ok (.iconst 0, 1) := by decide +kernel
theorem d_Mdl_verdict_20 : decode (mb M_Mdl_verdict) 20 = .ok (.istore 4, 2) := by decide +kernel
theorem d_Mdl_verdict_22 : decode (mb M_Mdl_verdict) 22 = .ok (.iload 4, 2) := by decide +kernel
theorem d_Mdl_verdict_24 : decode (mb M_Mdl_verdict) 24 = .ok (.ifCond .eq 31, 3) := by decide +kernel
theorem d_Mdl_verdict_27 : decode (mb M_Mdl_verdict) 27 = .ok (.aload_n 0, 1) := by decide +kernel
theorem d_Mdl_verdict_28 : decode (mb M_Mdl_verdict) 28 = .ok (.getfield 86, 3) := by decide +kernel
theorem d_Mdl_verdict_31 : decode (mb M_Mdl_verdict) 31 = .ok (.iload_n 1, 1) := by decide +kernel
theorem d_Mdl_verdict_32 : decode (mb M_Mdl_verdict) 32 = .ok (.baload, 1) := by decide +kernel
theorem d_Mdl_verdict_33 : decode (mb M_Mdl_verdict) 33 = .ok (.ifCond .ne 22, 3) := by decide +kernel
theorem d_Mdl_verdict_36 : decode (mb M_Mdl_verdict) 36 = .ok (.aload_n 0, 1) := by decide +kernel
theorem d_Mdl_verdict_37 : decode (mb M_Mdl_verdict) 37 = .ok (.getfield 26, 3) := by decide +kernel
theorem d_Mdl_verdict_40 : decode (mb M_Mdl_verdict) 40 = .ok (.aload_n 0, 1) := by decide +kernel
theorem d_Mdl_verdict_41 : decode (mb M_Mdl_verdict) 41 = .ok (.getfield 80, 3) := by decide +kernel
theorem d_Mdl_verdict_44 : decode (mb M_Mdl_verdict) 44 = .ok (.iload_n 1, 1) := by decide +kernel
theorem d_Mdl_verdict_45 : decode (mb M_Mdl_verdict) 45 = .ok (.iaload, 1) := by decide +kernel
theorem d_Mdl_verdict_46 : decode (mb M_Mdl_verdict) 46 = .ok (.iaload, 1) := by decide +kernel
theorem d_Mdl_verdict_47 : decode (mb M_Mdl_verdict) 47 = .ok (.iload_n 2, 1) := by decide +kernel
theorem d_Mdl_verdict_48 : decode (mb M_Mdl_verdict) 48 = .ok (.if_icmp .eq 7, 3) := by decide +kernel
theorem d_Mdl_verdict_51 : decode (mb M_Mdl_verdict) 51 = .ok (.iconst 1, 1) := by decide +kernel
theorem d_Mdl_verdict_52 : decode (mb M_Mdl_verdict) 52 = .ok (.goto 4, 3) := by decide +kernel
theorem d_Mdl_verdict_55 : decode (mb M_Mdl_verdict) 55 = .ok (.iconst 0, 1) := by decide +kernel
theorem d_Mdl_verdict_56 : decode (mb M_Mdl_verdict) 56 = .ok (.istore 5, 2) := by decide +kernel
theorem d_Mdl_verdict_58 : decode (mb M_Mdl_verdict) 58 = .ok (.aload_n 0, 1) := by decide +kernel
theorem d_Mdl_verdict_59 : decode (mb M_Mdl_verdict) 59 = .ok (.iload 4, 2) := by decide +kernel
theorem d_Mdl_verdict_61 : decode (mb M_Mdl_verdict) 61 = .ok (.ifCond .ne 7, 3) := by decide +kernel
theorem d_Mdl_verdict_64 : decode (mb M_Mdl_verdict) 64 = .ok (.iconst 1, 1) := by decide +kernel
theorem d_Mdl_verdict_65 : decode (mb M_Mdl_verdict) 65 = .ok (.goto 13, 3) := by decide +kernel
theorem d_Mdl_verdict_68 : decode (mb M_Mdl_verdict) 68 = .ok (.iload 5, 2) := by decide +kernel
theorem d_Mdl_verdict_70 : decode (mb M_Mdl_verdict) 70 = .ok (.ifCond .eq 7, 3) := by decide +kernel
theorem d_Mdl_verdict_73 : decode (mb M_Mdl_verdict) 73 = .ok (.iconst 0, 1) := by decide +kernel
theorem d_Mdl_verdict_74 : decode (mb M_Mdl_verdict) 74 = .ok (.goto 4, 3) := by decide +kernel
theorem d_Mdl_verdict_77 : decode (mb M_Mdl_verdict) 77 = .ok (.iconst 2, 1) := by decide +kernel
theorem d_Mdl_verdict_78 : decode (mb M_Mdl_verdict) 78 = .ok (.invokevirtual 151, 3) := by decide +kernel
theorem d_Mdl_verdict_81 : decode (mb M_Mdl_verdict) 81 = .ok (.ifCond .eq 5, 3) := by decide +kernel
theorem d_Mdl_verdict_84 : decode (mb M_Mdl_verdict) 84 = .ok (.iconst 0, 1) := by decide +kernel
theorem d_Mdl_verdict_85 : decode (mb M_Mdl_verdict) 85 = .ok (.ireturn, 1) := by decide +kernel
theorem d_Mdl_verdict_86 : decode (mb M_Mdl_verdict) 86 = .ok (.aload_n 0, 1) := by decide +kernel
theorem d_Mdl_verdict_87 : decode (mb M_Mdl_verdict) 87 = .ok (.getfield 90, 3) := by decide +kernel
theorem d_Mdl_verdict_90 : decode (mb M_Mdl_verdict) 90 = .ok (.bipush 6, 2) := by decide +kernel
theorem d_Mdl_verdict_92 : decode (mb M_Mdl_verdict) 92 = .ok (.iload_n 1, 1) := by decide +kernel
theorem d_Mdl_verdict_93 : decode (mb M_Mdl_verdict) 93 = .ok (.imul, 1) := by decide +kernel
theorem d_Mdl_verdict_94 : decode (mb M_Mdl_verdict) 94 = .ok (.iload_n 2, 1) := by decide +kernel
theorem d_Mdl_verdict_95 : decode (mb M_Mdl_verdict) 95 = .ok (.iadd, 1) := by decide +kernel
theorem d_Mdl_verdict_96 : decode (mb M_Mdl_verdict) 96 = .ok (.iload_n 3, 1) := by decide +kernel
theorem d_Mdl_verdict_97 : decode (mb M_Mdl_verdict) 97 = .ok (.ifCond .eq 7, 3) := by decide +kernel
theorem d_Mdl_verdict_100 : decode (mb M_Mdl_verdict) 100 = .ok (.iconst 1, 1) := by decide +kernel
theorem d_Mdl_verdict_101 : decode (mb M_Mdl_verdict) 101 = .ok (.goto 4, 3) := by decide +kernel
theorem d_Mdl_verdict_104 : decode (mb M_Mdl_verdict) 104 = .ok (.iconst 2, 1) := by decide +kernel
theorem d_Mdl_verdict_105 : decode (mb M_Mdl_verdict) 105 = .ok (.iastore, 1) := by decide +kernel
theorem d_Mdl_verdict_106 : decode (mb M_Mdl_verdict) 106 = .ok (.aload_n 0, 1) := by decide +kernel
theorem d_Mdl_verdict_107 : decode (mb M_Mdl_verdict) 107 = .ok (.iload_n 1, 1) := by decide +kernel
theorem d_Mdl_verdict_108 : decode (mb M_Mdl_verdict) 108 = .ok (.invokevirtual 354, 3) := by decide +kernel
theorem d_Mdl_verdict_111 : decode (mb M_Mdl_verdict) 111 = .ok (.ireturn, 1) := by decide +kernel
theorem d_Mdl_versions_0 : decode (mb M_Mdl_versions) 0 = .ok (.aload_n 0, 1) := by decide +kernel
theorem d_Mdl_versions_1 : decode (mb M_Mdl_versions) 1 = .ok (.aload_n 0, 1) := by decide +kernel
theorem d_Mdl_versions_2 : decode (mb M_Mdl_versions) 2 = .ok (.getfield 123, 3) := by decide +kernel
theorem d_Mdl_versions_5 : decode (mb M_Mdl_versions) 5 = .ok (.invokevirtual 222, 3) := by decide +kernel
theorem d_Mdl_versions_8 : decode (mb M_Mdl_versions) 8 = .ok (.ireturn, 1) := by decide +kernel
theorem d_Mdl_weave_0 : decode (mb M_Mdl_weave) 0 = .ok (.aload_n 0, 1) := by decide +kernel
theorem d_Mdl_weave_1 : decode (mb M_Mdl_weave) 1 = .ok (.iload_n 3, 1) := by decide +kernel
theorem d_Mdl_weave_2 : decode (mb M_Mdl_weave) 2 = .ok (.iload_n 1, 1) := by decide +kernel
theorem d_Mdl_weave_3 : decode (mb M_Mdl_weave) 3 = .ok (.iconst 0, 1) := by decide +kernel
theorem d_Mdl_weave_4 : decode (mb M_Mdl_weave) 4 = .ok (.invokevirtual 249, 3) := by decide +kernel
theorem d_Mdl_weave_7 : decode (mb M_Mdl_weave) 7 = .ok (.pop, 1) := by decide +kernel
theorem d_Mdl_weave_8 : decode (mb M_Mdl_weave) 8 = .ok (.iconst 0, 1) := by decide +kernel
theorem d_Mdl_weave_9 : decode (mb M_Mdl_weave) 9 = .ok (.istore 5, 2) := by decide +kernel
theorem d_Mdl_weave_11 : decode (mb M_Mdl_weave) 11 = .ok (.iload 5, 2) := by decide +kernel
theorem d_Mdl_weave_13 : decode (mb M_Mdl_weave) 13 = .ok (.aload_n 0, 1) := by decide +kernel
theorem d_Mdl_weave_14 : decode (mb M_Mdl_weave) 14 = .ok (.getfield 20, 3) := by decide +kernel
theorem d_Mdl_weave_17 : decode (mb M_Mdl_weave) 17 = .ok (.iload_n 3, 1) := by decide +kernel
theorem d_Mdl_weave_18 : decode (mb M_Mdl_weave) 18 = .ok (.iaload, 1) := by decide +kernel
theorem d_Mdl_weave_19 : decode (mb M_Mdl_weave) 19 = .ok (.if_icmp .ge 23, 3) := by decide +kernel
theorem d_Mdl_weave_22 : decode (mb M_Mdl_weave) 22 = .ok (.aload_n 0, 1) := by decide +kernel
theorem d_Mdl_weave_23 : decode (mb M_Mdl_weave) 23 = .ok (.getfield 102, 3) := by decide +kernel
theorem d_Mdl_weave_26 : decode (mb M_Mdl_weave) 26 = .ok (.iload 5, 2) := by decide +kernel
theorem d_Mdl_weave_28 : decode (mb M_Mdl_weave) 28 = .ok (.aload_n 0, 1) := by decide +kernel
theorem d_Mdl_weave_29 : decode (mb M_Mdl_weave) 29 = .ok (.getfield 99, 3) := by decide +kernel
theorem d_Mdl_weave_32 : decode (mb M_Mdl_weave) 32 = .ok (.iload 5, 2) := by decide +kernel
theorem d_Mdl_weave_34 : decode (mb M_Mdl_weave) 34 = .ok (.iaload, 1) := by decide +kernel
theorem d_Mdl_weave_35 : decode (mb M_Mdl_weave) 35 = .ok (.iastore, 1) := by decide +kernel
theorem d_Mdl_weave_36 : decode (mb M_Mdl_weave) 36 = .ok (.iinc 5 1, 3) := by decide +kernel
theorem d_Mdl_weave_39 : decode (mb M_Mdl_weave) 39 = .ok (.goto (-28), 3) := by decide +kernel
theorem d_Mdl_weave_42 : decode (mb M_Mdl_weave) 42 = .ok (.aload_n 0, 1) := by decide +kernel
theorem d_Mdl_weave_43 : decode (mb M_Mdl_weave) 43 = .ok (.iload_n 3, 1) := by decide +kernel
theorem d_Mdl_weave_44 : decode (mb M_Mdl_weave) 44 = .ok (.iload_n 2, 1) := by decide +kernel
theorem d_Mdl_weave_45 : decode (mb M_Mdl_weave) 45 = .ok (.iconst 0, 1) := by decide +kernel
theorem d_Mdl_weave_46 : decode (mb M_Mdl_weave) 46 = .ok (.invokevirtual 249, 3) := by decide +kernel
theorem d_Mdl_weave_49 : decode (mb M_Mdl_weave) 49 = .ok (.pop, 1) := by decide +kernel
theorem d_Mdl_weave_50 : decode (mb M_Mdl_weave) 50 = .ok (.iconst 0, 1) := by decide +kernel
theorem d_Mdl_weave_51 : decode (mb M_Mdl_weave) 51 = .ok (.istore 5, 2) := by decide +kernel
theorem d_Mdl_weave_53 : decode (mb M_Mdl_weave) 53 = .ok (.iconst 0, 1) := by decide +kernel
theorem d_Mdl_weave_54 : decode (mb M_Mdl_weave) 54 = .ok (.istore 6, 2) := by decide +kernel
theorem d_Mdl_weave_56 : decode (mb M_Mdl_weave) 56 = .ok (.iconst 0, 1) := by decide +kernel
theorem d_Mdl_weave_57 : decode (mb M_Mdl_weave) 57 = .ok (.istore 7, 2) := by decide +kernel
theorem d_Mdl_weave_59 : decode (mb M_Mdl_weave) 59 = .ok (.iconst 0, 1) := by decide +kernel
theorem d_Mdl_weave_60 : decode (mb M_Mdl_weave) 60 = .ok (.istore 8, 2) := by decide +kernel
theorem d_Mdl_weave_62 : decode (mb M_Mdl_weave) 62 = .ok (.iconst 0, 1) := by decide +kernel
theorem d_Mdl_weave_63 : decode (mb M_Mdl_weave) 63 = .ok (.istore 9, 2) := by decide +kernel
theorem d_Mdl_weave_65 : decode (mb M_Mdl_weave) 65 = .ok (.iload 9, 2) := by decide +kernel
theorem d_Mdl_weave_67 : decode (mb M_Mdl_weave) 67 = .ok (.aload_n 0, 1) := by decide +kernel
theorem d_Mdl_weave_68 : decode (mb M_Mdl_weave) 68 = .ok (.getfield 20, 3) := by decide +kernel
theorem d_Mdl_weave_71 : decode (mb M_Mdl_weave) 71 = .ok (.iload_n 3, 1) := by decide +kernel
theorem d_Mdl_weave_72 : decode (mb M_Mdl_weave) 72 = .ok (.iaload, 1) := by decide +kernel
theorem d_Mdl_weave_73 : decode (mb M_Mdl_weave) 73 = .ok (.if_icmp .gt 320, 3) := by decide +kernel
theorem d_Mdl_weave_76 : decode (mb M_Mdl_weave) 76 = .ok (.iload 9, 2) := by decide +kernel
theorem d_Mdl_weave_78 : decode (mb M_Mdl_weave) 78 = .ok (.aload_n 0, 1) := by decide +kernel
theorem d_Mdl_weave_79 : decode (mb M_Mdl_weave) 79 = .ok (.getfield 20, 3) := by decide +kernel
theorem d_Mdl_weave_82 : decode (mb M_Mdl_weave) 82 = .ok (.iload_n 3, 1) := by decide +kernel
theorem d_Mdl_weave_83 : decode (mb M_Mdl_weave) 83 = .ok (.iaload, 1) := by decide +kernel
theorem d_Mdl_weave_84 : decode (mb M_Mdl_weave) 84 = .ok (.if_icmp .ne 7, 3) := by decide +kernel
theorem d_Mdl_weave_87 : decode (mb M_Mdl_weave) 87 = .ok (.iconst 1, 1) := by decide +kernel
theorem d_Mdl_weave_88 : decode (mb M_Mdl_weave) 88 = .ok (.goto 4, 3) := by decide +kernel
theorem d_Mdl_weave_91 : decode (mb M_Mdl_weave) 91 = .ok (.iconst 0, 1) := by decide +kernel
theorem d_Mdl_weave_92 : decode (mb M_Mdl_weave) 92 = .ok (.istore 10, 2) := by decide +kernel
theorem d_Mdl_weave_94 : decode (mb M_Mdl_weave) 94 = .ok (.iload 10, 2) := by decide +kernel
theorem d_Mdl_weave_96 : decode (mb M_Mdl_weave) 96 = .ok (.ifCond .ne 25, 3) := by decide +kernel
theorem d_Mdl_weave_99 : decode (mb M_Mdl_weave) 99 = .ok (.aload_n 0, 1) := by decide +kernel
theorem d_Mdl_weave_100 : decode (mb M_Mdl_weave) 100 = .ok (.getfield 102, 3) := by decide +kernel
theorem d_Mdl_weave_103 : decode (mb M_Mdl_weave) 103 = .ok (.iload 9, 2) := by decide +kernel
theorem d_Mdl_weave_105 : decode (mb M_Mdl_weave) 105 = .ok (.iaload, 1) := by decide +kernel
theorem d_Mdl_weave_106 : decode (mb M_Mdl_weave) 106 = .ok (.iconst (-1), 1) := by decide +kernel
theorem d_Mdl_weave_107 : decode (mb M_Mdl_weave) 107 = .ok (.if_icmp .eq 280, 3) := by decide +kernel
theorem d_Mdl_weave_110 : decode (mb M_Mdl_weave) 110 = .ok (.aload_n 0, 1) := by decide +kernel
theorem d_Mdl_weave_111 : decode (mb M_Mdl_weave) 111 = .ok (.getfield 99, 3) := by decide +kernel
theorem d_Mdl_weave_114 : decode (mb M_Mdl_weave) 114 = .ok (.iload 9, 2) := by decide +kernel
theorem d_Mdl_weave_116 : decode (mb M_Mdl_weave) 116 = .ok (.iaload, 1) := by decide +kernel
theorem d_Mdl_weave_117 : decode (mb M_Mdl_weave) 117 = .ok (.iconst (-1), 1) := by decide +kernel
theorem d_Mdl_weave_118 : decode (mb M_Mdl_weave) 118 = .ok (.if_icmp .eq 269, 3) := by decide +kernel
theorem d_Mdl_weave_121 : decode (mb M_Mdl_weave) 121 = .ok (.iload 10, 2) := by decide +kernel
theorem d_Mdl_weave_123 : decode (mb M_Mdl_weave) 123 = .ok (.ifCond .eq 12, 3) := by decide +kernel
theorem d_Mdl_weave_126 : decode (mb M_Mdl_weave) 126 = .ok (.aload_n 0, 1) := by decide +kernel
theorem d_Mdl_weave_127 : decode (mb M_Mdl_weave) 127 = .ok (.getfield 20, 3) := by decide +kernel
theorem d_Mdl_weave_130 : decode (mb M_Mdl_weave) 130 = .ok (.iload_n 1, 1) := by decide +kernel
theorem d_Mdl_weave_131 : decode (mb M_Mdl_weave) 131 = .ok (.iaload, 1) := by decide +kernel
theorem d_Mdl_weave_132 : decode (mb M_Mdl_weave) 132 = .ok (.goto 10, 3) := by decide +kernel
theorem d_Mdl_weave_135 : decode (mb M_Mdl_weave) 135 = .ok (.aload_n 0, 1) := by decide +kernel
theorem d_Mdl_weave_136 : decode (mb M_Mdl_weave) 136 = .ok (.getfield 102, 3) := by decide +kernel
theorem d_Mdl_weave_139 : decode (mb M_Mdl_weave) 139 = .ok (.iload 9, 2) := by decide +kernel
theorem d_Mdl_weave_141 : decode (mb M_Mdl_weave) 141 = .ok (.iaload, 1) := by decide +kernel
theorem d_Mdl_weave_142 : decode (mb M_Mdl_weave) 142 = .ok (.istore 11, 2) := by decide +kernel
theorem d_Mdl_weave_144 : decode (mb M_Mdl_weave) 144 = .ok (.iload 10, 2) := by decide +kernel
theorem d_Mdl_weave_146 : decode (mb M_Mdl_weave) 146 = .ok (.ifCond .eq 12, 3) := by decide +kernel
theorem d_Mdl_weave_149 : decode (mb M_Mdl_weave) 149 = .ok (.aload_n 0, 1) := by decide +kernel
theorem d_Mdl_weave_150 : decode (mb M_Mdl_weave) 150 = .ok (.getfield 20, 3) := by decide +kernel
theorem d_Mdl_weave_153 : decode (mb M_Mdl_weave) 153 = .ok (.iload_n 2, 1) := by decide +kernel
theorem d_Mdl_weave_154 : decode (mb M_Mdl_weave) 154 = .ok (.iaload, 1) := by decide +kernel
theorem d_Mdl_weave_155 : decode (mb M_Mdl_weave) 155 = .ok (.goto 10, 3) := by decide +kernel
theorem d_Mdl_weave_158 : decode (mb M_Mdl_weave) 158 = .ok (.aload_n 0, 1) := by decide +kernel
theorem d_Mdl_weave_159 : decode (mb M_Mdl_weave) 159 = .ok (.getfield 99, 3) := by decide +kernel
theorem d_Mdl_weave_162 : decode (mb M_Mdl_weave) 162 = .ok (.iload 9, 2) := by decide +kernel
theorem d_Mdl_weave_164 : decode (mb M_Mdl_weave) 164 = .ok (.iaload, 1) := by decide +kernel
theorem d_Mdl_weave_165 : decode (mb M_Mdl_weave) 165 = .ok (.istore 12, 2) := by decide +kernel
theorem d_Mdl_weave_167 : decode (mb M_Mdl_weave) 167 = .ok (.aload_n 0, 1) := by decide +kernel
theorem d_Mdl_weave_168 : decode (mb M_Mdl_weave) 168 = .ok (.iload_n 1, 1) := by decide +kernel
theorem d_Mdl_weave_169 : decode (mb M_Mdl_weave) 169 = .ok (.iload 6, 2) := by decide +kernel
theorem d_Mdl_weave_171 : decode (mb M_Mdl_weave) 171 = .ok (.iload 11, 2) := by decide +kernel
theorem d_Mdl_weave_173 : decode (mb M_Mdl_weave) 173 = .ok (.iload_n 3, 1) := by decide +kernel
theorem d_Mdl_weave_174 : decode (mb M_Mdl_weave) 174 = .ok (.iload 5, 2) := by decide +kernel
theorem d_Mdl_weave_176 : decode (mb M_Mdl_weave) 176 = .ok (.iload 9, 2) := by decide +kernel
theorem d_Mdl_weave_178 : decode (mb M_Mdl_weave) 178 = .ok (.invokevirtual 294, 3) := by decide +kernel
theorem d_Mdl_weave_181 : decode (mb M_Mdl_weave) 181 = .ok (.istore 13, 2) := by decide +kernel
theorem d_Mdl_weave_183 : decode (mb M_Mdl_weave) 183 = .ok (.aload_n 0, 1) := by decide +kernel
theorem d_Mdl_weave_184 : decode (mb M_Mdl_weave) 184 = .ok (.iload_n 2, 1) := by decide +kernel
theorem d_Mdl_weave_185 : decode (mb M_Mdl_weave) 185 = .ok (.iload 7, 2) := by decide +kernel
theorem d_Mdl_weave_187 : decode (mb M_Mdl_weave) 187 = .ok (.iload 12, 2) := by decide +kernel
theorem d_Mdl_weave_189 : decode (mb M_Mdl_weave) 189 = .ok (.iload_n 3, 1) := by decide +kernel
theorem d_Mdl_weave_190 : decode (mb M_Mdl_weave) 190 = .ok (.iload 5, 2) := by decide +kernel
theorem d_Mdl_weave_192 : decode (mb M_Mdl_weave) 192 = .ok (.iload 9, 2) := by decide +kernel
theorem d_Mdl_weave_194 : decode (mb M_Mdl_weave) 194 = .ok (.invokevirtual 294, 3) := by decide +kernel
theorem d_Mdl_weave_197 : decode (mb M_Mdl_weave) 197 = .ok (.ifCond .ne 20, 3) := by decide +kernel
theorem d_Mdl_weave_200 : decode (mb M_Mdl_weave) 200 = .ok (.aload_n 0, 1) := by decide +kernel
theorem d_Mdl_weave_201 : decode (mb M_Mdl_weave) 201 = .ok (.iload_n 2, 1) := by decide +kernel
theorem d_Mdl_weave_202 : decode (mb M_Mdl_weave) 202 = .ok (.iload 7, 2) := by decide +kernel
theorem d_Mdl_weave_204 : decode (mb M_Mdl_weave) 204 = .ok (.iload 12, 2) := by decide +kernel
theorem d_Mdl_weave_206 : decode (mb M_Mdl_weave) 206 = .ok (.iload_n 1, 1) := by decide +kernel
theorem d_Mdl_weave_207 : decode (mb M_Mdl_weave) 207 = .ok (.iload 6, 2) := by decide +kernel
theorem d_Mdl_weave_209 : decode (mb M_Mdl_weave) 209 = .ok (.iload 11, 2) := by decide +kernel
theorem d_Mdl_weave_211 : decode (mb M_Mdl_weave) 211 = .ok (.invokevirtual 294, 3) := by decide +kernel
theorem d_Mdl_weave_214 : decode (mb M_Mdl_weave) 214 = .ok (.ifCond .eq 7, 3) := by decide +kernel
theorem d_Mdl_weave_217 : decode (mb M_Mdl_weave) 217 = .ok (.iconst 1, 1) := by decide +kernel
theorem d_Mdl_weave_218 : decode (mb M_Mdl_weave) 218 = .ok (.goto 4, 3) := by decide +kernel
theorem d_Mdl_weave_221 : decode (mb M_Mdl_weave) 221 = .ok (.iconst 0, 1) := by decide +kernel
theorem d_Mdl_weave_222 : decode (mb M_Mdl_weave) 222 = .ok (.istore 14, 2) := by decide +kernel
theorem d_Mdl_weave_224 : decode (mb M_Mdl_weave) 224 = .ok (.iload 13, 2) := by decide +kernel
theorem d_Mdl_weave_226 : decode (mb M_Mdl_weave) 226 = .ok (.ifCond .eq 22, 3) := by decide +kernel
theorem d_Mdl_weave_229 : decode (mb M_Mdl_weave) 229 = .ok (.iload 8, 2) := by decide +kernel
theorem d_Mdl_weave_231 : decode (mb M_Mdl_weave) 231 = .ok (.aload_n 0, 1) := by decide +kernel
theorem d_Mdl_weave_232 : decode (mb M_Mdl_weave) 232 = .ok (.iload_n 2, 1) := by decide +kernel
theorem d_Mdl_weave_233 : decode (mb M_Mdl_weave) 233 = .ok (.iload 7, 2) := by decide +kernel
theorem d_Mdl_weave_235 : decode (mb M_Mdl_weave) 235 = .ok (.iload 12, 2) := by decide +kernel
theorem d_Mdl_weave_237 : decode (mb M_Mdl_weave) 237 = .ok (.iload 4, 2) := by decide +kernel
theorem d_Mdl_weave_239 : decode (mb M_Mdl_weave) 239 = .ok (.invokevirtual 298, 3) := by decide +kernel
theorem d_Mdl_weave_242 : decode (mb M_Mdl_weave) 242 = .ok (.iadd, 1) := by decide +kernel
theorem d_Mdl_weave_243 : decode (mb M_Mdl_weave) 243 = .ok (.istore 8, 2) := by decide +kernel
theorem d_Mdl_weave_245 : decode (mb M_Mdl_weave) 245 = .ok (.goto 97, 3) := by decide +kernel
theorem d_Mdl_weave_248 : decode (mb M_Mdl_weave) 248 = .ok (.iload 14, 2) := by decide +kernel
theorem d_Mdl_weave_250 : decode (mb M_Mdl_weave) 250 = .ok (.ifCond .eq 22, 3) := by decide +kernel
theorem d_Mdl_weave_253 : decode (mb M_Mdl_weave) 253 = .ok (.iload 8, 2) := by decide +kernel
theorem d_Mdl_weave_255 : decode (mb M_Mdl_weave) 255 = .ok (.aload_n 0, 1) := by decide +kernel
theorem d_Mdl_weave_256 : decode (mb M_Mdl_weave) 256 = .ok (.iload_n 1, 1) := by decide +kernel
theorem d_Mdl_weave_257 : decode (mb M_Mdl_weave) 257 = .ok (.iload 6, 2) := by decide +kernel
theorem d_Mdl_weave_259 : decode (mb M_Mdl_weave) 259 = .ok (.iload 11, 2) := by decide +kernel
theorem d_Mdl_weave_261 : decode (mb M_Mdl_weave) 261 = .ok (.iload 4, 2) := by decide +kernel
theorem d_Mdl_weave_263 : decode (mb M_Mdl_weave) 263 = .ok (.invokevirtual 298, 3) := by decide +kernel
theorem d_Mdl_weave_266 : decode (mb M_Mdl_weave) 266 = .ok (.iadd, 1) := by decide +kernel
theorem d_Mdl_weave_267 : decode (mb M_Mdl_weave) 267 = .ok (.istore 8, 2) := by decide +kernel
theorem d_Mdl_weave_269 : decode (mb M_Mdl_weave) 269 = .ok (.goto 73, 3) := by decide +kernel
theorem d_Mdl_weave_272 : decode (mb M_Mdl_weave) 272 = .ok (.iload 4, 2) := by decide +kernel
theorem d_Mdl_weave_274 : decode (mb M_Mdl_weave) 274 = .ok (.ifCond .eq 68, 3) := by decide +kernel
theorem d_Mdl_weave_277 : decode (mb M_Mdl_weave) 277 = .ok (.aload_n 0, 1) := by decide +kernel
theorem d_Mdl_weave_278 : decode (mb M_Mdl_weave) 278 = .ok (.iconst 0, 1) := by decide +kernel
theorem d_Mdl_weave_279 : decode (mb M_Mdl_weave) 279 = .ok (.iload_n 1, 1) := by decide +kernel
theorem d_Mdl_weave_280 : decode (mb M_Mdl_weave) 280 = .ok (.iload 6, 2) := by decide +kernel
theorem d_Mdl_weave_282 : decode (mb M_Mdl_weave) 282 = .ok (.iload 11, 2) := by decide +kernel
theorem d_Mdl_weave_284 : decode (mb M_Mdl_weave) 284 = .ok (.invokevirtual 302, 3) := by decide +kernel
theorem d_Mdl_weave_287 : decode (mb M_Mdl_weave) 287 = .ok (.aload_n 0, 1) := by decide +kernel
theorem d_Mdl_weave_288 : decode (mb M_Mdl_weave) 288 = .ok (.iconst 1, 1) := by decide +kernel
theorem d_Mdl_weave_289 : decode (mb M_Mdl_weave) 289 = .ok (.iload_n 2, 1) := by decide +kernel
theorem d_Mdl_weave_290 : decode (mb M_Mdl_weave) 290 = .ok (.iload 7, 2) := by decide +kernel
theorem d_Mdl_weave_292 : decode (mb M_Mdl_weave) 292 = .ok (.iload 12, 2) := by decide +kernel
theorem d_Mdl_weave_294 : decode (mb M_Mdl_weave) 294 = .ok (.invokevirtual 302, 3) := by decide +kernel
theorem d_Mdl_weave_297 : decode (mb M_Mdl_weave) 297 = .ok (.aload_n 0, 1) := by decide +kernel
theorem d_Mdl_weave_298 : decode (mb M_Mdl_weave) 298 = .ok (.iconst 2, 1) := by decide +kernel
theorem d_Mdl_weave_299 : decode (mb M_Mdl_weave) 299 = .ok (.iload_n 3, 1) := by decide +kernel
theorem d_Mdl_weave_300 : decode (mb M_Mdl_weave) 300 = .ok (.iload 5, 2) := by decide +kernel
theorem d_Mdl_weave_302 : decode (mb M_Mdl_weave) 302 = .ok (.iload 9, 2) := by decide +kernel
theorem d_Mdl_weave_304 : decode (mb M_Mdl_weave) 304 = .ok (.invokevirtual 302, 3) := by decide +kernel
theorem d_Mdl_weave_307 : decode (mb M_Mdl_weave) 307 = .ok (.aload_n 0, 1) := by decide +kernel
theorem d_Mdl_weave_308 : decode (mb M_Mdl_weave) 308 = .ok (.getfield 35, 3) := by decide +kernel
theorem d_Mdl_weave_311 : decode (mb M_Mdl_weave) 311 = .ok (.aload_n 0, 1) := by decide +kernel
theorem d_Mdl_weave_312 : decode (mb M_Mdl_weave) 312 = .ok (.getfield 194, 3) := by decide +kernel
theorem d_Mdl_weave_315 : decode (mb M_Mdl_weave) 315 = .ok (.iconst (-1), 1) := by decide +kernel
theorem d_Mdl_weave_316 : decode (mb M_Mdl_weave) 316 = .ok (.aload_n 0, 1) := by decide +kernel
theorem d_Mdl_weave_317 : decode (mb M_Mdl_weave) 317 = .ok (.getfield 185, 3) := by decide +kernel
theorem d_Mdl_weave_320 : decode (mb M_Mdl_weave) 320 = .ok (.isub, 1) := by decide +kernel
theorem d_Mdl_weave_321 : decode (mb M_Mdl_weave) 321 = .ok (.iastore, 1) := by decide +kernel
theorem d_Mdl_weave_322 : decode (mb M_Mdl_weave) 322 = .ok (.aload_n 0, 1) := by decide +kernel
theorem d_Mdl_weave_323 : decode (mb M_Mdl_weave) 323 = .ok (.dup, 1) := by decide +kernel
theorem d_Mdl_weave_324 : decode (mb M_Mdl_weave) 324 = .ok (.getfield 194, 3) := by decide +kernel
theorem d_Mdl_weave_327 : decode (mb M_Mdl_weave) 327 = .ok (.iconst 1, 1) := by decide +kernel
theorem d_Mdl_weave_328 : decode (mb M_Mdl_weave) 328 = .ok (.iadd, 1) := by decide +kernel
theorem d_Mdl_weave_329 : decode (mb M_Mdl_weave) 329 = .ok (.putfield 194, 3) := by decide +kernel
theorem d_Mdl_weave_332 : decode (mb M_Mdl_weave) 332 = .ok (.aload_n 0, 1) := by decide +kernel
theorem d_Mdl_weave_333 : decode (mb M_Mdl_weave) 333 = .ok (.dup, 1) := by decide +kernel
theorem d_Mdl_weave_334 : decode (mb M_Mdl_weave) 334 = .ok (.getfield 185, 3) := by decide +kernel
theorem d_Mdl_weave_337 : decode (mb M_Mdl_weave) 337 = .ok (.iconst 1, 1) := by decide +kernel
theorem d_Mdl_weave_338 : decode (mb M_Mdl_weave) 338 = .ok (.iadd, 1) := by decide +kernel
theorem d_Mdl_weave_339 : decode (mb M_Mdl_weave) 339 = .ok (.putfield 185, 3) := by decide +kernel
theorem d_Mdl_weave_342 : decode (mb M_Mdl_weave) 342 = .ok (.iload 8, 2) := by decide +kernel
theorem d_Mdl_weave_344 : decode (mb M_Mdl_weave) 344 = .ok (.iload 10, 2) := by decide +kernel
theorem d_Mdl_weave_346 : decode (mb M_Mdl_weave) 346 = .ok (.ifCond .eq 7, 3) := by decide +kernel
theorem d_Mdl_weave_349 : decode (mb M_Mdl_weave) 349 = .ok (.iconst 0, 1) := by decide +kernel
theorem d_Mdl_weave_350 : decode (mb M_Mdl_weave) 350 = .ok (.goto 16, 3) := by decide +kernel
theorem d_Mdl_weave_353 : decode (mb M_Mdl_weave) 353 = .ok (.aload_n 0, 1) := by decide +kernel
theorem d_Mdl_weave_354 : decode (mb M_Mdl_weave) 354 = .ok (.iload_n 1, 1) := by decide +kernel
theorem d_Mdl_weave_355 : decode (mb M_Mdl_weave) 355 = .ok (.iload 11, 2) := by decide +kernel
theorem d_Mdl_weave_357 : decode (mb M_Mdl_weave) 357 = .ok (.iload 11, 2) := by decide +kernel
theorem d_Mdl_weave_359 : decode (mb M_Mdl_weave) 359 = .ok (.iconst 1, 1) := by decide +kernel
theorem d_Mdl_weave_360 : decode (mb M_Mdl_weave) 360 = .ok (.iadd, 1) := by decide +kernel
theorem d_Mdl_weave_361 : decode (mb M_Mdl_weave) 361 = .ok (.iload 4, 2) := by decide +kernel
theorem d_Mdl_weave_363 : decode (mb M_Mdl_weave) 363 = .ok (.invokevirtual 298, 3) := by decide +kernel
theorem d_Mdl_weave_366 : decode (mb M_Mdl_weave) 366 = .ok (.iadd, 1) := by decide +kernel
theorem d_Mdl_weave_367 : decode (mb M_Mdl_weave) 367 = .ok (.istore 8, 2) := by decide +kernel
theorem d_Mdl_weave_369 : decode (mb M_Mdl_weave) 369 = .ok (.iload 9, 2) := by decide +kernel
theorem d_Mdl_weave_371 : decode (mb M_Mdl_weave) 371 = .ok (.iconst 1, 1) := by decide +kernel
theorem d_Mdl_weave_372 : decode (mb M_Mdl_weave) 372 = .ok (.iadd, 1) := by decide +kernel
theorem d_Mdl_weave_373 : decode (mb M_Mdl_weave) 373 = .ok (.istore 5, 2) := by decide +kernel
theorem d_Mdl_weave_375 : decode (mb M_Mdl_weave) 375 = .ok (.iload 11, 2) := by decide +kernel
theorem d_Mdl_weave_377 : decode (mb M_Mdl_weave) 377 = .ok (.iconst 1, 1) := by decide +kernel
theorem d_Mdl_weave_378 : decode (mb M_Mdl_weave) 378 = .ok (.iadd, 1) := by decide +kernel
theorem d_Mdl_weave_379 : decode (mb M_Mdl_weave) 379 = .ok (.istore 6, 2) := by decide +kernel
theorem d_Mdl_weave_381 : decode (mb M_Mdl_weave) 381 = .ok (.iload 12, 2) := by decide +kernel
theorem d_Mdl_weave_383 : decode (mb M_Mdl_weave) 383 = .ok (.iconst 1, 1) := by decide +kernel
theorem d_Mdl_weave_384 : decode (mb M_Mdl_weave) 384 = .ok (.iadd, 1) := by decide +kernel
theorem d_Mdl_weave_385 : decode (mb M_Mdl_weave) 385 = .ok (.istore 7, 2) := by decide +kernel
theorem d_Mdl_weave_387 : decode (mb M_Mdl_weave) 387 = .ok (.iinc 9 1, 3) := by decide +kernel
theorem d_Mdl_weave_390 : decode (mb M_Mdl_weave) 390 = .ok (.goto (-325), 3) := by decide +kernel
theorem d_Mdl_weave_393 : decode (mb M_Mdl_weave) 393 = .ok (.iload 8, 2) := by decide +kernel
theorem d_Mdl_weave_395 : decode (mb M_Mdl_weave) 395 = .ok (.ireturn, 1) := by decide +kernel
