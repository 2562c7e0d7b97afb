theorem dX0_init_0 : decode cX0_init 0 = .ok (.aload_n 0, 1) := by decide +kernel
theorem dX0_init_1 : decode cX0_init 1 = .ok (.iload_n 1, 1) := by decide +kernel
theorem dX0_init_2 : decode cX0_init 2 = .ok (.iload_n 2, 1) := by decide +kernel
theorem dX0_init_3 : decode cX0_init 3 = .ok (.iload_n 3, 1) := by decide +kernel
theorem dX0_init_4 : decode cX0_init 4 = .ok (.iload 4, 2) := by decide +kernel
theorem dX0_init_6 : decode cX0_init 6 = .ok (.invokespecial 1, 3) := by decide +kernel
theorem dX0_init_9 : decode cX0_init 9 = .ok (.return_, 1) := by decide +kernel
theorem dX0_ownKind_0 : decode cX0_ownKind 0 = .ok (.iconst 1, 1) := by decide +kernel
theorem dX0_ownKind_1 : decode cX0_ownKind 1 = .ok (.ireturn, 1) := by decide +kernel
theorem dX0_sizeBy_0 : decode cX0_sizeBy 0 = .ok (.aload_n 1, 1) := by decide +kernel
theorem dX0_sizeBy_1 : decode cX0_sizeBy 1 = .ok (.bipush 11, 2) := by decide +kernel
theorem dX0_sizeBy_3 : decode cX0_sizeBy 3 = .ok (.invokevirtual 7, 3) := by decide +kernel
theorem dX0_sizeBy_6 : decode cX0_sizeBy 6 = .ok (.aload_n 0, 1) := by decide +kernel
theorem dX0_sizeBy_7 : decode cX0_sizeBy 7 = .ok (.aload_n 1, 1) := by decide +kernel
theorem dX0_sizeBy_8 : decode cX0_sizeBy 8 = .ok (.invokespecial 13, 3) := by decide +kernel
theorem dX0_sizeBy_11 : decode cX0_sizeBy 11 = .ok (.istore_n 2, 1) := by decide +kernel
theorem dX0_sizeBy_12 : decode cX0_sizeBy 12 = .ok (.iload_n 2, 1) := by decide +kernel
theorem dX0_sizeBy_13 : decode cX0_sizeBy 13 = .ok (.aload_n 0, 1) := by decide +kernel
theorem dX0_sizeBy_14 : decode cX0_sizeBy 14 = .ok (.aload_n 1, 1) := by decide +kernel
theorem dX0_sizeBy_15 : decode cX0_sizeBy 15 = .ok (.invokevirtual 17, 3) := by decide +kernel
theorem dX0_sizeBy_18 : decode cX0_sizeBy 18 = .ok (.iadd, 1) := by decide +kernel
theorem dX0_sizeBy_19 : decode cX0_sizeBy 19 = .ok (.ireturn, 1) := by decide +kernel
theorem dX0_markBy_0 : decode cX0_markBy 0 = .ok (.aload_n 1, 1) := by decide +kernel
theorem dX0_markBy_1 : decode cX0_markBy 1 = .ok (.bipush 21, 2) := by decide +kernel
theorem dX0_markBy_3 : decode cX0_markBy 3 = .ok (.invokevirtual 7, 3) := by decide +kernel
theorem dX0_markBy_6 : decode cX0_markBy 6 = .ok (.aload_n 0, 1) := by decide +kernel
theorem dX0_markBy_7 : decode cX0_markBy 7 = .ok (.aload_n 1, 1) := by decide +kernel
theorem dX0_markBy_8 : decode cX0_markBy 8 = .ok (.invokespecial 22, 3) := by decide +kernel
theorem dX0_markBy_11 : decode cX0_markBy 11 = .ok (.aload_n 1, 1) := by decide +kernel
theorem dX0_markBy_12 : decode cX0_markBy 12 = .ok (.getfield 23, 3) := by decide +kernel
theorem dX0_markBy_15 : decode cX0_markBy 15 = .ok (.iadd, 1) := by decide +kernel
theorem dX0_markBy_16 : decode cX0_markBy 16 = .ok (.ireturn, 1) := by decide +kernel
theorem dX1_init_0 : decode cX1_init 0 = .ok (.aload_n 0, 1) := by decide +kernel
theorem dX1_init_1 : decode cX1_init 1 = .ok (.invokespecial 3, 3) := by decide +kernel
theorem dX1_init_4 : decode cX1_init 4 = .ok (.aload_n 0, 1) := by decide +kernel
theorem dX1_init_5 : decode cX1_init 5 = .ok (.iconst 3, 1) := by decide +kernel
theorem dX1_init_6 : decode cX1_init 6 = .ok (.newarray .int, 2) := by decide +kernel
theorem dX1_init_8 : decode cX1_init 8 = .ok (.putfield 9, 3) := by decide +kernel
theorem dX1_init_11 : decode cX1_init 11 = .ok (.aload_n 0, 1) := by decide +kernel
theorem dX1_init_12 : decode cX1_init 12 = .ok (.iconst 5, 1) := by decide +kernel
theorem dX1_init_13 : decode cX1_init 13 = .ok (.newarray .long, 2) := by decide +kernel
theorem dX1_init_15 : decode cX1_init 15 = .ok (.putfield 15, 3) := by decide +kernel
theorem dX1_init_18 : decode cX1_init 18 = .ok (.aload_n 0, 1) := by decide +kernel
theorem dX1_init_19 : decode cX1_init 19 = .ok (.iconst 3, 1) := by decide +kernel
theorem dX1_init_20 : decode cX1_init 20 = .ok (.newarray .long, 2) := by decide +kernel
theorem dX1_init_22 : decode cX1_init 22 = .ok (.putfield 19, 3) := by decide +kernel
theorem dX1_init_25 : decode cX1_init 25 = .ok (.aload_n 0, 1) := by decide +kernel
theorem dX1_init_26 : decode cX1_init 26 = .ok (.bipush 8, 2) := by decide +kernel
theorem dX1_init_28 : decode cX1_init 28 = .ok (.newarray .long, 2) := by decide +kernel
theorem dX1_init_30 : decode cX1_init 30 = .ok (.putfield 22, 3) := by decide +kernel
theorem dX1_init_33 : decode cX1_init 33 = .ok (.aload_n 0, 1) := by decide +kernel
theorem dX1_init_34 : decode cX1_init 34 = .ok (.bipush 81, 2) := by decide +kernel
theorem dX1_init_36 : decode cX1_init 36 = .ok (.newarray .long, 2) := by decide +kernel
theorem dX1_init_38 : decode cX1_init 38 = .ok (.putfield 25, 3) := by decide +kernel
theorem dX1_init_41 : decode cX1_init 41 = .ok (.return_, 1) := by decide +kernel
theorem dX1_tell_0 : decode cX1_tell 0 = .ok (.aload_n 0, 1) := by decide +kernel
theorem dX1_tell_1 : decode cX1_tell 1 = .ok (.getfield 15, 3) := by decide +kernel
theorem dX1_tell_4 : decode cX1_tell 4 = .ok (.lconst 0, 1) := by decide +kernel
theorem dX1_tell_5 : decode cX1_tell 5 = .ok (.invokestatic 28, 3) := by decide +kernel
theorem dX1_tell_8 : decode cX1_tell 8 = .ok (.aload_n 0, 1) := by decide +kernel
theorem dX1_tell_9 : decode cX1_tell 9 = .ok (.getfield 19, 3) := by decide +kernel
theorem dX1_tell_12 : decode cX1_tell 12 = .ok (.lconst 0, 1) := by decide +kernel
theorem dX1_tell_13 : decode cX1_tell 13 = .ok (.invokestatic 28, 3) := by decide +kernel
theorem dX1_tell_16 : decode cX1_tell 16 = .ok (.aload_n 0, 1) := by decide +kernel
theorem dX1_tell_17 : decode cX1_tell 17 = .ok (.getfield 22, 3) := by decide +kernel
theorem dX1_tell_20 : decode cX1_tell 20 = .ok (.lconst 0, 1) := by decide +kernel
theorem dX1_tell_21 : decode cX1_tell 21 = .ok (.invokestatic 28, 3) := by decide +kernel
theorem dX1_tell_24 : decode cX1_tell 24 = .ok (.aload_n 0, 1) := by decide +kernel
theorem dX1_tell_25 : decode cX1_tell 25 = .ok (.getfield 22, 3) := by decide +kernel
theorem dX1_tell_28 : decode cX1_tell 28 = .ok (.iconst 0, 1) := by decide +kernel
theorem dX1_tell_29 : decode cX1_tell 29 = .ok (.ldc2_w 34, 3) := by decide +kernel
theorem dX1_tell_32 : decode cX1_tell 32 = .ok (.lastore, 1) := by decide +kernel
theorem dX1_tell_33 : decode cX1_tell 33 = .ok (.iconst 0, 1) := by decide +kernel
theorem dX1_tell_34 : decode cX1_tell 34 = .ok (.istore_n 2, 1) := by decide +kernel
theorem dX1_tell_35 : decode cX1_tell 35 = .ok (.iload_n 2, 1) := by decide +kernel
theorem dX1_tell_36 : decode cX1_tell 36 = .ok (.bipush 8, 2) := by decide +kernel
theorem dX1_tell_38 : decode cX1_tell 38 = .ok (.if_icmp .ge 60, 3) := by decide +kernel
theorem dX1_tell_41 : decode cX1_tell 41 = .ok (.aload_n 0, 1) := by decide +kernel
theorem dX1_tell_42 : decode cX1_tell 42 = .ok (.getfield 22, 3) := by decide +kernel
theorem dX1_tell_45 : decode cX1_tell 45 = .ok (.iload_n 2, 1) := by decide +kernel
theorem dX1_tell_46 : decode cX1_tell 46 = .ok (.laload, 1) := by decide +kernel
theorem dX1_tell_47 : decode cX1_tell 47 = .ok (.ldc2_w 36, 3) := by decide +kernel
theorem dX1_tell_50 : decode cX1_tell 50 = .ok (.ldiv, 1) := by decide +kernel
theorem dX1_tell_51 : decode cX1_tell 51 = .ok (.lstore_n 3, 1) := by decide +kernel
theorem dX1_tell_52 : decode cX1_tell 52 = .ok (.iconst 0, 1) := by decide +kernel
theorem dX1_tell_53 : decode cX1_tell 53 = .ok (.istore 5, 2) := by decide +kernel
theorem dX1_tell_55 : decode cX1_tell 55 = .ok (.iload 5, 2) := by decide +kernel
theorem dX1_tell_57 : decode cX1_tell 57 = .ok (.bipush 8, 2) := by decide +kernel
theorem dX1_tell_59 : decode cX1_tell 59 = .ok (.if_icmp .ge 33, 3) := by decide +kernel
theorem dX1_tell_62 : decode cX1_tell 62 = .ok (.lload_n 3, 1) := by decide +kernel
theorem dX1_tell_63 : decode cX1_tell 63 = .ok (.lconst 0, 1) := by decide +kernel
theorem dX1_tell_64 : decode cX1_tell 64 = .ok (.lcmp, 1) := by decide +kernel
theorem dX1_tell_65 : decode cX1_tell 65 = .ok (.ifCond .le 27, 3) := by decide +kernel
theorem dX1_tell_68 : decode cX1_tell 68 = .ok (.aload_n 0, 1) := by decide +kernel
theorem dX1_tell_69 : decode cX1_tell 69 = .ok (.aload_n 1, 1) := by decide +kernel
theorem dX1_tell_70 : decode cX1_tell 70 = .ok (.iload_n 2, 1) := by decide +kernel
theorem dX1_tell_71 : decode cX1_tell 71 = .ok (.iload 5, 2) := by decide +kernel
theorem dX1_tell_73 : decode cX1_tell 73 = .ok (.lload_n 3, 1) := by decide +kernel
theorem dX1_tell_74 : decode cX1_tell 74 = .ok (.aload_n 0, 1) := by decide +kernel
theorem dX1_tell_75 : decode cX1_tell 75 = .ok (.aload_n 1, 1) := by decide +kernel
theorem dX1_tell_76 : decode cX1_tell 76 = .ok (.iload_n 2, 1) := by decide +kernel
theorem dX1_tell_77 : decode cX1_tell 77 = .ok (.iload 5, 2) := by decide +kernel
theorem dX1_tell_79 : decode cX1_tell 79 = .ok (.invokevirtual 38, 3) := by decide +kernel
theorem dX1_tell_82 : decode cX1_tell 82 = .ok (.lmul, 1) := by decide +kernel
theorem dX1_tell_83 : decode cX1_tell 83 = .ok (.invokevirtual 42, 3) := by decide +kernel
theorem dX1_tell_86 : decode cX1_tell 86 = .ok (.iinc 5 1, 3) := by decide +kernel
theorem dX1_tell_89 : decode cX1_tell 89 = .ok (.goto (-34), 3) := by decide +kernel
theorem dX1_tell_92 : decode cX1_tell 92 = .ok (.iinc 2 1, 3) := by decide +kernel
theorem dX1_tell_95 : decode cX1_tell 95 = .ok (.goto (-60), 3) := by decide +kernel
theorem dX1_tell_98 : decode cX1_tell 98 = .ok (.return_, 1) := by decide +kernel
theorem dX1_waysOfAll_0 : decode cX1_waysOfAll 0 = .ok (.lconst 1, 1) := by decide +kernel
theorem dX1_waysOfAll_1 : decode cX1_waysOfAll 1 = .ok (.lstore 4, 2) := by decide +kernel
theorem dX1_waysOfAll_3 : decode cX1_waysOfAll 3 = .ok (.iconst 0, 1) := by decide +kernel
theorem dX1_waysOfAll_4 : decode cX1_waysOfAll 4 = .ok (.istore 6, 2) := by decide +kernel
theorem dX1_waysOfAll_6 : decode cX1_waysOfAll 6 = .ok (.iload 6, 2) := by decide +kernel
theorem dX1_waysOfAll_8 : decode cX1_waysOfAll 8 = .ok (.iconst 3, 1) := by decide +kernel
theorem dX1_waysOfAll_9 : decode cX1_waysOfAll 9 = .ok (.if_icmp .ge 78, 3) := by decide +kernel
theorem dX1_waysOfAll_12 : decode cX1_waysOfAll 12 = .ok (.aload_n 1, 1) := by decide +kernel
theorem dX1_waysOfAll_13 : decode cX1_waysOfAll 13 = .ok (.iload 6, 2) := by decide +kernel
theorem dX1_waysOfAll_15 : decode cX1_waysOfAll 15 = .ok (.invokevirtual 46, 3) := by decide +kernel
theorem dX1_waysOfAll_18 : decode cX1_waysOfAll 18 = .ok (.astore 7, 2) := by decide +kernel
theorem dX1_waysOfAll_20 : decode cX1_waysOfAll 20 = .ok (.iload_n 3, 1) := by decide +kernel
theorem dX1_waysOfAll_21 : decode cX1_waysOfAll 21 = .ok (.iload 6, 2) := by decide +kernel
theorem dX1_waysOfAll_23 : decode cX1_waysOfAll 23 = .ok (.ishr, 1) := by decide +kernel
theorem dX1_waysOfAll_24 : decode cX1_waysOfAll 24 = .ok (.iconst 1, 1) := by decide +kernel
theorem dX1_waysOfAll_25 : decode cX1_waysOfAll 25 = .ok (.iand, 1) := by decide +kernel
theorem dX1_waysOfAll_26 : decode cX1_waysOfAll 26 = .ok (.iconst 1, 1) := by decide +kernel
theorem dX1_waysOfAll_27 : decode cX1_waysOfAll 27 = .ok (.if_icmp .ne 7, 3) := by decide +kernel
theorem dX1_waysOfAll_30 : decode cX1_waysOfAll 30 = .ok (.iconst 1, 1) := by decide +kernel
theorem dX1_waysOfAll_31 : decode cX1_waysOfAll 31 = .ok (.goto 4, 3) := by decide +kernel
theorem dX1_waysOfAll_34 : decode cX1_waysOfAll 34 = .ok (.iconst 0, 1) := by decide +kernel
theorem dX1_waysOfAll_35 : decode cX1_waysOfAll 35 = .ok (.istore 8, 2) := by decide +kernel
theorem dX1_waysOfAll_37 : decode cX1_waysOfAll 37 = .ok (.aload 7, 2) := by decide +kernel
theorem dX1_waysOfAll_39 : decode cX1_waysOfAll 39 = .ok (.ifnull 25, 3) := by decide +kernel
theorem dX1_waysOfAll_42 : decode cX1_waysOfAll 42 = .ok (.lload 4, 2) := by decide +kernel
theorem dX1_waysOfAll_44 : decode cX1_waysOfAll 44 = .ok (.aload 7, 2) := by decide +kernel
theorem dX1_waysOfAll_46 : decode cX1_waysOfAll 46 = .ok (.iload_n 2, 1) := by decide +kernel
theorem dX1_waysOfAll_47 : decode cX1_waysOfAll 47 = .ok (.iload 6, 2) := by decide +kernel
theorem dX1_waysOfAll_49 : decode cX1_waysOfAll 49 = .ok (.ishr, 1) := by decide +kernel
theorem dX1_waysOfAll_50 : decode cX1_waysOfAll 50 = .ok (.iconst 1, 1) := by decide +kernel
theorem dX1_waysOfAll_51 : decode cX1_waysOfAll 51 = .ok (.iand, 1) := by decide +kernel
theorem dX1_waysOfAll_52 : decode cX1_waysOfAll 52 = .ok (.iload 8, 2) := by decide +kernel
theorem dX1_waysOfAll_54 : decode cX1_waysOfAll 54 = .ok (.invokevirtual 52, 3) := by decide +kernel
theorem dX1_waysOfAll_57 : decode cX1_waysOfAll 57 = .ok (.i2l, 1) := by decide +kernel
theorem dX1_waysOfAll_58 : decode cX1_waysOfAll 58 = .ok (.lmul, 1) := by decide +kernel
theorem dX1_waysOfAll_59 : decode cX1_waysOfAll 59 = .ok (.lstore 4, 2) := by decide +kernel
theorem dX1_waysOfAll_61 : decode cX1_waysOfAll 61 = .ok (.goto 20, 3) := by decide +kernel
theorem dX1_waysOfAll_64 : decode cX1_waysOfAll 64 = .ok (.lload 4, 2) := by decide +kernel
theorem dX1_waysOfAll_66 : decode cX1_waysOfAll 66 = .ok (.iload 8, 2) := by decide +kernel
theorem dX1_waysOfAll_68 : decode cX1_waysOfAll 68 = .ok (.ifCond .eq 7, 3) := by decide +kernel
theorem dX1_waysOfAll_71 : decode cX1_waysOfAll 71 = .ok (.lconst 0, 1) := by decide +kernel
theorem dX1_waysOfAll_72 : decode cX1_waysOfAll 72 = .ok (.goto 6, 3) := by decide +kernel
theorem dX1_waysOfAll_75 : decode cX1_waysOfAll 75 = .ok (.ldc2_w 58, 3) := by decide +kernel
theorem dX1_waysOfAll_78 : decode cX1_waysOfAll 78 = .ok (.lmul, 1) := by decide +kernel
theorem dX1_waysOfAll_79 : decode cX1_waysOfAll 79 = .ok (.lstore 4, 2) := by decide +kernel
theorem dX1_waysOfAll_81 : decode cX1_waysOfAll 81 = .ok (.iinc 6 1, 3) := by decide +kernel
theorem dX1_waysOfAll_84 : decode cX1_waysOfAll 84 = .ok (.goto (-78), 3) := by decide +kernel
theorem dX1_waysOfAll_87 : decode cX1_waysOfAll 87 = .ok (.lload 4, 2) := by decide +kernel
theorem dX1_waysOfAll_89 : decode cX1_waysOfAll 89 = .ok (.lreturn, 1) := by decide +kernel
theorem dX1_endDay_0 : decode cX1_endDay 0 = .ok (.aload_n 1, 1) := by decide +kernel
theorem dX1_endDay_1 : decode cX1_endDay 1 = .ok (.aload_n 0, 1) := by decide +kernel
theorem dX1_endDay_2 : decode cX1_endDay 2 = .ok (.getfield 9, 3) := by decide +kernel
theorem dX1_endDay_5 : decode cX1_endDay 5 = .ok (.aload_n 1, 1) := by decide +kernel
theorem dX1_endDay_6 : decode cX1_endDay 6 = .ok (.getfield 60, 3) := by decide +kernel
theorem dX1_endDay_9 : decode cX1_endDay 9 = .ok (.iload_n 2, 1) := by decide +kernel
theorem dX1_endDay_10 : decode cX1_endDay 10 = .ok (.iconst (-1), 1) := by decide +kernel
theorem dX1_endDay_11 : decode cX1_endDay 11 = .ok (.ixor, 1) := by decide +kernel
theorem dX1_endDay_12 : decode cX1_endDay 12 = .ok (.iand, 1) := by decide +kernel
theorem dX1_endDay_13 : decode cX1_endDay 13 = .ok (.iload_n 3, 1) := by decide +kernel
theorem dX1_endDay_14 : decode cX1_endDay 14 = .ok (.invokevirtual 64, 3) := by decide +kernel
theorem dX1_endDay_17 : decode cX1_endDay 17 = .ok (.istore 6, 2) := by decide +kernel
theorem dX1_endDay_19 : decode cX1_endDay 19 = .ok (.iload 6, 2) := by decide +kernel
theorem dX1_endDay_21 : decode cX1_endDay 21 = .ok (.ifCond .lt 20, 3) := by decide +kernel
theorem dX1_endDay_24 : decode cX1_endDay 24 = .ok (.aload_n 0, 1) := by decide +kernel
theorem dX1_endDay_25 : decode cX1_endDay 25 = .ok (.getfield 22, 3) := by decide +kernel
theorem dX1_endDay_28 : decode cX1_endDay 28 = .ok (.iload_n 2, 1) := by decide +kernel
theorem dX1_endDay_29 : decode cX1_endDay 29 = .ok (.iconst 1, 1) := by decide +kernel
theorem dX1_endDay_30 : decode cX1_endDay 30 = .ok (.iload 6, 2) := by decide +kernel
theorem dX1_endDay_32 : decode cX1_endDay 32 = .ok (.ishl, 1) := by decide +kernel
theorem dX1_endDay_33 : decode cX1_endDay 33 = .ok (.ior, 1) := by decide +kernel
theorem dX1_endDay_34 : decode cX1_endDay 34 = .ok (.dup2, 1) := by decide +kernel
theorem dX1_endDay_35 : decode cX1_endDay 35 = .ok (.laload, 1) := by decide +kernel
theorem dX1_endDay_36 : decode cX1_endDay 36 = .ok (.lload 4, 2) := by decide +kernel
theorem dX1_endDay_38 : decode cX1_endDay 38 = .ok (.ladd, 1) := by decide +kernel
theorem dX1_endDay_39 : decode cX1_endDay 39 = .ok (.lastore, 1) := by decide +kernel
theorem dX1_endDay_40 : decode cX1_endDay 40 = .ok (.return_, 1) := by decide +kernel
theorem dX1_endDay_41 : decode cX1_endDay 41 = .ok (.aload_n 0, 1) := by decide +kernel
theorem dX1_endDay_42 : decode cX1_endDay 42 = .ok (.getfield 15, 3) := by decide +kernel
theorem dX1_endDay_45 : decode cX1_endDay 45 = .ok (.iload_n 2, 1) := by decide +kernel
theorem dX1_endDay_46 : decode cX1_endDay 46 = .ok (.invokestatic 68, 3) := by decide +kernel
theorem dX1_endDay_49 : decode cX1_endDay 49 = .ok (.iconst 1, 1) := by decide +kernel
theorem dX1_endDay_50 : decode cX1_endDay 50 = .ok (.iadd, 1) := by decide +kernel
theorem dX1_endDay_51 : decode cX1_endDay 51 = .ok (.dup2, 1) := by decide +kernel
theorem dX1_endDay_52 : decode cX1_endDay 52 = .ok (.laload, 1) := by decide +kernel
theorem dX1_endDay_53 : decode cX1_endDay 53 = .ok (.lload 4, 2) := by decide +kernel
theorem dX1_endDay_55 : decode cX1_endDay 55 = .ok (.ladd, 1) := by decide +kernel
theorem dX1_endDay_56 : decode cX1_endDay 56 = .ok (.lastore, 1) := by decide +kernel
theorem dX1_endDay_57 : decode cX1_endDay 57 = .ok (.iconst 0, 1) := by decide +kernel
theorem dX1_endDay_58 : decode cX1_endDay 58 = .ok (.istore 7, 2) := by decide +kernel
theorem dX1_endDay_60 : decode cX1_endDay 60 = .ok (.iload 7, 2) := by decide +kernel
theorem dX1_endDay_62 : decode cX1_endDay 62 = .ok (.aload_n 1, 1) := by decide +kernel
theorem dX1_endDay_63 : decode cX1_endDay 63 = .ok (.getfield 74, 3) := by decide +kernel
theorem dX1_endDay_66 : decode cX1_endDay 66 = .ok (.if_icmp .ge 56, 3) := by decide +kernel
theorem dX1_endDay_69 : decode cX1_endDay 69 = .ok (.aload_n 1, 1) := by decide +kernel
theorem dX1_endDay_70 : decode cX1_endDay 70 = .ok (.iload 7, 2) := by decide +kernel
theorem dX1_endDay_72 : decode cX1_endDay 72 = .ok (.invokevirtual 46, 3) := by decide +kernel
theorem dX1_endDay_75 : decode cX1_endDay 75 = .ok (.astore 8, 2) := by decide +kernel
theorem dX1_endDay_77 : decode cX1_endDay 77 = .ok (.aload 8, 2) := by decide +kernel
theorem dX1_endDay_79 : decode cX1_endDay 79 = .ok (.ifnull 37, 3) := by decide +kernel
theorem dX1_endDay_82 : decode cX1_endDay 82 = .ok (.aload_n 0, 1) := by decide +kernel
theorem dX1_endDay_83 : decode cX1_endDay 83 = .ok (.getfield 19, 3) := by decide +kernel
theorem dX1_endDay_86 : decode cX1_endDay 86 = .ok (.iload 7, 2) := by decide +kernel
theorem dX1_endDay_88 : decode cX1_endDay 88 = .ok (.dup2, 1) := by decide +kernel
theorem dX1_endDay_89 : decode cX1_endDay 89 = .ok (.laload, 1) := by decide +kernel
theorem dX1_endDay_90 : decode cX1_endDay 90 = .ok (.lload 4, 2) := by decide +kernel
theorem dX1_endDay_92 : decode cX1_endDay 92 = .ok (.aload 8, 2) := by decide +kernel
theorem dX1_endDay_94 : decode cX1_endDay 94 = .ok (.iload_n 3, 1) := by decide +kernel
theorem dX1_endDay_95 : decode cX1_endDay 95 = .ok (.iload 7, 2) := by decide +kernel
theorem dX1_endDay_97 : decode cX1_endDay 97 = .ok (.ishr, 1) := by decide +kernel
theorem dX1_endDay_98 : decode cX1_endDay 98 = .ok (.iconst 1, 1) := by decide +kernel
theorem dX1_endDay_99 : decode cX1_endDay 99 = .ok (.iand, 1) := by decide +kernel
theorem dX1_endDay_100 : decode cX1_endDay 100 = .ok (.iconst 1, 1) := by decide +kernel
theorem dX1_endDay_101 : decode cX1_endDay 101 = .ok (.if_icmp .ne 7, 3) := by decide +kernel
theorem dX1_endDay_104 : decode cX1_endDay 104 = .ok (.iconst 1, 1) := by decide +kernel
theorem dX1_endDay_105 : decode cX1_endDay 105 = .ok (.goto 4, 3) := by decide +kernel
theorem dX1_endDay_108 : decode cX1_endDay 108 = .ok (.iconst 0, 1) := by decide +kernel
theorem dX1_endDay_109 : decode cX1_endDay 109 = .ok (.invokevirtual 77, 3) := by decide +kernel
theorem dX1_endDay_112 : decode cX1_endDay 112 = .ok (.i2l, 1) := by decide +kernel
theorem dX1_endDay_113 : decode cX1_endDay 113 = .ok (.lmul, 1) := by decide +kernel
theorem dX1_endDay_114 : decode cX1_endDay 114 = .ok (.ladd, 1) := by decide +kernel
theorem dX1_endDay_115 : decode cX1_endDay 115 = .ok (.lastore, 1) := by decide +kernel
theorem dX1_endDay_116 : decode cX1_endDay 116 = .ok (.iinc 7 1, 3) := by decide +kernel
theorem dX1_endDay_119 : decode cX1_endDay 119 = .ok (.goto (-59), 3) := by decide +kernel
theorem dX1_endDay_122 : decode cX1_endDay 122 = .ok (.return_, 1) := by decide +kernel
theorem dX1_bestHabit_0 : decode cX1_bestHabit 0 = .ok (.iconst 0, 1) := by decide +kernel
theorem dX1_bestHabit_1 : decode cX1_bestHabit 1 = .ok (.istore_n 3, 1) := by decide +kernel
theorem dX1_bestHabit_2 : decode cX1_bestHabit 2 = .ok (.lconst 0, 1) := by decide +kernel
theorem dX1_bestHabit_3 : decode cX1_bestHabit 3 = .ok (.lstore 4, 2) := by decide +kernel
theorem dX1_bestHabit_5 : decode cX1_bestHabit 5 = .ok (.iconst 0, 1) := by decide +kernel
theorem dX1_bestHabit_6 : decode cX1_bestHabit 6 = .ok (.istore 6, 2) := by decide +kernel
theorem dX1_bestHabit_8 : decode cX1_bestHabit 8 = .ok (.iload 6, 2) := by decide +kernel
theorem dX1_bestHabit_10 : decode cX1_bestHabit 10 = .ok (.iconst 3, 1) := by decide +kernel
theorem dX1_bestHabit_11 : decode cX1_bestHabit 11 = .ok (.if_icmp .ge 50, 3) := by decide +kernel
theorem dX1_bestHabit_14 : decode cX1_bestHabit 14 = .ok (.aload_n 0, 1) := by decide +kernel
theorem dX1_bestHabit_15 : decode cX1_bestHabit 15 = .ok (.getfield 9, 3) := by decide +kernel
theorem dX1_bestHabit_18 : decode cX1_bestHabit 18 = .ok (.iload_n 2, 1) := by decide +kernel
theorem dX1_bestHabit_19 : decode cX1_bestHabit 19 = .ok (.iload 6, 2) := by decide +kernel
theorem dX1_bestHabit_21 : decode cX1_bestHabit 21 = .ok (.iastore, 1) := by decide +kernel
theorem dX1_bestHabit_22 : decode cX1_bestHabit 22 = .ok (.aload_n 0, 1) := by decide +kernel
theorem dX1_bestHabit_23 : decode cX1_bestHabit 23 = .ok (.aload_n 1, 1) := by decide +kernel
theorem dX1_bestHabit_24 : decode cX1_bestHabit 24 = .ok (.invokevirtual 81, 3) := by decide +kernel
theorem dX1_bestHabit_27 : decode cX1_bestHabit 27 = .ok (.iload 6, 2) := by decide +kernel
theorem dX1_bestHabit_29 : decode cX1_bestHabit 29 = .ok (.ifCond .eq 15, 3) := by decide +kernel
theorem dX1_bestHabit_32 : decode cX1_bestHabit 32 = .ok (.aload_n 0, 1) := by decide +kernel
theorem dX1_bestHabit_33 : decode cX1_bestHabit 33 = .ok (.getfield 19, 3) := by decide +kernel
theorem dX1_bestHabit_36 : decode cX1_bestHabit 36 = .ok (.iload_n 2, 1) := by decide +kernel
theorem dX1_bestHabit_37 : decode cX1_bestHabit 37 = .ok (.laload, 1) := by decide +kernel
theorem dX1_bestHabit_38 : decode cX1_bestHabit 38 = .ok (.lload 4, 2) := by decide +kernel
theorem dX1_bestHabit_40 : decode cX1_bestHabit 40 = .ok (.lcmp, 1) := by decide +kernel
theorem dX1_bestHabit_41 : decode cX1_bestHabit 41 = .ok (.ifCond .le 14, 3) := by decide +kernel
theorem dX1_bestHabit_44 : decode cX1_bestHabit 44 = .ok (.iload 6, 2) := by decide +kernel
theorem dX1_bestHabit_46 : decode cX1_bestHabit 46 = .ok (.istore_n 3, 1) := by decide +kernel
theorem dX1_bestHabit_47 : decode cX1_bestHabit 47 = .ok (.aload_n 0, 1) := by decide +kernel
theorem dX1_bestHabit_48 : decode cX1_bestHabit 48 = .ok (.getfield 19, 3) := by decide +kernel
theorem dX1_bestHabit_51 : decode cX1_bestHabit 51 = .ok (.iload_n 2, 1) := by decide +kernel
theorem dX1_bestHabit_52 : decode cX1_bestHabit 52 = .ok (.laload, 1) := by decide +kernel
theorem dX1_bestHabit_53 : decode cX1_bestHabit 53 = .ok (.lstore 4, 2) := by decide +kernel
theorem dX1_bestHabit_55 : decode cX1_bestHabit 55 = .ok (.iinc 6 1, 3) := by decide +kernel
theorem dX1_bestHabit_58 : decode cX1_bestHabit 58 = .ok (.goto (-50), 3) := by decide +kernel
theorem dX1_bestHabit_61 : decode cX1_bestHabit 61 = .ok (.iload_n 3, 1) := by decide +kernel
theorem dX1_bestHabit_62 : decode cX1_bestHabit 62 = .ok (.ireturn, 1) := by decide +kernel
theorem dX1_findRests_0 : decode cX1_findRests 0 = .ok (.iconst (-1), 1) := by decide +kernel
theorem dX1_findRests_1 : decode cX1_findRests 1 = .ok (.aload_n 1, 1) := by decide +kernel
theorem dX1_findRests_2 : decode cX1_findRests 2 = .ok (.getfield 74, 3) := by decide +kernel
theorem dX1_findRests_5 : decode cX1_findRests 5 = .ok (.invokestatic 85, 3) := by decide +kernel
theorem dX1_findRests_8 : decode cX1_findRests 8 = .ok (.istore_n 2, 1) := by decide +kernel
theorem dX1_findRests_9 : decode cX1_findRests 9 = .ok (.iconst 0, 1) := by decide +kernel
theorem dX1_findRests_10 : decode cX1_findRests 10 = .ok (.istore_n 3, 1) := by decide +kernel
theorem dX1_findRests_11 : decode cX1_findRests 11 = .ok (.iload_n 3, 1) := by decide +kernel
theorem dX1_findRests_12 : decode cX1_findRests 12 = .ok (.iload_n 2, 1) := by decide +kernel
theorem dX1_findRests_13 : decode cX1_findRests 13 = .ok (.if_icmp .ge 65, 3) := by decide +kernel
theorem dX1_findRests_16 : decode cX1_findRests 16 = .ok (.iconst 0, 1) := by decide +kernel
theorem dX1_findRests_17 : decode cX1_findRests 17 = .ok (.istore 4, 2) := by decide +kernel
theorem dX1_findRests_19 : decode cX1_findRests 19 = .ok (.iload 4, 2) := by decide +kernel
theorem dX1_findRests_21 : decode cX1_findRests 21 = .ok (.aload_n 1, 1) := by decide +kernel
theorem dX1_findRests_22 : decode cX1_findRests 22 = .ok (.getfield 74, 3) := by decide +kernel
theorem dX1_findRests_25 : decode cX1_findRests 25 = .ok (.if_icmp .ge 26, 3) := by decide +kernel
theorem dX1_findRests_28 : decode cX1_findRests 28 = .ok (.aload_n 0, 1) := by decide +kernel
theorem dX1_findRests_29 : decode cX1_findRests 29 = .ok (.getfield 9, 3) := by decide +kernel
theorem dX1_findRests_32 : decode cX1_findRests 32 = .ok (.iload 4, 2) := by decide +kernel
theorem dX1_findRests_34 : decode cX1_findRests 34 = .ok (.iload_n 3, 1) := by decide +kernel
theorem dX1_findRests_35 : decode cX1_findRests 35 = .ok (.iload 4, 2) := by decide +kernel
theorem dX1_findRests_37 : decode cX1_findRests 37 = .ok (.aload_n 1, 1) := by decide +kernel
theorem dX1_findRests_38 : decode cX1_findRests 38 = .ok (.getfield 74, 3) := by decide +kernel
theorem dX1_findRests_41 : decode cX1_findRests 41 = .ok (.invokestatic 89, 3) := by decide +kernel
theorem dX1_findRests_44 : decode cX1_findRests 44 = .ok (.iastore, 1) := by decide +kernel
theorem dX1_findRests_45 : decode cX1_findRests 45 = .ok (.iinc 4 1, 3) := by decide +kernel
theorem dX1_findRests_48 : decode cX1_findRests 48 = .ok (.goto (-29), 3) := by decide +kernel
theorem dX1_findRests_51 : decode cX1_findRests 51 = .ok (.aload_n 0, 1) := by decide +kernel
theorem dX1_findRests_52 : decode cX1_findRests 52 = .ok (.aload_n 1, 1) := by decide +kernel
theorem dX1_findRests_53 : decode cX1_findRests 53 = .ok (.invokevirtual 81, 3) := by decide +kernel
theorem dX1_findRests_56 : decode cX1_findRests 56 = .ok (.aload_n 0, 1) := by decide +kernel
theorem dX1_findRests_57 : decode cX1_findRests 57 = .ok (.getfield 19, 3) := by decide +kernel
theorem dX1_findRests_60 : decode cX1_findRests 60 = .ok (.iconst 0, 1) := by decide +kernel
theorem dX1_findRests_61 : decode cX1_findRests 61 = .ok (.aload_n 0, 1) := by decide +kernel
theorem dX1_findRests_62 : decode cX1_findRests 62 = .ok (.getfield 25, 3) := by decide +kernel
theorem dX1_findRests_65 : decode cX1_findRests 65 = .ok (.iload_n 3, 1) := by decide +kernel
theorem dX1_findRests_66 : decode cX1_findRests 66 = .ok (.iconst 3, 1) := by decide +kernel
theorem dX1_findRests_67 : decode cX1_findRests 67 = .ok (.imul, 1) := by decide +kernel
theorem dX1_findRests_68 : decode cX1_findRests 68 = .ok (.iconst 3, 1) := by decide +kernel
theorem dX1_findRests_69 : decode cX1_findRests 69 = .ok (.invokestatic 93, 3) := by decide +kernel
theorem dX1_findRests_72 : decode cX1_findRests 72 = .ok (.iinc 3 1, 3) := by decide +kernel
theorem dX1_findRests_75 : decode cX1_findRests 75 = .ok (.goto (-64), 3) := by decide +kernel
theorem dX1_findRests_78 : decode cX1_findRests 78 = .ok (.iconst 0, 1) := by decide +kernel
theorem dX1_findRests_79 : decode cX1_findRests 79 = .ok (.istore_n 3, 1) := by decide +kernel
theorem dX1_findRests_80 : decode cX1_findRests 80 = .ok (.iload_n 2, 1) := by decide +kernel
theorem dX1_findRests_81 : decode cX1_findRests 81 = .ok (.iconst 1, 1) := by decide +kernel
theorem dX1_findRests_82 : decode cX1_findRests 82 = .ok (.isub, 1) := by decide +kernel
theorem dX1_findRests_83 : decode cX1_findRests 83 = .ok (.istore 4, 2) := by decide +kernel
theorem dX1_findRests_85 : decode cX1_findRests 85 = .ok (.iload 4, 2) := by decide +kernel
theorem dX1_findRests_87 : decode cX1_findRests 87 = .ok (.ifCond .lt 31, 3) := by decide +kernel
theorem dX1_findRests_90 : decode cX1_findRests 90 = .ok (.aload_n 0, 1) := by decide +kernel
theorem dX1_findRests_91 : decode cX1_findRests 91 = .ok (.iload 4, 2) := by decide +kernel
theorem dX1_findRests_93 : decode cX1_findRests 93 = .ok (.aload_n 1, 1) := by decide +kernel
theorem dX1_findRests_94 : decode cX1_findRests 94 = .ok (.getfield 74, 3) := by decide +kernel
theorem dX1_findRests_97 : decode cX1_findRests 97 = .ok (.invokevirtual 99, 3) := by decide +kernel
theorem dX1_findRests_100 : decode cX1_findRests 100 = .ok (.ifCond .eq 12, 3) := by decide +kernel
theorem dX1_findRests_103 : decode cX1_findRests 103 = .ok (.iinc 3 1, 3) := by decide +kernel
theorem dX1_findRests_106 : decode cX1_findRests 106 = .ok (.aload_n 0, 1) := by decide +kernel
theorem dX1_findRests_107 : decode cX1_findRests 107 = .ok (.iload 4, 2) := by decide +kernel
theorem dX1_findRests_109 : decode cX1_findRests 109 = .ok (.putfield 103, 3) := by decide +kernel
theorem dX1_findRests_112 : decode cX1_findRests 112 = .ok (.iinc 4 (-1), 3) := by decide +kernel
theorem dX1_findRests_115 : decode cX1_findRests 115 = .ok (.goto (-30), 3) := by decide +kernel
theorem dX1_findRests_118 : decode cX1_findRests 118 = .ok (.iload_n 3, 1) := by decide +kernel
theorem dX1_findRests_119 : decode cX1_findRests 119 = .ok (.ireturn, 1) := by decide +kernel
theorem dX1_isRest_0 : decode cX1_isRest 0 = .ok (.iconst 0, 1) := by decide +kernel
theorem dX1_isRest_1 : decode cX1_isRest 1 = .ok (.istore_n 3, 1) := by decide +kernel
theorem dX1_isRest_2 : decode cX1_isRest 2 = .ok (.iload_n 3, 1) := by decide +kernel
theorem dX1_isRest_3 : decode cX1_isRest 3 = .ok (.iload_n 2, 1) := by decide +kernel
theorem dX1_isRest_4 : decode cX1_isRest 4 = .ok (.if_icmp .ge 81, 3) := by decide +kernel
theorem dX1_isRest_7 : decode cX1_isRest 7 = .ok (.iload_n 3, 1) := by decide +kernel
theorem dX1_isRest_8 : decode cX1_isRest 8 = .ok (.iload_n 2, 1) := by decide +kernel
theorem dX1_isRest_9 : decode cX1_isRest 9 = .ok (.invokestatic 85, 3) := by decide +kernel
theorem dX1_isRest_12 : decode cX1_isRest 12 = .ok (.istore 4, 2) := by decide +kernel
theorem dX1_isRest_14 : decode cX1_isRest 14 = .ok (.iload_n 1, 1) := by decide +kernel
theorem dX1_isRest_15 : decode cX1_isRest 15 = .ok (.iload_n 1, 1) := by decide +kernel
theorem dX1_isRest_16 : decode cX1_isRest 16 = .ok (.iload_n 3, 1) := by decide +kernel
theorem dX1_isRest_17 : decode cX1_isRest 17 = .ok (.iload_n 2, 1) := by decide +kernel
theorem dX1_isRest_18 : decode cX1_isRest 18 = .ok (.invokestatic 89, 3) := by decide +kernel
theorem dX1_isRest_21 : decode cX1_isRest 21 = .ok (.iload 4, 2) := by decide +kernel
theorem dX1_isRest_23 : decode cX1_isRest 23 = .ok (.imul, 1) := by decide +kernel
theorem dX1_isRest_24 : decode cX1_isRest 24 = .ok (.isub, 1) := by decide +kernel
theorem dX1_isRest_25 : decode cX1_isRest 25 = .ok (.istore 5, 2) := by decide +kernel
theorem dX1_isRest_27 : decode cX1_isRest 27 = .ok (.iconst 0, 1) := by decide +kernel
theorem dX1_isRest_28 : decode cX1_isRest 28 = .ok (.istore 6, 2) := by decide +kernel
theorem dX1_isRest_30 : decode cX1_isRest 30 = .ok (.iload 6, 2) := by decide +kernel
theorem dX1_isRest_32 : decode cX1_isRest 32 = .ok (.iconst 3, 1) := by decide +kernel
theorem dX1_isRest_33 : decode cX1_isRest 33 = .ok (.if_icmp .ge 46, 3) := by decide +kernel
theorem dX1_isRest_36 : decode cX1_isRest 36 = .ok (.iload 5, 2) := by decide +kernel
theorem dX1_isRest_38 : decode cX1_isRest 38 = .ok (.iload 6, 2) := by decide +kernel
theorem dX1_isRest_40 : decode cX1_isRest 40 = .ok (.iload 4, 2) := by decide +kernel
theorem dX1_isRest_42 : decode cX1_isRest 42 = .ok (.imul, 1) := by decide +kernel
theorem dX1_isRest_43 : decode cX1_isRest 43 = .ok (.iadd, 1) := by decide +kernel
theorem dX1_isRest_44 : decode cX1_isRest 44 = .ok (.istore 7, 2) := by decide +kernel
theorem dX1_isRest_46 : decode cX1_isRest 46 = .ok (.aload_n 0, 1) := by decide +kernel
theorem dX1_isRest_47 : decode cX1_isRest 47 = .ok (.getfield 25, 3) := by decide +kernel
theorem dX1_isRest_50 : decode cX1_isRest 50 = .ok (.iload 7, 2) := by decide +kernel
theorem dX1_isRest_52 : decode cX1_isRest 52 = .ok (.iconst 3, 1) := by decide +kernel
theorem dX1_isRest_53 : decode cX1_isRest 53 = .ok (.imul, 1) := by decide +kernel
theorem dX1_isRest_54 : decode cX1_isRest 54 = .ok (.iload_n 3, 1) := by decide +kernel
theorem dX1_isRest_55 : decode cX1_isRest 55 = .ok (.iadd, 1) := by decide +kernel
theorem dX1_isRest_56 : decode cX1_isRest 56 = .ok (.laload, 1) := by decide +kernel
theorem dX1_isRest_57 : decode cX1_isRest 57 = .ok (.aload_n 0, 1) := by decide +kernel
theorem dX1_isRest_58 : decode cX1_isRest 58 = .ok (.getfield 25, 3) := by decide +kernel
theorem dX1_isRest_61 : decode cX1_isRest 61 = .ok (.iload_n 1, 1) := by decide +kernel
theorem dX1_isRest_62 : decode cX1_isRest 62 = .ok (.iconst 3, 1) := by decide +kernel
theorem dX1_isRest_63 : decode cX1_isRest 63 = .ok (.imul, 1) := by decide +kernel
theorem dX1_isRest_64 : decode cX1_isRest 64 = .ok (.iload_n 3, 1) := by decide +kernel
theorem dX1_isRest_65 : decode cX1_isRest 65 = .ok (.iadd, 1) := by decide +kernel
theorem dX1_isRest_66 : decode cX1_isRest 66 = .ok (.laload, 1) := by decide +kernel
theorem dX1_isRest_67 : decode cX1_isRest 67 = .ok (.lcmp, 1) := by decide +kernel
theorem dX1_isRest_68 : decode cX1_isRest 68 = .ok (.ifCond .le 5, 3) := by decide +kernel
theorem dX1_isRest_71 : decode cX1_isRest 71 = .ok (.iconst 0, 1) := by decide +kernel
theorem dX1_isRest_72 : decode cX1_isRest 72 = .ok (.ireturn, 1) := by decide +kernel
theorem dX1_isRest_73 : decode cX1_isRest 73 = .ok (.iinc 6 1, 3) := by decide +kernel
theorem dX1_isRest_76 : decode cX1_isRest 76 = .ok (.goto (-46), 3) := by decide +kernel
theorem dX1_isRest_79 : decode cX1_isRest 79 = .ok (.iinc 3 1, 3) := by decide +kernel
theorem dX1_isRest_82 : decode cX1_isRest 82 = .ok (.goto (-80), 3) := by decide +kernel
theorem dX1_isRest_85 : decode cX1_isRest 85 = .ok (.iconst 1, 1) := by decide +kernel
theorem dX1_isRest_86 : decode cX1_isRest 86 = .ok (.ireturn, 1) := by decide +kernel
theorem dX1_habitIn_0 : decode cX1_habitIn 0 = .ok (.iload_n 0, 1) := by decide +kernel
theorem dX1_habitIn_1 : decode cX1_habitIn 1 = .ok (.iload_n 1, 1) := by decide +kernel
theorem dX1_habitIn_2 : decode cX1_habitIn 2 = .ok (.iload_n 2, 1) := by decide +kernel
theorem dX1_habitIn_3 : decode cX1_habitIn 3 = .ok (.invokestatic 85, 3) := by decide +kernel
theorem dX1_habitIn_6 : decode cX1_habitIn 6 = .ok (.idiv, 1) := by decide +kernel
theorem dX1_habitIn_7 : decode cX1_habitIn 7 = .ok (.iconst 3, 1) := by decide +kernel
theorem dX1_habitIn_8 : decode cX1_habitIn 8 = .ok (.irem, 1) := by decide +kernel
theorem dX1_habitIn_9 : decode cX1_habitIn 9 = .ok (.ireturn, 1) := by decide +kernel
theorem dX1_stepOf_0 : decode cX1_stepOf 0 = .ok (.iconst 1, 1) := by decide +kernel
theorem dX1_stepOf_1 : decode cX1_stepOf 1 = .ok (.istore_n 2, 1) := by decide +kernel
theorem dX1_stepOf_2 : decode cX1_stepOf 2 = .ok (.iload_n 0, 1) := by decide +kernel
theorem dX1_stepOf_3 : decode cX1_stepOf 3 = .ok (.iconst 1, 1) := by decide +kernel
theorem dX1_stepOf_4 : decode cX1_stepOf 4 = .ok (.iadd, 1) := by decide +kernel
theorem dX1_stepOf_5 : decode cX1_stepOf 5 = .ok (.istore_n 3, 1) := by decide +kernel
theorem dX1_stepOf_6 : decode cX1_stepOf 6 = .ok (.iload_n 3, 1) := by decide +kernel
theorem dX1_stepOf_7 : decode cX1_stepOf 7 = .ok (.iload_n 1, 1) := by decide +kernel
theorem dX1_stepOf_8 : decode cX1_stepOf 8 = .ok (.if_icmp .ge 13, 3) := by decide +kernel
theorem dX1_stepOf_11 : decode cX1_stepOf 11 = .ok (.iload_n 2, 1) := by decide +kernel
theorem dX1_stepOf_12 : decode cX1_stepOf 12 = .ok (.iconst 3, 1) := by decide +kernel
theorem dX1_stepOf_13 : decode cX1_stepOf 13 = .ok (.imul, 1) := by decide +kernel
theorem dX1_stepOf_14 : decode cX1_stepOf 14 = .ok (.istore_n 2, 1) := by decide +kernel
theorem dX1_stepOf_15 : decode cX1_stepOf 15 = .ok (.iinc 3 1, 3) := by decide +kernel
theorem dX1_stepOf_18 : decode cX1_stepOf 18 = .ok (.goto (-12), 3) := by decide +kernel
theorem dX1_stepOf_21 : decode cX1_stepOf 21 = .ok (.iload_n 2, 1) := by decide +kernel
theorem dX1_stepOf_22 : decode cX1_stepOf 22 = .ok (.ireturn, 1) := by decide +kernel
theorem dX2_init_0 : decode cX2_init 0 = .ok (.aload_n 0, 1) := by decide +kernel
theorem dX2_init_1 : decode cX2_init 1 = .ok (.iload_n 1, 1) := by decide +kernel
theorem dX2_init_2 : decode cX2_init 2 = .ok (.iload_n 2, 1) := by decide +kernel
theorem dX2_init_3 : decode cX2_init 3 = .ok (.iload_n 3, 1) := by decide +kernel
theorem dX2_init_4 : decode cX2_init 4 = .ok (.iload 4, 2) := by decide +kernel
theorem dX2_init_6 : decode cX2_init 6 = .ok (.invokespecial 1, 3) := by decide +kernel
theorem dX2_init_9 : decode cX2_init 9 = .ok (.return_, 1) := by decide +kernel
theorem dX2_ownKind_0 : decode cX2_ownKind 0 = .ok (.iconst 2, 1) := by decide +kernel
theorem dX2_ownKind_1 : decode cX2_ownKind 1 = .ok (.ireturn, 1) := by decide +kernel
theorem dX2_bringsBy_0 : decode cX2_bringsBy 0 = .ok (.iconst 2, 1) := by decide +kernel
theorem dX2_bringsBy_1 : decode cX2_bringsBy 1 = .ok (.aload_n 0, 1) := by decide +kernel
theorem dX2_bringsBy_2 : decode cX2_bringsBy 2 = .ok (.iload_n 1, 1) := by decide +kernel
theorem dX2_bringsBy_3 : decode cX2_bringsBy 3 = .ok (.invokespecial 7, 3) := by decide +kernel
theorem dX2_bringsBy_6 : decode cX2_bringsBy 6 = .ok (.imul, 1) := by decide +kernel
theorem dX2_bringsBy_7 : decode cX2_bringsBy 7 = .ok (.ireturn, 1) := by decide +kernel
theorem dX2_sizeBy_0 : decode cX2_sizeBy 0 = .ok (.aload_n 1, 1) := by decide +kernel
theorem dX2_sizeBy_1 : decode cX2_sizeBy 1 = .ok (.bipush 12, 2) := by decide +kernel
theorem dX2_sizeBy_3 : decode cX2_sizeBy 3 = .ok (.invokevirtual 11, 3) := by decide +kernel
theorem dX2_sizeBy_6 : decode cX2_sizeBy 6 = .ok (.aload_n 0, 1) := by decide +kernel
theorem dX2_sizeBy_7 : decode cX2_sizeBy 7 = .ok (.aload_n 1, 1) := by decide +kernel
theorem dX2_sizeBy_8 : decode cX2_sizeBy 8 = .ok (.invokespecial 17, 3) := by decide +kernel
theorem dX2_sizeBy_11 : decode cX2_sizeBy 11 = .ok (.ineg, 1) := by decide +kernel
theorem dX2_sizeBy_12 : decode cX2_sizeBy 12 = .ok (.ireturn, 1) := by decide +kernel
theorem dX2_markBy_0 : decode cX2_markBy 0 = .ok (.aload_n 1, 1) := by decide +kernel
theorem dX2_markBy_1 : decode cX2_markBy 1 = .ok (.bipush 24, 2) := by decide +kernel
theorem dX2_markBy_3 : decode cX2_markBy 3 = .ok (.invokevirtual 11, 3) := by decide +kernel
theorem dX2_markBy_6 : decode cX2_markBy 6 = .ok (.iconst 2, 1) := by decide +kernel
theorem dX2_markBy_7 : decode cX2_markBy 7 = .ok (.aload_n 0, 1) := by decide +kernel
theorem dX2_markBy_8 : decode cX2_markBy 8 = .ok (.aload_n 1, 1) := by decide +kernel
theorem dX2_markBy_9 : decode cX2_markBy 9 = .ok (.invokespecial 21, 3) := by decide +kernel
theorem dX2_markBy_12 : decode cX2_markBy 12 = .ok (.imul, 1) := by decide +kernel
theorem dX2_markBy_13 : decode cX2_markBy 13 = .ok (.ireturn, 1) := by decide +kernel
theorem dX3_init_0 : decode cX3_init 0 = .ok (.aload_n 0, 1) := by decide +kernel
theorem dX3_init_1 : decode cX3_init 1 = .ok (.invokespecial 1, 3) := by decide +kernel
theorem dX3_init_4 : decode cX3_init 4 = .ok (.aload_n 0, 1) := by decide +kernel
theorem dX3_init_5 : decode cX3_init 5 = .ok (.iload_n 1, 1) := by decide +kernel
theorem dX3_init_6 : decode cX3_init 6 = .ok (.putfield 7, 3) := by decide +kernel
theorem dX3_init_9 : decode cX3_init 9 = .ok (.aload_n 0, 1) := by decide +kernel
theorem dX3_init_10 : decode cX3_init 10 = .ok (.iload_n 2, 1) := by decide +kernel
theorem dX3_init_11 : decode cX3_init 11 = .ok (.putfield 13, 3) := by decide +kernel
theorem dX3_init_14 : decode cX3_init 14 = .ok (.aload_n 0, 1) := by decide +kernel
theorem dX3_init_15 : decode cX3_init 15 = .ok (.iload_n 3, 1) := by decide +kernel
theorem dX3_init_16 : decode cX3_init 16 = .ok (.putfield 16, 3) := by decide +kernel
theorem dX3_init_19 : decode cX3_init 19 = .ok (.aload_n 0, 1) := by decide +kernel
theorem dX3_init_20 : decode cX3_init 20 = .ok (.iload 4, 2) := by decide +kernel
theorem dX3_init_22 : decode cX3_init 22 = .ok (.putfield 19, 3) := by decide +kernel
theorem dX3_init_25 : decode cX3_init 25 = .ok (.return_, 1) := by decide +kernel
theorem dX3_helpOf_0 : decode cX3_helpOf 0 = .ok (.iload_n 1, 1) := by decide +kernel
theorem dX3_helpOf_1 : decode cX3_helpOf 1 = .ok (.ireturn, 1) := by decide +kernel
theorem dX3_bringsBy_0 : decode cX3_bringsBy 0 = .ok (.iload_n 1, 1) := by decide +kernel
theorem dX3_bringsBy_1 : decode cX3_bringsBy 1 = .ok (.ifCond .eq 10, 3) := by decide +kernel
theorem dX3_bringsBy_4 : decode cX3_bringsBy 4 = .ok (.aload_n 0, 1) := by decide +kernel
theorem dX3_bringsBy_5 : decode cX3_bringsBy 5 = .ok (.getfield 16, 3) := by decide +kernel
theorem dX3_bringsBy_8 : decode cX3_bringsBy 8 = .ok (.goto 8, 3) := by decide +kernel
theorem dX3_bringsBy_11 : decode cX3_bringsBy 11 = .ok (.aload_n 0, 1) := by decide +kernel
theorem dX3_bringsBy_12 : decode cX3_bringsBy 12 = .ok (.getfield 19, 3) := by decide +kernel
theorem dX3_bringsBy_15 : decode cX3_bringsBy 15 = .ok (.ineg, 1) := by decide +kernel
theorem dX3_bringsBy_16 : decode cX3_bringsBy 16 = .ok (.ireturn, 1) := by decide +kernel
theorem dX3_beginsWithRight_0 : decode cX3_beginsWithRight 0 = .ok (.iconst 1, 1) := by decide +kernel
theorem dX3_beginsWithRight_1 : decode cX3_beginsWithRight 1 = .ok (.ireturn, 1) := by decide +kernel
theorem dX3_mayUseRight_0 : decode cX3_mayUseRight 0 = .ok (.iconst 1, 1) := by decide +kernel
theorem dX3_mayUseRight_1 : decode cX3_mayUseRight 1 = .ok (.ireturn, 1) := by decide +kernel
theorem dX3_sizeBy_0 : decode cX3_sizeBy 0 = .ok (.aload_n 1, 1) := by decide +kernel
theorem dX3_sizeBy_1 : decode cX3_sizeBy 1 = .ok (.bipush 10, 2) := by decide +kernel
theorem dX3_sizeBy_3 : decode cX3_sizeBy 3 = .ok (.invokevirtual 22, 3) := by decide +kernel
theorem dX3_sizeBy_6 : decode cX3_sizeBy 6 = .ok (.aload_n 1, 1) := by decide +kernel
theorem dX3_sizeBy_7 : decode cX3_sizeBy 7 = .ok (.getfield 28, 3) := by decide +kernel
theorem dX3_sizeBy_10 : decode cX3_sizeBy 10 = .ok (.ireturn, 1) := by decide +kernel
theorem dX3_markBy_0 : decode cX3_markBy 0 = .ok (.aload_n 1, 1) := by decide +kernel
theorem dX3_markBy_1 : decode cX3_markBy 1 = .ok (.bipush 20, 2) := by decide +kernel
theorem dX3_markBy_3 : decode cX3_markBy 3 = .ok (.invokevirtual 22, 3) := by decide +kernel
theorem dX3_markBy_6 : decode cX3_markBy 6 = .ok (.aload_n 0, 1) := by decide +kernel
theorem dX3_markBy_7 : decode cX3_markBy 7 = .ok (.getfield 7, 3) := by decide +kernel
theorem dX3_markBy_10 : decode cX3_markBy 10 = .ok (.ireturn, 1) := by decide +kernel
theorem dX3_oddsBy_0 : decode cX3_oddsBy 0 = .ok (.bipush 10, 2) := by decide +kernel
theorem dX3_oddsBy_2 : decode cX3_oddsBy 2 = .ok (.aload_n 0, 1) := by decide +kernel
theorem dX3_oddsBy_3 : decode cX3_oddsBy 3 = .ok (.getfield 13, 3) := by decide +kernel
theorem dX3_oddsBy_6 : decode cX3_oddsBy 6 = .ok (.aload_n 0, 1) := by decide +kernel
theorem dX3_oddsBy_7 : decode cX3_oddsBy 7 = .ok (.iload_n 1, 1) := by decide +kernel
theorem dX3_oddsBy_8 : decode cX3_oddsBy 8 = .ok (.invokevirtual 31, 3) := by decide +kernel
theorem dX3_oddsBy_11 : decode cX3_oddsBy 11 = .ok (.iadd, 1) := by decide +kernel
theorem dX3_oddsBy_12 : decode cX3_oddsBy 12 = .ok (.invokestatic 35, 3) := by decide +kernel
theorem dX3_oddsBy_15 : decode cX3_oddsBy 15 = .ok (.ireturn, 1) := by decide +kernel
theorem dX3_waysToGo_0 : decode cX3_waysToGo 0 = .ok (.aload_n 0, 1) := by decide +kernel
theorem dX3_waysToGo_1 : decode cX3_waysToGo 1 = .ok (.iload_n 1, 1) := by decide +kernel
theorem dX3_waysToGo_2 : decode cX3_waysToGo 2 = .ok (.invokevirtual 41, 3) := by decide +kernel
theorem dX3_waysToGo_5 : decode cX3_waysToGo 5 = .ok (.istore_n 3, 1) := by decide +kernel
theorem dX3_waysToGo_6 : decode cX3_waysToGo 6 = .ok (.iload_n 2, 1) := by decide +kernel
theorem dX3_waysToGo_7 : decode cX3_waysToGo 7 = .ok (.ifCond .eq 7, 3) := by decide +kernel
theorem dX3_waysToGo_10 : decode cX3_waysToGo 10 = .ok (.iload_n 3, 1) := by decide +kernel
theorem dX3_waysToGo_11 : decode cX3_waysToGo 11 = .ok (.goto 7, 3) := by decide +kernel
theorem dX3_waysToGo_14 : decode cX3_waysToGo 14 = .ok (.bipush 10, 2) := by decide +kernel
theorem dX3_waysToGo_16 : decode cX3_waysToGo 16 = .ok (.iload_n 3, 1) := by decide +kernel
theorem dX3_waysToGo_17 : decode cX3_waysToGo 17 = .ok (.isub, 1) := by decide +kernel
theorem dX3_waysToGo_18 : decode cX3_waysToGo 18 = .ok (.ireturn, 1) := by decide +kernel
theorem dX3_meanTenths_0 : decode cX3_meanTenths 0 = .ok (.aload_n 0, 1) := by decide +kernel
theorem dX3_meanTenths_1 : decode cX3_meanTenths 1 = .ok (.iload_n 1, 1) := by decide +kernel
theorem dX3_meanTenths_2 : decode cX3_meanTenths 2 = .ok (.iconst 1, 1) := by decide +kernel
theorem dX3_meanTenths_3 : decode cX3_meanTenths 3 = .ok (.invokevirtual 44, 3) := by decide +kernel
theorem dX3_meanTenths_6 : decode cX3_meanTenths 6 = .ok (.i2l, 1) := by decide +kernel
theorem dX3_meanTenths_7 : decode cX3_meanTenths 7 = .ok (.aload_n 0, 1) := by decide +kernel
theorem dX3_meanTenths_8 : decode cX3_meanTenths 8 = .ok (.iconst 1, 1) := by decide +kernel
theorem dX3_meanTenths_9 : decode cX3_meanTenths 9 = .ok (.invokevirtual 48, 3) := by decide +kernel
theorem dX3_meanTenths_12 : decode cX3_meanTenths 12 = .ok (.i2l, 1) := by decide +kernel
theorem dX3_meanTenths_13 : decode cX3_meanTenths 13 = .ok (.lmul, 1) := by decide +kernel
theorem dX3_meanTenths_14 : decode cX3_meanTenths 14 = .ok (.aload_n 0, 1) := by decide +kernel
theorem dX3_meanTenths_15 : decode cX3_meanTenths 15 = .ok (.iload_n 1, 1) := by decide +kernel
theorem dX3_meanTenths_16 : decode cX3_meanTenths 16 = .ok (.iconst 0, 1) := by decide +kernel
theorem dX3_meanTenths_17 : decode cX3_meanTenths 17 = .ok (.invokevirtual 44, 3) := by decide +kernel
theorem dX3_meanTenths_20 : decode cX3_meanTenths 20 = .ok (.i2l, 1) := by decide +kernel
theorem dX3_meanTenths_21 : decode cX3_meanTenths 21 = .ok (.aload_n 0, 1) := by decide +kernel
theorem dX3_meanTenths_22 : decode cX3_meanTenths 22 = .ok (.iconst 0, 1) := by decide +kernel
theorem dX3_meanTenths_23 : decode cX3_meanTenths 23 = .ok (.invokevirtual 48, 3) := by decide +kernel
theorem dX3_meanTenths_26 : decode cX3_meanTenths 26 = .ok (.i2l, 1) := by decide +kernel
theorem dX3_meanTenths_27 : decode cX3_meanTenths 27 = .ok (.lmul, 1) := by decide +kernel
theorem dX3_meanTenths_28 : decode cX3_meanTenths 28 = .ok (.ladd, 1) := by decide +kernel
theorem dX3_meanTenths_29 : decode cX3_meanTenths 29 = .ok (.lreturn, 1) := by decide +kernel
theorem dX3_worthOfRight_0 : decode cX3_worthOfRight 0 = .ok (.aload_n 0, 1) := by decide +kernel
theorem dX3_worthOfRight_1 : decode cX3_worthOfRight 1 = .ok (.invokevirtual 52, 3) := by decide +kernel
theorem dX3_worthOfRight_4 : decode cX3_worthOfRight 4 = .ok (.ifCond .ne 5, 3) := by decide +kernel
theorem dX3_worthOfRight_7 : decode cX3_worthOfRight 7 = .ok (.lconst 0, 1) := by decide +kernel
theorem dX3_worthOfRight_8 : decode cX3_worthOfRight 8 = .ok (.lreturn, 1) := by decide +kernel
theorem dX3_worthOfRight_9 : decode cX3_worthOfRight 9 = .ok (.aload_n 0, 1) := by decide +kernel
theorem dX3_worthOfRight_10 : decode cX3_worthOfRight 10 = .ok (.iconst 1, 1) := by decide +kernel
theorem dX3_worthOfRight_11 : decode cX3_worthOfRight 11 = .ok (.invokevirtual 56, 3) := by decide +kernel
theorem dX3_worthOfRight_14 : decode cX3_worthOfRight 14 = .ok (.ldc2_w 60, 3) := by decide +kernel
theorem dX3_worthOfRight_17 : decode cX3_worthOfRight 17 = .ok (.lmul, 1) := by decide +kernel
theorem dX3_worthOfRight_18 : decode cX3_worthOfRight 18 = .ok (.lstore_n 2, 1) := by decide +kernel
theorem dX3_worthOfRight_19 : decode cX3_worthOfRight 19 = .ok (.aload_n 0, 1) := by decide +kernel
theorem dX3_worthOfRight_20 : decode cX3_worthOfRight 20 = .ok (.iconst 0, 1) := by decide +kernel
theorem dX3_worthOfRight_21 : decode cX3_worthOfRight 21 = .ok (.invokevirtual 56, 3) := by decide +kernel
theorem dX3_worthOfRight_24 : decode cX3_worthOfRight 24 = .ok (.ldc2_w 60, 3) := by decide +kernel
theorem dX3_worthOfRight_27 : decode cX3_worthOfRight 27 = .ok (.lmul, 1) := by decide +kernel
theorem dX3_worthOfRight_28 : decode cX3_worthOfRight 28 = .ok (.lstore 4, 2) := by decide +kernel
theorem dX3_worthOfRight_30 : decode cX3_worthOfRight 30 = .ok (.lconst 0, 1) := by decide +kernel
theorem dX3_worthOfRight_31 : decode cX3_worthOfRight 31 = .ok (.lstore 6, 2) := by decide +kernel
theorem dX3_worthOfRight_33 : decode cX3_worthOfRight 33 = .ok (.iconst 0, 1) := by decide +kernel
theorem dX3_worthOfRight_34 : decode cX3_worthOfRight 34 = .ok (.istore 8, 2) := by decide +kernel
theorem dX3_worthOfRight_36 : decode cX3_worthOfRight 36 = .ok (.iload 8, 2) := by decide +kernel
theorem dX3_worthOfRight_38 : decode cX3_worthOfRight 38 = .ok (.iload_n 1, 1) := by decide +kernel
theorem dX3_worthOfRight_39 : decode cX3_worthOfRight 39 = .ok (.if_icmp .ge 77, 3) := by decide +kernel
theorem dX3_worthOfRight_42 : decode cX3_worthOfRight 42 = .ok (.aload_n 0, 1) := by decide +kernel
theorem dX3_worthOfRight_43 : decode cX3_worthOfRight 43 = .ok (.iconst 1, 1) := by decide +kernel
theorem dX3_worthOfRight_44 : decode cX3_worthOfRight 44 = .ok (.invokevirtual 48, 3) := by decide +kernel
theorem dX3_worthOfRight_47 : decode cX3_worthOfRight 47 = .ok (.i2l, 1) := by decide +kernel
theorem dX3_worthOfRight_48 : decode cX3_worthOfRight 48 = .ok (.ldc2_w 62, 3) := by decide +kernel
theorem dX3_worthOfRight_51 : decode cX3_worthOfRight 51 = .ok (.lmul, 1) := by decide +kernel
theorem dX3_worthOfRight_52 : decode cX3_worthOfRight 52 = .ok (.lload 6, 2) := by decide +kernel
theorem dX3_worthOfRight_54 : decode cX3_worthOfRight 54 = .ok (.ladd, 1) := by decide +kernel
theorem dX3_worthOfRight_55 : decode cX3_worthOfRight 55 = .ok (.lload_n 2, 1) := by decide +kernel
theorem dX3_worthOfRight_56 : decode cX3_worthOfRight 56 = .ok (.invokestatic 64, 3) := by decide +kernel
theorem dX3_worthOfRight_59 : decode cX3_worthOfRight 59 = .ok (.lstore 9, 2) := by decide +kernel
theorem dX3_worthOfRight_61 : decode cX3_worthOfRight 61 = .ok (.aload_n 0, 1) := by decide +kernel
theorem dX3_worthOfRight_62 : decode cX3_worthOfRight 62 = .ok (.iconst 0, 1) := by decide +kernel
theorem dX3_worthOfRight_63 : decode cX3_worthOfRight 63 = .ok (.invokevirtual 48, 3) := by decide +kernel
theorem dX3_worthOfRight_66 : decode cX3_worthOfRight 66 = .ok (.i2l, 1) := by decide +kernel
theorem dX3_worthOfRight_67 : decode cX3_worthOfRight 67 = .ok (.ldc2_w 62, 3) := by decide +kernel
theorem dX3_worthOfRight_70 : decode cX3_worthOfRight 70 = .ok (.lmul, 1) := by decide +kernel
theorem dX3_worthOfRight_71 : decode cX3_worthOfRight 71 = .ok (.lload 6, 2) := by decide +kernel
theorem dX3_worthOfRight_73 : decode cX3_worthOfRight 73 = .ok (.ladd, 1) := by decide +kernel
theorem dX3_worthOfRight_74 : decode cX3_worthOfRight 74 = .ok (.lload_n 2, 1) := by decide +kernel
theorem dX3_worthOfRight_75 : decode cX3_worthOfRight 75 = .ok (.invokestatic 64, 3) := by decide +kernel
theorem dX3_worthOfRight_78 : decode cX3_worthOfRight 78 = .ok (.lstore 11, 2) := by decide +kernel
theorem dX3_worthOfRight_80 : decode cX3_worthOfRight 80 = .ok (.aload_n 0, 1) := by decide +kernel
theorem dX3_worthOfRight_81 : decode cX3_worthOfRight 81 = .ok (.iconst 0, 1) := by decide +kernel
theorem dX3_worthOfRight_82 : decode cX3_worthOfRight 82 = .ok (.iconst 1, 1) := by decide +kernel
theorem dX3_worthOfRight_83 : decode cX3_worthOfRight 83 = .ok (.invokevirtual 44, 3) := by decide +kernel
theorem dX3_worthOfRight_86 : decode cX3_worthOfRight 86 = .ok (.i2l, 1) := by decide +kernel
theorem dX3_worthOfRight_87 : decode cX3_worthOfRight 87 = .ok (.lload 9, 2) := by decide +kernel
theorem dX3_worthOfRight_89 : decode cX3_worthOfRight 89 = .ok (.lmul, 1) := by decide +kernel
theorem dX3_worthOfRight_90 : decode cX3_worthOfRight 90 = .ok (.aload_n 0, 1) := by decide +kernel
theorem dX3_worthOfRight_91 : decode cX3_worthOfRight 91 = .ok (.iconst 0, 1) := by decide +kernel
theorem dX3_worthOfRight_92 : decode cX3_worthOfRight 92 = .ok (.iconst 0, 1) := by decide +kernel
theorem dX3_worthOfRight_93 : decode cX3_worthOfRight 93 = .ok (.invokevirtual 44, 3) := by decide +kernel
theorem dX3_worthOfRight_96 : decode cX3_worthOfRight 96 = .ok (.i2l, 1) := by decide +kernel
theorem dX3_worthOfRight_97 : decode cX3_worthOfRight 97 = .ok (.lload 11, 2) := by decide +kernel
theorem dX3_worthOfRight_99 : decode cX3_worthOfRight 99 = .ok (.lmul, 1) := by decide +kernel
theorem dX3_worthOfRight_100 : decode cX3_worthOfRight 100 = .ok (.ladd, 1) := by decide +kernel
theorem dX3_worthOfRight_101 : decode cX3_worthOfRight 101 = .ok (.ldc2_w 68, 3) := by decide +kernel
theorem dX3_worthOfRight_104 : decode cX3_worthOfRight 104 = .ok (.ldiv, 1) := by decide +kernel
theorem dX3_worthOfRight_105 : decode cX3_worthOfRight 105 = .ok (.lload 4, 2) := by decide +kernel
theorem dX3_worthOfRight_107 : decode cX3_worthOfRight 107 = .ok (.lsub, 1) := by decide +kernel
theorem dX3_worthOfRight_108 : decode cX3_worthOfRight 108 = .ok (.lstore 6, 2) := by decide +kernel
theorem dX3_worthOfRight_110 : decode cX3_worthOfRight 110 = .ok (.iinc 8 1, 3) := by decide +kernel
theorem dX3_worthOfRight_113 : decode cX3_worthOfRight 113 = .ok (.goto (-77), 3) := by decide +kernel
theorem dX3_worthOfRight_116 : decode cX3_worthOfRight 116 = .ok (.lload 6, 2) := by decide +kernel
theorem dX3_worthOfRight_118 : decode cX3_worthOfRight 118 = .ok (.lreturn, 1) := by decide +kernel
theorem dX4_init_0 : decode cX4_init 0 = .ok (.aload_n 0, 1) := by decide +kernel
theorem dX4_init_1 : decode cX4_init 1 = .ok (.invokespecial 1, 3) := by decide +kernel
theorem dX4_init_4 : decode cX4_init 4 = .ok (.aload_n 0, 1) := by decide +kernel
theorem dX4_init_5 : decode cX4_init 5 = .ok (.bipush 8, 2) := by decide +kernel
theorem dX4_init_7 : decode cX4_init 7 = .ok (.bipush 40, 2) := by decide +kernel
theorem dX4_init_9 : decode cX4_init 9 = .ok (.multianewarray 9 2, 4) := by decide +kernel
theorem dX4_init_13 : decode cX4_init 13 = .ok (.putfield 11, 3) := by decide +kernel
theorem dX4_init_16 : decode cX4_init 16 = .ok (.aload_n 0, 1) := by decide +kernel
theorem dX4_init_17 : decode cX4_init 17 = .ok (.bipush 8, 2) := by decide +kernel
theorem dX4_init_19 : decode cX4_init 19 = .ok (.newarray .int, 2) := by decide +kernel
theorem dX4_init_21 : decode cX4_init 21 = .ok (.putfield 14, 3) := by decide +kernel
theorem dX4_init_24 : decode cX4_init 24 = .ok (.aload_n 0, 1) := by decide +kernel
theorem dX4_init_25 : decode cX4_init 25 = .ok (.bipush 8, 2) := by decide +kernel
theorem dX4_init_27 : decode cX4_init 27 = .ok (.newarray .int, 2) := by decide +kernel
theorem dX4_init_29 : decode cX4_init 29 = .ok (.putfield 18, 3) := by decide +kernel
theorem dX4_init_32 : decode cX4_init 32 = .ok (.aload_n 0, 1) := by decide +kernel
theorem dX4_init_33 : decode cX4_init 33 = .ok (.getfield 18, 3) := by decide +kernel
theorem dX4_init_36 : decode cX4_init 36 = .ok (.iconst (-1), 1) := by decide +kernel
theorem dX4_init_37 : decode cX4_init 37 = .ok (.invokestatic 21, 3) := by decide +kernel
theorem dX4_init_40 : decode cX4_init 40 = .ok (.return_, 1) := by decide +kernel
theorem dX4_isNumber_0 : decode cX4_isNumber 0 = .ok (.iload_n 0, 1) := by decide +kernel
theorem dX4_isNumber_1 : decode cX4_isNumber 1 = .ok (.ifCond .lt 13, 3) := by decide +kernel
theorem dX4_isNumber_4 : decode cX4_isNumber 4 = .ok (.iload_n 0, 1) := by decide +kernel
theorem dX4_isNumber_5 : decode cX4_isNumber 5 = .ok (.bipush 8, 2) := by decide +kernel
theorem dX4_isNumber_7 : decode cX4_isNumber 7 = .ok (.if_icmp .ge 7, 3) := by decide +kernel
theorem dX4_isNumber_10 : decode cX4_isNumber 10 = .ok (.iconst 1, 1) := by decide +kernel
theorem dX4_isNumber_11 : decode cX4_isNumber 11 = .ok (.goto 4, 3) := by decide +kernel
theorem dX4_isNumber_14 : decode cX4_isNumber 14 = .ok (.iconst 0, 1) := by decide +kernel
theorem dX4_isNumber_15 : decode cX4_isNumber 15 = .ok (.ireturn, 1) := by decide +kernel
theorem dX4_isMissing_0 : decode cX4_isMissing 0 = .ok (.aload_n 0, 1) := by decide +kernel
theorem dX4_isMissing_1 : decode cX4_isMissing 1 = .ok (.getfield 18, 3) := by decide +kernel
theorem dX4_isMissing_4 : decode cX4_isMissing 4 = .ok (.iload_n 1, 1) := by decide +kernel
theorem dX4_isMissing_5 : decode cX4_isMissing 5 = .ok (.iaload, 1) := by decide +kernel
theorem dX4_isMissing_6 : decode cX4_isMissing 6 = .ok (.iconst (-1), 1) := by decide +kernel
theorem dX4_isMissing_7 : decode cX4_isMissing 7 = .ok (.if_icmp .ne 7, 3) := by decide +kernel
theorem dX4_isMissing_10 : decode cX4_isMissing 10 = .ok (.iconst 1, 1) := by decide +kernel
theorem dX4_isMissing_11 : decode cX4_isMissing 11 = .ok (.goto 4, 3) := by decide +kernel
theorem dX4_isMissing_14 : decode cX4_isMissing 14 = .ok (.iconst 0, 1) := by decide +kernel
theorem dX4_isMissing_15 : decode cX4_isMissing 15 = .ok (.ireturn, 1) := by decide +kernel
theorem dX4_areOfOneLane_0 : decode cX4_areOfOneLane 0 = .ok (.aload_n 0, 1) := by decide +kernel
theorem dX4_areOfOneLane_1 : decode cX4_areOfOneLane 1 = .ok (.getfield 14, 3) := by decide +kernel
theorem dX4_areOfOneLane_4 : decode cX4_areOfOneLane 4 = .ok (.iload_n 1, 1) := by decide +kernel
theorem dX4_areOfOneLane_5 : decode cX4_areOfOneLane 5 = .ok (.iaload, 1) := by decide +kernel
theorem dX4_areOfOneLane_6 : decode cX4_areOfOneLane 6 = .ok (.aload_n 0, 1) := by decide +kernel
theorem dX4_areOfOneLane_7 : decode cX4_areOfOneLane 7 = .ok (.getfield 14, 3) := by decide +kernel
theorem dX4_areOfOneLane_10 : decode cX4_areOfOneLane 10 = .ok (.iload_n 2, 1) := by decide +kernel
theorem dX4_areOfOneLane_11 : decode cX4_areOfOneLane 11 = .ok (.iaload, 1) := by decide +kernel
theorem dX4_areOfOneLane_12 : decode cX4_areOfOneLane 12 = .ok (.if_icmp .ne 7, 3) := by decide +kernel
theorem dX4_areOfOneLane_15 : decode cX4_areOfOneLane 15 = .ok (.iconst 1, 1) := by decide +kernel
theorem dX4_areOfOneLane_16 : decode cX4_areOfOneLane 16 = .ok (.goto 4, 3) := by decide +kernel
theorem dX4_areOfOneLane_19 : decode cX4_areOfOneLane 19 = .ok (.iconst 0, 1) := by decide +kernel
theorem dX4_areOfOneLane_20 : decode cX4_areOfOneLane 20 = .ok (.ireturn, 1) := by decide +kernel
theorem dX4_hasPart_0 : decode cX4_hasPart 0 = .ok (.iload_n 2, 1) := by decide +kernel
theorem dX4_hasPart_1 : decode cX4_hasPart 1 = .ok (.ifCond .lt 33, 3) := by decide +kernel
theorem dX4_hasPart_4 : decode cX4_hasPart 4 = .ok (.iload_n 3, 1) := by decide +kernel
theorem dX4_hasPart_5 : decode cX4_hasPart 5 = .ok (.ifCond .lt 29, 3) := by decide +kernel
theorem dX4_hasPart_8 : decode cX4_hasPart 8 = .ok (.iload_n 3, 1) := by decide +kernel
theorem dX4_hasPart_9 : decode cX4_hasPart 9 = .ok (.aload_n 0, 1) := by decide +kernel
theorem dX4_hasPart_10 : decode cX4_hasPart 10 = .ok (.getfield 18, 3) := by decide +kernel
theorem dX4_hasPart_13 : decode cX4_hasPart 13 = .ok (.iload_n 1, 1) := by decide +kernel
theorem dX4_hasPart_14 : decode cX4_hasPart 14 = .ok (.iaload, 1) := by decide +kernel
theorem dX4_hasPart_15 : decode cX4_hasPart 15 = .ok (.if_icmp .gt 19, 3) := by decide +kernel
theorem dX4_hasPart_18 : decode cX4_hasPart 18 = .ok (.iload_n 2, 1) := by decide +kernel
theorem dX4_hasPart_19 : decode cX4_hasPart 19 = .ok (.aload_n 0, 1) := by decide +kernel
theorem dX4_hasPart_20 : decode cX4_hasPart 20 = .ok (.getfield 18, 3) := by decide +kernel
theorem dX4_hasPart_23 : decode cX4_hasPart 23 = .ok (.iload_n 1, 1) := by decide +kernel
theorem dX4_hasPart_24 : decode cX4_hasPart 24 = .ok (.iaload, 1) := by decide +kernel
theorem dX4_hasPart_25 : decode cX4_hasPart 25 = .ok (.iload_n 3, 1) := by decide +kernel
theorem dX4_hasPart_26 : decode cX4_hasPart 26 = .ok (.isub, 1) := by decide +kernel
theorem dX4_hasPart_27 : decode cX4_hasPart 27 = .ok (.if_icmp .gt 7, 3) := by decide +kernel
theorem dX4_hasPart_30 : decode cX4_hasPart 30 = .ok (.iconst 1, 1) := by decide +kernel
theorem dX4_hasPart_31 : decode cX4_hasPart 31 = .ok (.goto 4, 3) := by decide +kernel
theorem dX4_hasPart_34 : decode cX4_hasPart 34 = .ok (.iconst 0, 1) := by decide +kernel
theorem dX4_hasPart_35 : decode cX4_hasPart 35 = .ok (.ireturn, 1) := by decide +kernel
theorem dX4_itemAt_0 : decode cX4_itemAt 0 = .ok (.aload_n 0, 1) := by decide +kernel
theorem dX4_itemAt_1 : decode cX4_itemAt 1 = .ok (.getfield 11, 3) := by decide +kernel
theorem dX4_itemAt_4 : decode cX4_itemAt 4 = .ok (.iload_n 1, 1) := by decide +kernel
theorem dX4_itemAt_5 : decode cX4_itemAt 5 = .ok (.aaload, 1) := by decide +kernel
theorem dX4_itemAt_6 : decode cX4_itemAt 6 = .ok (.iload_n 2, 1) := by decide +kernel
theorem dX4_itemAt_7 : decode cX4_itemAt 7 = .ok (.iaload, 1) := by decide +kernel
theorem dX4_itemAt_8 : decode cX4_itemAt 8 = .ok (.ireturn, 1) := by decide +kernel
theorem dX4_lay_0 : decode cX4_lay 0 = .ok (.aload_n 0, 1) := by decide +kernel
theorem dX4_lay_1 : decode cX4_lay 1 = .ok (.getfield 11, 3) := by decide +kernel
theorem dX4_lay_4 : decode cX4_lay 4 = .ok (.iload_n 1, 1) := by decide +kernel
theorem dX4_lay_5 : decode cX4_lay 5 = .ok (.aaload, 1) := by decide +kernel
theorem dX4_lay_6 : decode cX4_lay 6 = .ok (.iconst 0, 1) := by decide +kernel
theorem dX4_lay_7 : decode cX4_lay 7 = .ok (.invokestatic 21, 3) := by decide +kernel
theorem dX4_lay_10 : decode cX4_lay 10 = .ok (.aload_n 0, 1) := by decide +kernel
theorem dX4_lay_11 : decode cX4_lay 11 = .ok (.getfield 14, 3) := by decide +kernel
theorem dX4_lay_14 : decode cX4_lay 14 = .ok (.iload_n 1, 1) := by decide +kernel
theorem dX4_lay_15 : decode cX4_lay 15 = .ok (.iload_n 2, 1) := by decide +kernel
theorem dX4_lay_16 : decode cX4_lay 16 = .ok (.iastore, 1) := by decide +kernel
theorem dX4_lay_17 : decode cX4_lay 17 = .ok (.aload_n 0, 1) := by decide +kernel
theorem dX4_lay_18 : decode cX4_lay 18 = .ok (.getfield 18, 3) := by decide +kernel
theorem dX4_lay_21 : decode cX4_lay 21 = .ok (.iload_n 1, 1) := by decide +kernel
theorem dX4_lay_22 : decode cX4_lay 22 = .ok (.iload_n 3, 1) := by decide +kernel
theorem dX4_lay_23 : decode cX4_lay 23 = .ok (.iastore, 1) := by decide +kernel
theorem dX4_lay_24 : decode cX4_lay 24 = .ok (.return_, 1) := by decide +kernel
theorem dX4_put_0 : decode cX4_put 0 = .ok (.iload_n 3, 1) := by decide +kernel
theorem dX4_put_1 : decode cX4_put 1 = .ok (.istore 4, 2) := by decide +kernel
theorem dX4_put_3 : decode cX4_put 3 = .ok (.aload_n 0, 1) := by decide +kernel
theorem dX4_put_4 : decode cX4_put 4 = .ok (.getfield 14, 3) := by decide +kernel
theorem dX4_put_7 : decode cX4_put 7 = .ok (.iload_n 1, 1) := by decide +kernel
theorem dX4_put_8 : decode cX4_put 8 = .ok (.iaload, 1) := by decide +kernel
theorem dX4_put_9 : decode cX4_put 9 = .ok (.ifCond .ne 10, 3) := by decide +kernel
theorem dX4_put_12 : decode cX4_put 12 = .ok (.iload_n 3, 1) := by decide +kernel
theorem dX4_put_13 : decode cX4_put 13 = .ok (.i2b, 1) := by decide +kernel
theorem dX4_put_14 : decode cX4_put 14 = .ok (.istore 4, 2) := by decide +kernel
theorem dX4_put_16 : decode cX4_put 16 = .ok (.goto 17, 3) := by decide +kernel
theorem dX4_put_19 : decode cX4_put 19 = .ok (.aload_n 0, 1) := by decide +kernel
theorem dX4_put_20 : decode cX4_put 20 = .ok (.getfield 14, 3) := by decide +kernel
theorem dX4_put_23 : decode cX4_put 23 = .ok (.iload_n 1, 1) := by decide +kernel
theorem dX4_put_24 : decode cX4_put 24 = .ok (.iaload, 1) := by decide +kernel
theorem dX4_put_25 : decode cX4_put 25 = .ok (.iconst 1, 1) := by decide +kernel
theorem dX4_put_26 : decode cX4_put 26 = .ok (.if_icmp .ne 7, 3) := by decide +kernel
theorem dX4_put_29 : decode cX4_put 29 = .ok (.iload_n 3, 1) := by decide +kernel
theorem dX4_put_30 : decode cX4_put 30 = .ok (.i2s, 1) := by decide +kernel
theorem dX4_put_31 : decode cX4_put 31 = .ok (.istore 4, 2) := by decide +kernel
theorem dX4_put_33 : decode cX4_put 33 = .ok (.aload_n 0, 1) := by decide +kernel
theorem dX4_put_34 : decode cX4_put 34 = .ok (.getfield 11, 3) := by decide +kernel
theorem dX4_put_37 : decode cX4_put 37 = .ok (.iload_n 1, 1) := by decide +kernel
theorem dX4_put_38 : decode cX4_put 38 = .ok (.aaload, 1) := by decide +kernel
theorem dX4_put_39 : decode cX4_put 39 = .ok (.iload_n 2, 1) := by decide +kernel
theorem dX4_put_40 : decode cX4_put 40 = .ok (.iload 4, 2) := by decide +kernel
theorem dX4_put_42 : decode cX4_put 42 = .ok (.iastore, 1) := by decide +kernel
theorem dX4_put_43 : decode cX4_put 43 = .ok (.iload 4, 2) := by decide +kernel
theorem dX4_put_45 : decode cX4_put 45 = .ok (.ireturn, 1) := by decide +kernel
theorem dX4_carry_0 : decode cX4_carry 0 = .ok (.aload_n 0, 1) := by decide +kernel
theorem dX4_carry_1 : decode cX4_carry 1 = .ok (.getfield 11, 3) := by decide +kernel
theorem dX4_carry_4 : decode cX4_carry 4 = .ok (.iload_n 1, 1) := by decide +kernel
theorem dX4_carry_5 : decode cX4_carry 5 = .ok (.aaload, 1) := by decide +kernel
theorem dX4_carry_6 : decode cX4_carry 6 = .ok (.iload_n 2, 1) := by decide +kernel
theorem dX4_carry_7 : decode cX4_carry 7 = .ok (.aload_n 0, 1) := by decide +kernel
theorem dX4_carry_8 : decode cX4_carry 8 = .ok (.getfield 11, 3) := by decide +kernel
theorem dX4_carry_11 : decode cX4_carry 11 = .ok (.iload_n 3, 1) := by decide +kernel
theorem dX4_carry_12 : decode cX4_carry 12 = .ok (.aaload, 1) := by decide +kernel
theorem dX4_carry_13 : decode cX4_carry 13 = .ok (.iload 4, 2) := by decide +kernel
theorem dX4_carry_15 : decode cX4_carry 15 = .ok (.iload 5, 2) := by decide +kernel
theorem dX4_carry_17 : decode cX4_carry 17 = .ok (.invokestatic 27, 3) := by decide +kernel
theorem dX4_carry_20 : decode cX4_carry 20 = .ok (.return_, 1) := by decide +kernel
theorem dX4_takeAway_0 : decode cX4_takeAway 0 = .ok (.aload_n 0, 1) := by decide +kernel
theorem dX4_takeAway_1 : decode cX4_takeAway 1 = .ok (.getfield 18, 3) := by decide +kernel
theorem dX4_takeAway_4 : decode cX4_takeAway 4 = .ok (.iload_n 1, 1) := by decide +kernel
theorem dX4_takeAway_5 : decode cX4_takeAway 5 = .ok (.iaload, 1) := by decide +kernel
theorem dX4_takeAway_6 : decode cX4_takeAway 6 = .ok (.istore_n 2, 1) := by decide +kernel
theorem dX4_takeAway_7 : decode cX4_takeAway 7 = .ok (.aload_n 0, 1) := by decide +kernel
theorem dX4_takeAway_8 : decode cX4_takeAway 8 = .ok (.getfield 18, 3) := by decide +kernel
theorem dX4_takeAway_11 : decode cX4_takeAway 11 = .ok (.iload_n 1, 1) := by decide +kernel
theorem dX4_takeAway_12 : decode cX4_takeAway 12 = .ok (.iconst (-1), 1) := by decide +kernel
theorem dX4_takeAway_13 : decode cX4_takeAway 13 = .ok (.iastore, 1) := by decide +kernel
theorem dX4_takeAway_14 : decode cX4_takeAway 14 = .ok (.iload_n 2, 1) := by decide +kernel
theorem dX4_takeAway_15 : decode cX4_takeAway 15 = .ok (.ireturn, 1) := by decide +kernel
theorem dX4_howMany_0 : decode cX4_howMany 0 = .ok (.iconst 0, 1) := by decide +kernel
theorem dX4_howMany_1 : decode cX4_howMany 1 = .ok (.istore_n 1, 1) := by decide +kernel
theorem dX4_howMany_2 : decode cX4_howMany 2 = .ok (.iconst 0, 1) := by decide +kernel
theorem dX4_howMany_3 : decode cX4_howMany 3 = .ok (.istore_n 2, 1) := by decide +kernel
theorem dX4_howMany_4 : decode cX4_howMany 4 = .ok (.iload_n 2, 1) := by decide +kernel
theorem dX4_howMany_5 : decode cX4_howMany 5 = .ok (.bipush 8, 2) := by decide +kernel
theorem dX4_howMany_7 : decode cX4_howMany 7 = .ok (.if_icmp .ge 20, 3) := by decide +kernel
theorem dX4_howMany_10 : decode cX4_howMany 10 = .ok (.aload_n 0, 1) := by decide +kernel
theorem dX4_howMany_11 : decode cX4_howMany 11 = .ok (.iload_n 2, 1) := by decide +kernel
theorem dX4_howMany_12 : decode cX4_howMany 12 = .ok (.invokevirtual 33, 3) := by decide +kernel
theorem dX4_howMany_15 : decode cX4_howMany 15 = .ok (.ifCond .ne 6, 3) := by decide +kernel
theorem dX4_howMany_18 : decode cX4_howMany 18 = .ok (.iinc 1 1, 3) := by decide +kernel
theorem dX4_howMany_21 : decode cX4_howMany 21 = .ok (.iinc 2 1, 3) := by decide +kernel
theorem dX4_howMany_24 : decode cX4_howMany 24 = .ok (.goto (-20), 3) := by decide +kernel
theorem dX4_howMany_27 : decode cX4_howMany 27 = .ok (.iload_n 1, 1) := by decide +kernel
theorem dX4_howMany_28 : decode cX4_howMany 28 = .ok (.ireturn, 1) := by decide +kernel
theorem dX5_init_0 : decode cX5_init 0 = .ok (.aload_n 0, 1) := by decide +kernel
theorem dX5_init_1 : decode cX5_init 1 = .ok (.iload_n 1, 1) := by decide +kernel
theorem dX5_init_2 : decode cX5_init 2 = .ok (.iload_n 2, 1) := by decide +kernel
theorem dX5_init_3 : decode cX5_init 3 = .ok (.iload_n 3, 1) := by decide +kernel
theorem dX5_init_4 : decode cX5_init 4 = .ok (.iload 4, 2) := by decide +kernel
theorem dX5_init_6 : decode cX5_init 6 = .ok (.invokespecial 1, 3) := by decide +kernel
theorem dX5_init_9 : decode cX5_init 9 = .ok (.return_, 1) := by decide +kernel
theorem dX5_ownKind_0 : decode cX5_ownKind 0 = .ok (.iconst 3, 1) := by decide +kernel
theorem dX5_ownKind_1 : decode cX5_ownKind 1 = .ok (.ireturn, 1) := by decide +kernel
theorem dX5_helpOf_0 : decode cX5_helpOf 0 = .ok (.iconst 2, 1) := by decide +kernel
theorem dX5_helpOf_1 : decode cX5_helpOf 1 = .ok (.iload_n 1, 1) := by decide +kernel
theorem dX5_helpOf_2 : decode cX5_helpOf 2 = .ok (.imul, 1) := by decide +kernel
theorem dX5_helpOf_3 : decode cX5_helpOf 3 = .ok (.ireturn, 1) := by decide +kernel
theorem dX5_bringsBy_0 : decode cX5_bringsBy 0 = .ok (.iload_n 1, 1) := by decide +kernel
theorem dX5_bringsBy_1 : decode cX5_bringsBy 1 = .ok (.ifCond .eq 10, 3) := by decide +kernel
theorem dX5_bringsBy_4 : decode cX5_bringsBy 4 = .ok (.aload_n 0, 1) := by decide +kernel
theorem dX5_bringsBy_5 : decode cX5_bringsBy 5 = .ok (.getfield 7, 3) := by decide +kernel
theorem dX5_bringsBy_8 : decode cX5_bringsBy 8 = .ok (.goto 4, 3) := by decide +kernel
theorem dX5_bringsBy_11 : decode cX5_bringsBy 11 = .ok (.iconst 0, 1) := by decide +kernel
theorem dX5_bringsBy_12 : decode cX5_bringsBy 12 = .ok (.ireturn, 1) := by decide +kernel
theorem dX5_markBy_0 : decode cX5_markBy 0 = .ok (.aload_n 1, 1) := by decide +kernel
theorem dX5_markBy_1 : decode cX5_markBy 1 = .ok (.bipush 22, 2) := by decide +kernel
theorem dX5_markBy_3 : decode cX5_markBy 3 = .ok (.invokevirtual 13, 3) := by decide +kernel
theorem dX5_markBy_6 : decode cX5_markBy 6 = .ok (.aload_n 0, 1) := by decide +kernel
theorem dX5_markBy_7 : decode cX5_markBy 7 = .ok (.aload_n 1, 1) := by decide +kernel
theorem dX5_markBy_8 : decode cX5_markBy 8 = .ok (.invokespecial 19, 3) := by decide +kernel
theorem dX5_markBy_11 : decode cX5_markBy 11 = .ok (.sipush 1000, 3) := by decide +kernel
theorem dX5_markBy_14 : decode cX5_markBy 14 = .ok (.isub, 1) := by decide +kernel
theorem dX5_markBy_15 : decode cX5_markBy 15 = .ok (.ireturn, 1) := by decide +kernel
theorem dX6_init_0 : decode cX6_init 0 = .ok (.aload_n 0, 1) := by decide +kernel
theorem dX6_init_1 : decode cX6_init 1 = .ok (.iload_n 1, 1) := by decide +kernel
theorem dX6_init_2 : decode cX6_init 2 = .ok (.iload_n 2, 1) := by decide +kernel
theorem dX6_init_3 : decode cX6_init 3 = .ok (.iload_n 3, 1) := by decide +kernel
theorem dX6_init_4 : decode cX6_init 4 = .ok (.iload 4, 2) := by decide +kernel
theorem dX6_init_6 : decode cX6_init 6 = .ok (.invokespecial 1, 3) := by decide +kernel
theorem dX6_init_9 : decode cX6_init 9 = .ok (.return_, 1) := by decide +kernel
theorem dX6_ownKind_0 : decode cX6_ownKind 0 = .ok (.iconst 5, 1) := by decide +kernel
theorem dX6_ownKind_1 : decode cX6_ownKind 1 = .ok (.ireturn, 1) := by decide +kernel
theorem dX6_beginsWithRight_0 : decode cX6_beginsWithRight 0 = .ok (.iconst 0, 1) := by decide +kernel
theorem dX6_beginsWithRight_1 : decode cX6_beginsWithRight 1 = .ok (.ireturn, 1) := by decide +kernel
theorem dX6_mayUseRight_0 : decode cX6_mayUseRight 0 = .ok (.iconst 1, 1) := by decide +kernel
theorem dX6_mayUseRight_1 : decode cX6_mayUseRight 1 = .ok (.ireturn, 1) := by decide +kernel
theorem dX6_sizeBy_0 : decode cX6_sizeBy 0 = .ok (.aload_n 1, 1) := by decide +kernel
theorem dX6_sizeBy_1 : decode cX6_sizeBy 1 = .ok (.bipush 14, 2) := by decide +kernel
theorem dX6_sizeBy_3 : decode cX6_sizeBy 3 = .ok (.invokevirtual 7, 3) := by decide +kernel
theorem dX6_sizeBy_6 : decode cX6_sizeBy 6 = .ok (.iconst 2, 1) := by decide +kernel
theorem dX6_sizeBy_7 : decode cX6_sizeBy 7 = .ok (.aload_n 0, 1) := by decide +kernel
theorem dX6_sizeBy_8 : decode cX6_sizeBy 8 = .ok (.aload_n 1, 1) := by decide +kernel
theorem dX6_sizeBy_9 : decode cX6_sizeBy 9 = .ok (.invokespecial 13, 3) := by decide +kernel
theorem dX6_sizeBy_12 : decode cX6_sizeBy 12 = .ok (.imul, 1) := by decide +kernel
theorem dX6_sizeBy_13 : decode cX6_sizeBy 13 = .ok (.ireturn, 1) := by decide +kernel
theorem dX7_init_0 : decode cX7_init 0 = .ok (.aload_n 0, 1) := by decide +kernel
theorem dX7_init_1 : decode cX7_init 1 = .ok (.invokespecial 3, 3) := by decide +kernel
theorem dX7_init_4 : decode cX7_init 4 = .ok (.aload_n 0, 1) := by decide +kernel
theorem dX7_init_5 : decode cX7_init 5 = .ok (.iconst 3, 1) := by decide +kernel
theorem dX7_init_6 : decode cX7_init 6 = .ok (.anewarray 9, 3) := by decide +kernel
theorem dX7_init_9 : decode cX7_init 9 = .ok (.putfield 11, 3) := by decide +kernel
theorem dX7_init_12 : decode cX7_init 12 = .ok (.aload_n 0, 1) := by decide +kernel
theorem dX7_init_13 : decode cX7_init 13 = .ok (.bipush 60, 2) := by decide +kernel
theorem dX7_init_15 : decode cX7_init 15 = .ok (.newarray .int, 2) := by decide +kernel
theorem dX7_init_17 : decode cX7_init 17 = .ok (.putfield 17, 3) := by decide +kernel
theorem dX7_init_20 : decode cX7_init 20 = .ok (.return_, 1) := by decide +kernel
theorem dX7_takeByte_0 : decode cX7_takeByte 0 = .ok (.aload_n 0, 1) := by decide +kernel
theorem dX7_takeByte_1 : decode cX7_takeByte 1 = .ok (.getfield 21, 3) := by decide +kernel
theorem dX7_takeByte_4 : decode cX7_takeByte 4 = .ok (.bipush 60, 2) := by decide +kernel
theorem dX7_takeByte_6 : decode cX7_takeByte 6 = .ok (.if_icmp .lt 5, 3) := by decide +kernel
theorem dX7_takeByte_9 : decode cX7_takeByte 9 = .ok (.iconst 0, 1) := by decide +kernel
theorem dX7_takeByte_10 : decode cX7_takeByte 10 = .ok (.ireturn, 1) := by decide +kernel
theorem dX7_takeByte_11 : decode cX7_takeByte 11 = .ok (.aload_n 0, 1) := by decide +kernel
theorem dX7_takeByte_12 : decode cX7_takeByte 12 = .ok (.getfield 17, 3) := by decide +kernel
theorem dX7_takeByte_15 : decode cX7_takeByte 15 = .ok (.aload_n 0, 1) := by decide +kernel
theorem dX7_takeByte_16 : decode cX7_takeByte 16 = .ok (.getfield 21, 3) := by decide +kernel
theorem dX7_takeByte_19 : decode cX7_takeByte 19 = .ok (.iload_n 1, 1) := by decide +kernel
theorem dX7_takeByte_20 : decode cX7_takeByte 20 = .ok (.iastore, 1) := by decide +kernel
theorem dX7_takeByte_21 : decode cX7_takeByte 21 = .ok (.aload_n 0, 1) := by decide +kernel
theorem dX7_takeByte_22 : decode cX7_takeByte 22 = .ok (.dup, 1) := by decide +kernel
theorem dX7_takeByte_23 : decode cX7_takeByte 23 = .ok (.getfield 21, 3) := by decide +kernel
theorem dX7_takeByte_26 : decode cX7_takeByte 26 = .ok (.iconst 1, 1) := by decide +kernel
theorem dX7_takeByte_27 : decode cX7_takeByte 27 = .ok (.iadd, 1) := by decide +kernel
theorem dX7_takeByte_28 : decode cX7_takeByte 28 = .ok (.putfield 21, 3) := by decide +kernel
theorem dX7_takeByte_31 : decode cX7_takeByte 31 = .ok (.iconst 1, 1) := by decide +kernel
theorem dX7_takeByte_32 : decode cX7_takeByte 32 = .ok (.ireturn, 1) := by decide +kernel
theorem dX7_readVillage_0 : decode cX7_readVillage 0 = .ok (.aload_n 0, 1) := by decide +kernel
theorem dX7_readVillage_1 : decode cX7_readVillage 1 = .ok (.iconst 0, 1) := by decide +kernel
theorem dX7_readVillage_2 : decode cX7_readVillage 2 = .ok (.putfield 25, 3) := by decide +kernel
theorem dX7_readVillage_5 : decode cX7_readVillage 5 = .ok (.aload_n 0, 1) := by decide +kernel
theorem dX7_readVillage_6 : decode cX7_readVillage 6 = .ok (.iconst 0, 1) := by decide +kernel
theorem dX7_readVillage_7 : decode cX7_readVillage 7 = .ok (.putfield 28, 3) := by decide +kernel
theorem dX7_readVillage_10 : decode cX7_readVillage 10 = .ok (.aload_n 0, 1) := by decide +kernel
theorem dX7_readVillage_11 : decode cX7_readVillage 11 = .ok (.bipush 118, 2) := by decide +kernel
theorem dX7_readVillage_13 : decode cX7_readVillage 13 = .ok (.invokevirtual 31, 3) := by decide +kernel
theorem dX7_readVillage_16 : decode cX7_readVillage 16 = .ok (.aload_n 0, 1) := by decide +kernel
theorem dX7_readVillage_17 : decode cX7_readVillage 17 = .ok (.bipush 59, 2) := by decide +kernel
theorem dX7_readVillage_19 : decode cX7_readVillage 19 = .ok (.invokevirtual 31, 3) := by decide +kernel
theorem dX7_readVillage_22 : decode cX7_readVillage 22 = .ok (.iconst 0, 1) := by decide +kernel
theorem dX7_readVillage_23 : decode cX7_readVillage 23 = .ok (.istore_n 1, 1) := by decide +kernel
theorem dX7_readVillage_24 : decode cX7_readVillage 24 = .ok (.iconst 0, 1) := by decide +kernel
theorem dX7_readVillage_25 : decode cX7_readVillage 25 = .ok (.istore_n 2, 1) := by decide +kernel
theorem dX7_readVillage_26 : decode cX7_readVillage 26 = .ok (.iload_n 2, 1) := by decide +kernel
theorem dX7_readVillage_27 : decode cX7_readVillage 27 = .ok (.iconst 3, 1) := by decide +kernel
theorem dX7_readVillage_28 : decode cX7_readVillage 28 = .ok (.if_icmp .gt 52, 3) := by decide +kernel
theorem dX7_readVillage_31 : decode cX7_readVillage 31 = .ok (.aload_n 0, 1) := by decide +kernel
theorem dX7_readVillage_32 : decode cX7_readVillage 32 = .ok (.getfield 28, 3) := by decide +kernel
theorem dX7_readVillage_35 : decode cX7_readVillage 35 = .ok (.ifCond .ne 45, 3) := by decide +kernel
theorem dX7_readVillage_38 : decode cX7_readVillage 38 = .ok (.aload_n 0, 1) := by decide +kernel
theorem dX7_readVillage_39 : decode cX7_readVillage 39 = .ok (.getfield 25, 3) := by decide +kernel
theorem dX7_readVillage_42 : decode cX7_readVillage 42 = .ok (.aload_n 0, 1) := by decide +kernel
theorem dX7_readVillage_43 : decode cX7_readVillage 43 = .ok (.getfield 21, 3) := by decide +kernel
theorem dX7_readVillage_46 : decode cX7_readVillage 46 = .ok (.if_icmp .ge 34, 3) := by decide +kernel
theorem dX7_readVillage_49 : decode cX7_readVillage 49 = .ok (.aload_n 0, 1) := by decide +kernel
theorem dX7_readVillage_50 : decode cX7_readVillage 50 = .ok (.iload_n 2, 1) := by decide +kernel
theorem dX7_readVillage_51 : decode cX7_readVillage 51 = .ok (.invokevirtual 35, 3) := by decide +kernel
theorem dX7_readVillage_54 : decode cX7_readVillage 54 = .ok (.astore_n 3, 1) := by decide +kernel
theorem dX7_readVillage_55 : decode cX7_readVillage 55 = .ok (.aload_n 3, 1) := by decide +kernel
theorem dX7_readVillage_56 : decode cX7_readVillage 56 = .ok (.ifnull 18, 3) := by decide +kernel
theorem dX7_readVillage_59 : decode cX7_readVillage 59 = .ok (.iload_n 2, 1) := by decide +kernel
theorem dX7_readVillage_60 : decode cX7_readVillage 60 = .ok (.iconst 3, 1) := by decide +kernel
theorem dX7_readVillage_61 : decode cX7_readVillage 61 = .ok (.if_icmp .ge 13, 3) := by decide +kernel
theorem dX7_readVillage_64 : decode cX7_readVillage 64 = .ok (.aload_n 0, 1) := by decide +kernel
theorem dX7_readVillage_65 : decode cX7_readVillage 65 = .ok (.getfield 11, 3) := by decide +kernel
theorem dX7_readVillage_68 : decode cX7_readVillage 68 = .ok (.iload_n 2, 1) := by decide +kernel
theorem dX7_readVillage_69 : decode cX7_readVillage 69 = .ok (.aload_n 3, 1) := by decide +kernel
theorem dX7_readVillage_70 : decode cX7_readVillage 70 = .ok (.aastore, 1) := by decide +kernel
theorem dX7_readVillage_71 : decode cX7_readVillage 71 = .ok (.iinc 1 1, 3) := by decide +kernel
theorem dX7_readVillage_74 : decode cX7_readVillage 74 = .ok (.iinc 2 1, 3) := by decide +kernel
theorem dX7_readVillage_77 : decode cX7_readVillage 77 = .ok (.goto (-51), 3) := by decide +kernel
theorem dX7_readVillage_80 : decode cX7_readVillage 80 = .ok (.aload_n 0, 1) := by decide +kernel
theorem dX7_readVillage_81 : decode cX7_readVillage 81 = .ok (.iconst 0, 1) := by decide +kernel
theorem dX7_readVillage_82 : decode cX7_readVillage 82 = .ok (.putfield 21, 3) := by decide +kernel
theorem dX7_readVillage_85 : decode cX7_readVillage 85 = .ok (.iload_n 1, 1) := by decide +kernel
theorem dX7_readVillage_86 : decode cX7_readVillage 86 = .ok (.ireturn, 1) := by decide +kernel
theorem dX7_byteAt_0 : decode cX7_byteAt 0 = .ok (.iload_n 1, 1) := by decide +kernel
theorem dX7_byteAt_1 : decode cX7_byteAt 1 = .ok (.aload_n 0, 1) := by decide +kernel
theorem dX7_byteAt_2 : decode cX7_byteAt 2 = .ok (.getfield 21, 3) := by decide +kernel
theorem dX7_byteAt_5 : decode cX7_byteAt 5 = .ok (.if_icmp .ge 12, 3) := by decide +kernel
theorem dX7_byteAt_8 : decode cX7_byteAt 8 = .ok (.aload_n 0, 1) := by decide +kernel
theorem dX7_byteAt_9 : decode cX7_byteAt 9 = .ok (.getfield 17, 3) := by decide +kernel
theorem dX7_byteAt_12 : decode cX7_byteAt 12 = .ok (.iload_n 1, 1) := by decide +kernel
theorem dX7_byteAt_13 : decode cX7_byteAt 13 = .ok (.iaload, 1) := by decide +kernel
theorem dX7_byteAt_14 : decode cX7_byteAt 14 = .ok (.goto 4, 3) := by decide +kernel
theorem dX7_byteAt_17 : decode cX7_byteAt 17 = .ok (.iconst (-1), 1) := by decide +kernel
theorem dX7_byteAt_18 : decode cX7_byteAt 18 = .ok (.ireturn, 1) := by decide +kernel
theorem dX7_readSign_0 : decode cX7_readSign 0 = .ok (.aload_n 0, 1) := by decide +kernel
theorem dX7_readSign_1 : decode cX7_readSign 1 = .ok (.getfield 28, 3) := by decide +kernel
theorem dX7_readSign_4 : decode cX7_readSign 4 = .ok (.ifCond .eq 4, 3) := by decide +kernel
theorem dX7_readSign_7 : decode cX7_readSign 7 = .ok (.return_, 1) := by decide +kernel
theorem dX7_readSign_8 : decode cX7_readSign 8 = .ok (.aload_n 0, 1) := by decide +kernel
theorem dX7_readSign_9 : decode cX7_readSign 9 = .ok (.aload_n 0, 1) := by decide +kernel
theorem dX7_readSign_10 : decode cX7_readSign 10 = .ok (.getfield 25, 3) := by decide +kernel
theorem dX7_readSign_13 : decode cX7_readSign 13 = .ok (.invokevirtual 39, 3) := by decide +kernel
theorem dX7_readSign_16 : decode cX7_readSign 16 = .ok (.iload_n 1, 1) := by decide +kernel
theorem dX7_readSign_17 : decode cX7_readSign 17 = .ok (.if_icmp .ne 16, 3) := by decide +kernel
theorem dX7_readSign_20 : decode cX7_readSign 20 = .ok (.aload_n 0, 1) := by decide +kernel
theorem dX7_readSign_21 : decode cX7_readSign 21 = .ok (.dup, 1) := by decide +kernel
theorem dX7_readSign_22 : decode cX7_readSign 22 = .ok (.getfield 25, 3) := by decide +kernel
theorem dX7_readSign_25 : decode cX7_readSign 25 = .ok (.iconst 1, 1) := by decide +kernel
theorem dX7_readSign_26 : decode cX7_readSign 26 = .ok (.iadd, 1) := by decide +kernel
theorem dX7_readSign_27 : decode cX7_readSign 27 = .ok (.putfield 25, 3) := by decide +kernel
theorem dX7_readSign_30 : decode cX7_readSign 30 = .ok (.goto 8, 3) := by decide +kernel
theorem dX7_readSign_33 : decode cX7_readSign 33 = .ok (.aload_n 0, 1) := by decide +kernel
theorem dX7_readSign_34 : decode cX7_readSign 34 = .ok (.iconst 1, 1) := by decide +kernel
theorem dX7_readSign_35 : decode cX7_readSign 35 = .ok (.putfield 28, 3) := by decide +kernel
theorem dX7_readSign_38 : decode cX7_readSign 38 = .ok (.return_, 1) := by decide +kernel
theorem dX7_readNumber_0 : decode cX7_readNumber 0 = .ok (.aload_n 0, 1) := by decide +kernel
theorem dX7_readNumber_1 : decode cX7_readNumber 1 = .ok (.getfield 28, 3) := by decide +kernel
theorem dX7_readNumber_4 : decode cX7_readNumber 4 = .ok (.ifCond .eq 5, 3) := by decide +kernel
theorem dX7_readNumber_7 : decode cX7_readNumber 7 = .ok (.iconst 0, 1) := by decide +kernel
theorem dX7_readNumber_8 : decode cX7_readNumber 8 = .ok (.ireturn, 1) := by decide +kernel
theorem dX7_readNumber_9 : decode cX7_readNumber 9 = .ok (.iconst 0, 1) := by decide +kernel
theorem dX7_readNumber_10 : decode cX7_readNumber 10 = .ok (.istore_n 2, 1) := by decide +kernel
theorem dX7_readNumber_11 : decode cX7_readNumber 11 = .ok (.iconst 0, 1) := by decide +kernel
theorem dX7_readNumber_12 : decode cX7_readNumber 12 = .ok (.istore_n 3, 1) := by decide +kernel
theorem dX7_readNumber_13 : decode cX7_readNumber 13 = .ok (.iload_n 2, 1) := by decide +kernel
theorem dX7_readNumber_14 : decode cX7_readNumber 14 = .ok (.bipush 60, 2) := by decide +kernel
theorem dX7_readNumber_16 : decode cX7_readNumber 16 = .ok (.if_icmp .gt 44, 3) := by decide +kernel
theorem dX7_readNumber_19 : decode cX7_readNumber 19 = .ok (.aload_n 0, 1) := by decide +kernel
theorem dX7_readNumber_20 : decode cX7_readNumber 20 = .ok (.aload_n 0, 1) := by decide +kernel
theorem dX7_readNumber_21 : decode cX7_readNumber 21 = .ok (.getfield 25, 3) := by decide +kernel
theorem dX7_readNumber_24 : decode cX7_readNumber 24 = .ok (.iload_n 2, 1) := by decide +kernel
theorem dX7_readNumber_25 : decode cX7_readNumber 25 = .ok (.iadd, 1) := by decide +kernel
theorem dX7_readNumber_26 : decode cX7_readNumber 26 = .ok (.invokevirtual 39, 3) := by decide +kernel
theorem dX7_readNumber_29 : decode cX7_readNumber 29 = .ok (.invokestatic 43, 3) := by decide +kernel
theorem dX7_readNumber_32 : decode cX7_readNumber 32 = .ok (.ifCond .eq 28, 3) := by decide +kernel
theorem dX7_readNumber_35 : decode cX7_readNumber 35 = .ok (.iload_n 3, 1) := by decide +kernel
theorem dX7_readNumber_36 : decode cX7_readNumber 36 = .ok (.bipush 10, 2) := by decide +kernel
theorem dX7_readNumber_38 : decode cX7_readNumber 38 = .ok (.imul, 1) := by decide +kernel
theorem dX7_readNumber_39 : decode cX7_readNumber 39 = .ok (.aload_n 0, 1) := by decide +kernel
theorem dX7_readNumber_40 : decode cX7_readNumber 40 = .ok (.aload_n 0, 1) := by decide +kernel
theorem dX7_readNumber_41 : decode cX7_readNumber 41 = .ok (.getfield 25, 3) := by decide +kernel
theorem dX7_readNumber_44 : decode cX7_readNumber 44 = .ok (.iload_n 2, 1) := by decide +kernel
theorem dX7_readNumber_45 : decode cX7_readNumber 45 = .ok (.iadd, 1) := by decide +kernel
theorem dX7_readNumber_46 : decode cX7_readNumber 46 = .ok (.invokevirtual 39, 3) := by decide +kernel
theorem dX7_readNumber_49 : decode cX7_readNumber 49 = .ok (.iadd, 1) := by decide +kernel
theorem dX7_readNumber_50 : decode cX7_readNumber 50 = .ok (.bipush 48, 2) := by decide +kernel
theorem dX7_readNumber_52 : decode cX7_readNumber 52 = .ok (.isub, 1) := by decide +kernel
theorem dX7_readNumber_53 : decode cX7_readNumber 53 = .ok (.istore_n 3, 1) := by decide +kernel
theorem dX7_readNumber_54 : decode cX7_readNumber 54 = .ok (.iinc 2 1, 3) := by decide +kernel
theorem dX7_readNumber_57 : decode cX7_readNumber 57 = .ok (.goto (-44), 3) := by decide +kernel
theorem dX7_readNumber_60 : decode cX7_readNumber 60 = .ok (.iload_n 2, 1) := by decide +kernel
theorem dX7_readNumber_61 : decode cX7_readNumber 61 = .ok (.iconst 1, 1) := by decide +kernel
theorem dX7_readNumber_62 : decode cX7_readNumber 62 = .ok (.if_icmp .lt 8, 3) := by decide +kernel
theorem dX7_readNumber_65 : decode cX7_readNumber 65 = .ok (.iload_n 2, 1) := by decide +kernel
theorem dX7_readNumber_66 : decode cX7_readNumber 66 = .ok (.iconst 2, 1) := by decide +kernel
theorem dX7_readNumber_67 : decode cX7_readNumber 67 = .ok (.if_icmp .le 11, 3) := by decide +kernel
theorem dX7_readNumber_70 : decode cX7_readNumber 70 = .ok (.aload_n 0, 1) := by decide +kernel
theorem dX7_readNumber_71 : decode cX7_readNumber 71 = .ok (.iconst 1, 1) := by decide +kernel
theorem dX7_readNumber_72 : decode cX7_readNumber 72 = .ok (.putfield 28, 3) := by decide +kernel
theorem dX7_readNumber_75 : decode cX7_readNumber 75 = .ok (.goto 26, 3) := by decide +kernel
theorem dX7_readNumber_78 : decode cX7_readNumber 78 = .ok (.iload_n 3, 1) := by decide +kernel
theorem dX7_readNumber_79 : decode cX7_readNumber 79 = .ok (.iload_n 1, 1) := by decide +kernel
theorem dX7_readNumber_80 : decode cX7_readNumber 80 = .ok (.if_icmp .le 11, 3) := by decide +kernel
theorem dX7_readNumber_83 : decode cX7_readNumber 83 = .ok (.aload_n 0, 1) := by decide +kernel
theorem dX7_readNumber_84 : decode cX7_readNumber 84 = .ok (.iconst 2, 1) := by decide +kernel
theorem dX7_readNumber_85 : decode cX7_readNumber 85 = .ok (.putfield 28, 3) := by decide +kernel
theorem dX7_readNumber_88 : decode cX7_readNumber 88 = .ok (.goto 13, 3) := by decide +kernel
theorem dX7_readNumber_91 : decode cX7_readNumber 91 = .ok (.aload_n 0, 1) := by decide +kernel
theorem dX7_readNumber_92 : decode cX7_readNumber 92 = .ok (.dup, 1) := by decide +kernel
theorem dX7_readNumber_93 : decode cX7_readNumber 93 = .ok (.getfield 25, 3) := by decide +kernel
theorem dX7_readNumber_96 : decode cX7_readNumber 96 = .ok (.iload_n 2, 1) := by decide +kernel
theorem dX7_readNumber_97 : decode cX7_readNumber 97 = .ok (.iadd, 1) := by decide +kernel
theorem dX7_readNumber_98 : decode cX7_readNumber 98 = .ok (.putfield 25, 3) := by decide +kernel
theorem dX7_readNumber_101 : decode cX7_readNumber 101 = .ok (.iload_n 3, 1) := by decide +kernel
theorem dX7_readNumber_102 : decode cX7_readNumber 102 = .ok (.ireturn, 1) := by decide +kernel
theorem dX7_readPerson_0 : decode cX7_readPerson 0 = .ok (.aload_n 0, 1) := by decide +kernel
theorem dX7_readPerson_1 : decode cX7_readPerson 1 = .ok (.aload_n 0, 1) := by decide +kernel
theorem dX7_readPerson_2 : decode cX7_readPerson 2 = .ok (.getfield 25, 3) := by decide +kernel
theorem dX7_readPerson_5 : decode cX7_readPerson 5 = .ok (.invokevirtual 39, 3) := by decide +kernel
theorem dX7_readPerson_8 : decode cX7_readPerson 8 = .ok (.istore_n 2, 1) := by decide +kernel
theorem dX7_readPerson_9 : decode cX7_readPerson 9 = .ok (.iload_n 2, 1) := by decide +kernel
theorem dX7_readPerson_10 : decode cX7_readPerson 10 = .ok (.invokestatic 47, 3) := by decide +kernel
theorem dX7_readPerson_13 : decode cX7_readPerson 13 = .ok (.ifCond .ne 11, 3) := by decide +kernel
theorem dX7_readPerson_16 : decode cX7_readPerson 16 = .ok (.aload_n 0, 1) := by decide +kernel
theorem dX7_readPerson_17 : decode cX7_readPerson 17 = .ok (.iconst 1, 1) := by decide +kernel
theorem dX7_readPerson_18 : decode cX7_readPerson 18 = .ok (.putfield 28, 3) := by decide +kernel
theorem dX7_readPerson_21 : decode cX7_readPerson 21 = .ok (.goto 13, 3) := by decide +kernel
theorem dX7_readPerson_24 : decode cX7_readPerson 24 = .ok (.iload_n 1, 1) := by decide +kernel
theorem dX7_readPerson_25 : decode cX7_readPerson 25 = .ok (.iconst 3, 1) := by decide +kernel
theorem dX7_readPerson_26 : decode cX7_readPerson 26 = .ok (.if_icmp .lt 8, 3) := by decide +kernel
theorem dX7_readPerson_29 : decode cX7_readPerson 29 = .ok (.aload_n 0, 1) := by decide +kernel
theorem dX7_readPerson_30 : decode cX7_readPerson 30 = .ok (.iconst 3, 1) := by decide +kernel
theorem dX7_readPerson_31 : decode cX7_readPerson 31 = .ok (.putfield 28, 3) := by decide +kernel
theorem dX7_readPerson_34 : decode cX7_readPerson 34 = .ok (.aload_n 0, 1) := by decide +kernel
theorem dX7_readPerson_35 : decode cX7_readPerson 35 = .ok (.iload_n 2, 1) := by decide +kernel
theorem dX7_readPerson_36 : decode cX7_readPerson 36 = .ok (.invokevirtual 31, 3) := by decide +kernel
theorem dX7_readPerson_39 : decode cX7_readPerson 39 = .ok (.aload_n 0, 1) := by decide +kernel
theorem dX7_readPerson_40 : decode cX7_readPerson 40 = .ok (.bipush 10, 2) := by decide +kernel
theorem dX7_readPerson_42 : decode cX7_readPerson 42 = .ok (.invokevirtual 50, 3) := by decide +kernel
theorem dX7_readPerson_45 : decode cX7_readPerson 45 = .ok (.istore_n 3, 1) := by decide +kernel
theorem dX7_readPerson_46 : decode cX7_readPerson 46 = .ok (.aload_n 0, 1) := by decide +kernel
theorem dX7_readPerson_47 : decode cX7_readPerson 47 = .ok (.bipush 44, 2) := by decide +kernel
theorem dX7_readPerson_49 : decode cX7_readPerson 49 = .ok (.invokevirtual 31, 3) := by decide +kernel
theorem dX7_readPerson_52 : decode cX7_readPerson 52 = .ok (.aload_n 0, 1) := by decide +kernel
theorem dX7_readPerson_53 : decode cX7_readPerson 53 = .ok (.bipush 99, 2) := by decide +kernel
theorem dX7_readPerson_55 : decode cX7_readPerson 55 = .ok (.invokevirtual 50, 3) := by decide +kernel
theorem dX7_readPerson_58 : decode cX7_readPerson 58 = .ok (.istore 4, 2) := by decide +kernel
theorem dX7_readPerson_60 : decode cX7_readPerson 60 = .ok (.aload_n 0, 1) := by decide +kernel
theorem dX7_readPerson_61 : decode cX7_readPerson 61 = .ok (.bipush 44, 2) := by decide +kernel
theorem dX7_readPerson_63 : decode cX7_readPerson 63 = .ok (.invokevirtual 31, 3) := by decide +kernel
theorem dX7_readPerson_66 : decode cX7_readPerson 66 = .ok (.aload_n 0, 1) := by decide +kernel
theorem dX7_readPerson_67 : decode cX7_readPerson 67 = .ok (.bipush 99, 2) := by decide +kernel
theorem dX7_readPerson_69 : decode cX7_readPerson 69 = .ok (.invokevirtual 50, 3) := by decide +kernel
theorem dX7_readPerson_72 : decode cX7_readPerson 72 = .ok (.istore 5, 2) := by decide +kernel
theorem dX7_readPerson_74 : decode cX7_readPerson 74 = .ok (.aload_n 0, 1) := by decide +kernel
theorem dX7_readPerson_75 : decode cX7_readPerson 75 = .ok (.bipush 59, 2) := by decide +kernel
theorem dX7_readPerson_77 : decode cX7_readPerson 77 = .ok (.invokevirtual 31, 3) := by decide +kernel
theorem dX7_readPerson_80 : decode cX7_readPerson 80 = .ok (.aload_n 0, 1) := by decide +kernel
theorem dX7_readPerson_81 : decode cX7_readPerson 81 = .ok (.getfield 28, 3) := by decide +kernel
theorem dX7_readPerson_84 : decode cX7_readPerson 84 = .ok (.ifCond .eq 7, 3) := by decide +kernel
theorem dX7_readPerson_87 : decode cX7_readPerson 87 = .ok (.aconst_null, 1) := by decide +kernel
theorem dX7_readPerson_88 : decode cX7_readPerson 88 = .ok (.goto 13, 3) := by decide +kernel
theorem dX7_readPerson_91 : decode cX7_readPerson 91 = .ok (.iload_n 2, 1) := by decide +kernel
theorem dX7_readPerson_92 : decode cX7_readPerson 92 = .ok (.iload_n 1, 1) := by decide +kernel
theorem dX7_readPerson_93 : decode cX7_readPerson 93 = .ok (.iload_n 3, 1) := by decide +kernel
theorem dX7_readPerson_94 : decode cX7_readPerson 94 = .ok (.iload 4, 2) := by decide +kernel
theorem dX7_readPerson_96 : decode cX7_readPerson 96 = .ok (.iload 5, 2) := by decide +kernel
theorem dX7_readPerson_98 : decode cX7_readPerson 98 = .ok (.invokestatic 53, 3) := by decide +kernel
theorem dX7_readPerson_101 : decode cX7_readPerson 101 = .ok (.areturn, 1) := by decide +kernel
theorem dX7_isFigure_0 : decode cX7_isFigure 0 = .ok (.iload_n 0, 1) := by decide +kernel
theorem dX7_isFigure_1 : decode cX7_isFigure 1 = .ok (.bipush 48, 2) := by decide +kernel
theorem dX7_isFigure_3 : decode cX7_isFigure 3 = .ok (.if_icmp .lt 13, 3) := by decide +kernel
theorem dX7_isFigure_6 : decode cX7_isFigure 6 = .ok (.iload_n 0, 1) := by decide +kernel
theorem dX7_isFigure_7 : decode cX7_isFigure 7 = .ok (.bipush 57, 2) := by decide +kernel
theorem dX7_isFigure_9 : decode cX7_isFigure 9 = .ok (.if_icmp .gt 7, 3) := by decide +kernel
theorem dX7_isFigure_12 : decode cX7_isFigure 12 = .ok (.iconst 1, 1) := by decide +kernel
theorem dX7_isFigure_13 : decode cX7_isFigure 13 = .ok (.goto 4, 3) := by decide +kernel
theorem dX7_isFigure_16 : decode cX7_isFigure 16 = .ok (.iconst 0, 1) := by decide +kernel
theorem dX7_isFigure_17 : decode cX7_isFigure 17 = .ok (.ireturn, 1) := by decide +kernel
theorem dX7_isSort_0 : decode cX7_isSort 0 = .ok (.iload_n 0, 1) := by decide +kernel
theorem dX7_isSort_1 : decode cX7_isSort 1 = .ok (.bipush 102, 2) := by decide +kernel
theorem dX7_isSort_3 : decode cX7_isSort 3 = .ok (.if_icmp .eq 27, 3) := by decide +kernel
theorem dX7_isSort_6 : decode cX7_isSort 6 = .ok (.iload_n 0, 1) := by decide +kernel
theorem dX7_isSort_7 : decode cX7_isSort 7 = .ok (.bipush 103, 2) := by decide +kernel
theorem dX7_isSort_9 : decode cX7_isSort 9 = .ok (.if_icmp .eq 21, 3) := by decide +kernel
theorem dX7_isSort_12 : decode cX7_isSort 12 = .ok (.iload_n 0, 1) := by decide +kernel
theorem dX7_isSort_13 : decode cX7_isSort 13 = .ok (.bipush 115, 2) := by decide +kernel
theorem dX7_isSort_15 : decode cX7_isSort 15 = .ok (.if_icmp .eq 15, 3) := by decide +kernel
theorem dX7_isSort_18 : decode cX7_isSort 18 = .ok (.iload_n 0, 1) := by decide +kernel
theorem dX7_isSort_19 : decode cX7_isSort 19 = .ok (.bipush 119, 2) := by decide +kernel
theorem dX7_isSort_21 : decode cX7_isSort 21 = .ok (.if_icmp .eq 9, 3) := by decide +kernel
theorem dX7_isSort_24 : decode cX7_isSort 24 = .ok (.iload_n 0, 1) := by decide +kernel
theorem dX7_isSort_25 : decode cX7_isSort 25 = .ok (.bipush 120, 2) := by decide +kernel
theorem dX7_isSort_27 : decode cX7_isSort 27 = .ok (.if_icmp .ne 7, 3) := by decide +kernel
theorem dX7_isSort_30 : decode cX7_isSort 30 = .ok (.iconst 1, 1) := by decide +kernel
theorem dX7_isSort_31 : decode cX7_isSort 31 = .ok (.goto 4, 3) := by decide +kernel
theorem dX7_isSort_34 : decode cX7_isSort 34 = .ok (.iconst 0, 1) := by decide +kernel
theorem dX7_isSort_35 : decode cX7_isSort 35 = .ok (.ireturn, 1) := by decide +kernel
theorem dX7_newPerson_0 : decode cX7_newPerson 0 = .ok (.iload_n 0, 1) := by decide +kernel
theorem dX7_newPerson_1 : decode cX7_newPerson 1 = .ok (.lookupswitch 95 #[(102, 43), (103, 56), (115, 69), (119, 82)], 43) := by decide +kernel
theorem dX7_newPerson_44 : decode cX7_newPerson 44 = .ok (.new 57, 3) := by decide +kernel
theorem dX7_newPerson_47 : decode cX7_newPerson 47 = .ok (.dup, 1) := by decide +kernel
theorem dX7_newPerson_48 : decode cX7_newPerson 48 = .ok (.iload_n 1, 1) := by decide +kernel
theorem dX7_newPerson_49 : decode cX7_newPerson 49 = .ok (.iload_n 2, 1) := by decide +kernel
theorem dX7_newPerson_50 : decode cX7_newPerson 50 = .ok (.iload_n 3, 1) := by decide +kernel
theorem dX7_newPerson_51 : decode cX7_newPerson 51 = .ok (.iload 4, 2) := by decide +kernel
theorem dX7_newPerson_53 : decode cX7_newPerson 53 = .ok (.invokespecial 59, 3) := by decide +kernel
theorem dX7_newPerson_56 : decode cX7_newPerson 56 = .ok (.areturn, 1) := by decide +kernel
theorem dX7_newPerson_57 : decode cX7_newPerson 57 = .ok (.new 62, 3) := by decide +kernel
theorem dX7_newPerson_60 : decode cX7_newPerson 60 = .ok (.dup, 1) := by decide +kernel
theorem dX7_newPerson_61 : decode cX7_newPerson 61 = .ok (.iload_n 1, 1) := by decide +kernel
theorem dX7_newPerson_62 : decode cX7_newPerson 62 = .ok (.iload_n 2, 1) := by decide +kernel
theorem dX7_newPerson_63 : decode cX7_newPerson 63 = .ok (.iload_n 3, 1) := by decide +kernel
theorem dX7_newPerson_64 : decode cX7_newPerson 64 = .ok (.iload 4, 2) := by decide +kernel
theorem dX7_newPerson_66 : decode cX7_newPerson 66 = .ok (.invokespecial 64, 3) := by decide +kernel
theorem dX7_newPerson_69 : decode cX7_newPerson 69 = .ok (.areturn, 1) := by decide +kernel
theorem dX7_newPerson_70 : decode cX7_newPerson 70 = .ok (.new 65, 3) := by decide +kernel
theorem dX7_newPerson_73 : decode cX7_newPerson 73 = .ok (.dup, 1) := by decide +kernel
theorem dX7_newPerson_74 : decode cX7_newPerson 74 = .ok (.iload_n 1, 1) := by decide +kernel
theorem dX7_newPerson_75 : decode cX7_newPerson 75 = .ok (.iload_n 2, 1) := by decide +kernel
theorem dX7_newPerson_76 : decode cX7_newPerson 76 = .ok (.iload_n 3, 1) := by decide +kernel
theorem dX7_newPerson_77 : decode cX7_newPerson 77 = .ok (.iload 4, 2) := by decide +kernel
theorem dX7_newPerson_79 : decode cX7_newPerson 79 = .ok (.invokespecial 67, 3) := by decide +kernel
theorem dX7_newPerson_82 : decode cX7_newPerson 82 = .ok (.areturn, 1) := by decide +kernel
theorem dX7_newPerson_83 : decode cX7_newPerson 83 = .ok (.new 68, 3) := by decide +kernel
theorem dX7_newPerson_86 : decode cX7_newPerson 86 = .ok (.dup, 1) := by decide +kernel
theorem dX7_newPerson_87 : decode cX7_newPerson 87 = .ok (.iload_n 1, 1) := by decide +kernel
theorem dX7_newPerson_88 : decode cX7_newPerson 88 = .ok (.iload_n 2, 1) := by decide +kernel
theorem dX7_newPerson_89 : decode cX7_newPerson 89 = .ok (.iload_n 3, 1) := by decide +kernel
theorem dX7_newPerson_90 : decode cX7_newPerson 90 = .ok (.iload 4, 2) := by decide +kernel
theorem dX7_newPerson_92 : decode cX7_newPerson 92 = .ok (.invokespecial 70, 3) := by decide +kernel
theorem dX7_newPerson_95 : decode cX7_newPerson 95 = .ok (.areturn, 1) := by decide +kernel
theorem dX7_newPerson_96 : decode cX7_newPerson 96 = .ok (.new 71, 3) := by decide +kernel
theorem dX7_newPerson_99 : decode cX7_newPerson 99 = .ok (.dup, 1) := by decide +kernel
theorem dX7_newPerson_100 : decode cX7_newPerson 100 = .ok (.iload_n 1, 1) := by decide +kernel
theorem dX7_newPerson_101 : decode cX7_newPerson 101 = .ok (.iload_n 2, 1) := by decide +kernel
theorem dX7_newPerson_102 : decode cX7_newPerson 102 = .ok (.iload_n 3, 1) := by decide +kernel
theorem dX7_newPerson_103 : decode cX7_newPerson 103 = .ok (.iload 4, 2) := by decide +kernel
theorem dX7_newPerson_105 : decode cX7_newPerson 105 = .ok (.invokespecial 73, 3) := by decide +kernel
theorem dX7_newPerson_108 : decode cX7_newPerson 108 = .ok (.areturn, 1) := by decide +kernel
theorem dX8_init_0 : decode cX8_init 0 = .ok (.aload_n 0, 1) := by decide +kernel
theorem dX8_init_1 : decode cX8_init 1 = .ok (.invokespecial 3, 3) := by decide +kernel
theorem dX8_init_4 : decode cX8_init 4 = .ok (.aload_n 0, 1) := by decide +kernel
theorem dX8_init_5 : decode cX8_init 5 = .ok (.bipush 16, 2) := by decide +kernel
theorem dX8_init_7 : decode cX8_init 7 = .ok (.newarray .int, 2) := by decide +kernel
theorem dX8_init_9 : decode cX8_init 9 = .ok (.putfield 11, 3) := by decide +kernel
theorem dX8_init_12 : decode cX8_init 12 = .ok (.return_, 1) := by decide +kernel
theorem dX8_begin_0 : decode cX8_begin 0 = .ok (.aload_n 0, 1) := by decide +kernel
theorem dX8_begin_1 : decode cX8_begin 1 = .ok (.iconst 0, 1) := by decide +kernel
theorem dX8_begin_2 : decode cX8_begin 2 = .ok (.putfield 15, 3) := by decide +kernel
theorem dX8_begin_5 : decode cX8_begin 5 = .ok (.aload_n 0, 1) := by decide +kernel
theorem dX8_begin_6 : decode cX8_begin 6 = .ok (.iload_n 1, 1) := by decide +kernel
theorem dX8_begin_7 : decode cX8_begin 7 = .ok (.putfield 19, 3) := by decide +kernel
theorem dX8_begin_10 : decode cX8_begin 10 = .ok (.aload_n 0, 1) := by decide +kernel
theorem dX8_begin_11 : decode cX8_begin 11 = .ok (.iload_n 2, 1) := by decide +kernel
theorem dX8_begin_12 : decode cX8_begin 12 = .ok (.putfield 22, 3) := by decide +kernel
theorem dX8_begin_15 : decode cX8_begin 15 = .ok (.return_, 1) := by decide +kernel
theorem dX8_leave_0 : decode cX8_leave 0 = .ok (.aload_n 0, 1) := by decide +kernel
theorem dX8_leave_1 : decode cX8_leave 1 = .ok (.getfield 15, 3) := by decide +kernel
theorem dX8_leave_4 : decode cX8_leave 4 = .ok (.bipush 16, 2) := by decide +kernel
theorem dX8_leave_6 : decode cX8_leave 6 = .ok (.if_icmp .ge 23, 3) := by decide +kernel
theorem dX8_leave_9 : decode cX8_leave 9 = .ok (.aload_n 0, 1) := by decide +kernel
theorem dX8_leave_10 : decode cX8_leave 10 = .ok (.getfield 11, 3) := by decide +kernel
theorem dX8_leave_13 : decode cX8_leave 13 = .ok (.aload_n 0, 1) := by decide +kernel
theorem dX8_leave_14 : decode cX8_leave 14 = .ok (.getfield 15, 3) := by decide +kernel
theorem dX8_leave_17 : decode cX8_leave 17 = .ok (.iload_n 1, 1) := by decide +kernel
theorem dX8_leave_18 : decode cX8_leave 18 = .ok (.iastore, 1) := by decide +kernel
theorem dX8_leave_19 : decode cX8_leave 19 = .ok (.aload_n 0, 1) := by decide +kernel
theorem dX8_leave_20 : decode cX8_leave 20 = .ok (.dup, 1) := by decide +kernel
theorem dX8_leave_21 : decode cX8_leave 21 = .ok (.getfield 15, 3) := by decide +kernel
theorem dX8_leave_24 : decode cX8_leave 24 = .ok (.iconst 1, 1) := by decide +kernel
theorem dX8_leave_25 : decode cX8_leave 25 = .ok (.iadd, 1) := by decide +kernel
theorem dX8_leave_26 : decode cX8_leave 26 = .ok (.putfield 15, 3) := by decide +kernel
theorem dX8_leave_29 : decode cX8_leave 29 = .ok (.return_, 1) := by decide +kernel
theorem dX8_numberAt_0 : decode cX8_numberAt 0 = .ok (.iload_n 1, 1) := by decide +kernel
theorem dX8_numberAt_1 : decode cX8_numberAt 1 = .ok (.ifCond .lt 11, 3) := by decide +kernel
theorem dX8_numberAt_4 : decode cX8_numberAt 4 = .ok (.iload_n 1, 1) := by decide +kernel
theorem dX8_numberAt_5 : decode cX8_numberAt 5 = .ok (.aload_n 0, 1) := by decide +kernel
theorem dX8_numberAt_6 : decode cX8_numberAt 6 = .ok (.getfield 15, 3) := by decide +kernel
theorem dX8_numberAt_9 : decode cX8_numberAt 9 = .ok (.if_icmp .lt 8, 3) := by decide +kernel
theorem dX8_numberAt_12 : decode cX8_numberAt 12 = .ok (.ldc 25, 2) := by decide +kernel
theorem dX8_numberAt_14 : decode cX8_numberAt 14 = .ok (.goto 9, 3) := by decide +kernel
theorem dX8_numberAt_17 : decode cX8_numberAt 17 = .ok (.aload_n 0, 1) := by decide +kernel
theorem dX8_numberAt_18 : decode cX8_numberAt 18 = .ok (.getfield 11, 3) := by decide +kernel
theorem dX8_numberAt_21 : decode cX8_numberAt 21 = .ok (.iload_n 1, 1) := by decide +kernel
theorem dX8_numberAt_22 : decode cX8_numberAt 22 = .ok (.iaload, 1) := by decide +kernel
theorem dX8_numberAt_23 : decode cX8_numberAt 23 = .ok (.ireturn, 1) := by decide +kernel
theorem dX9_init_0 : decode cX9_init 0 = .ok (.aload_n 0, 1) := by decide +kernel
theorem dX9_init_1 : decode cX9_init 1 = .ok (.invokespecial 3, 3) := by decide +kernel
theorem dX9_init_4 : decode cX9_init 4 = .ok (.aload_n 0, 1) := by decide +kernel
theorem dX9_init_5 : decode cX9_init 5 = .ok (.iconst 3, 1) := by decide +kernel
theorem dX9_init_6 : decode cX9_init 6 = .ok (.anewarray 9, 3) := by decide +kernel
theorem dX9_init_9 : decode cX9_init 9 = .ok (.putfield 11, 3) := by decide +kernel
theorem dX9_init_12 : decode cX9_init 12 = .ok (.aload_n 0, 1) := by decide +kernel
theorem dX9_init_13 : decode cX9_init 13 = .ok (.iconst 3, 1) := by decide +kernel
theorem dX9_init_14 : decode cX9_init 14 = .ok (.newarray .int, 2) := by decide +kernel
theorem dX9_init_16 : decode cX9_init 16 = .ok (.putfield 17, 3) := by decide +kernel
theorem dX9_init_19 : decode cX9_init 19 = .ok (.aload_n 0, 1) := by decide +kernel
theorem dX9_init_20 : decode cX9_init 20 = .ok (.iconst 3, 1) := by decide +kernel
theorem dX9_init_21 : decode cX9_init 21 = .ok (.newarray .int, 2) := by decide +kernel
theorem dX9_init_23 : decode cX9_init 23 = .ok (.putfield 21, 3) := by decide +kernel
theorem dX9_init_26 : decode cX9_init 26 = .ok (.aload_n 0, 1) := by decide +kernel
theorem dX9_init_27 : decode cX9_init 27 = .ok (.bipush 100, 2) := by decide +kernel
theorem dX9_init_29 : decode cX9_init 29 = .ok (.newarray .int, 2) := by decide +kernel
theorem dX9_init_31 : decode cX9_init 31 = .ok (.putfield 24, 3) := by decide +kernel
theorem dX9_init_34 : decode cX9_init 34 = .ok (.return_, 1) := by decide +kernel
theorem dX9_settle_0 : decode cX9_settle 0 = .ok (.aload_n 0, 1) := by decide +kernel
theorem dX9_settle_1 : decode cX9_settle 1 = .ok (.iconst 1, 1) := by decide +kernel
theorem dX9_settle_2 : decode cX9_settle 2 = .ok (.putfield 27, 3) := by decide +kernel
theorem dX9_settle_5 : decode cX9_settle 5 = .ok (.aload_n 0, 1) := by decide +kernel
theorem dX9_settle_6 : decode cX9_settle 6 = .ok (.iload_n 2, 1) := by decide +kernel
theorem dX9_settle_7 : decode cX9_settle 7 = .ok (.iconst 3, 1) := by decide +kernel
theorem dX9_settle_8 : decode cX9_settle 8 = .ok (.invokestatic 31, 3) := by decide +kernel
theorem dX9_settle_11 : decode cX9_settle 11 = .ok (.putfield 37, 3) := by decide +kernel
theorem dX9_settle_14 : decode cX9_settle 14 = .ok (.aload_n 0, 1) := by decide +kernel
theorem dX9_settle_15 : decode cX9_settle 15 = .ok (.iconst 0, 1) := by decide +kernel
theorem dX9_settle_16 : decode cX9_settle 16 = .ok (.putfield 41, 3) := by decide +kernel
theorem dX9_settle_19 : decode cX9_settle 19 = .ok (.aload_n 0, 1) := by decide +kernel
theorem dX9_settle_20 : decode cX9_settle 20 = .ok (.iconst 0, 1) := by decide +kernel
theorem dX9_settle_21 : decode cX9_settle 21 = .ok (.putfield 44, 3) := by decide +kernel
theorem dX9_settle_24 : decode cX9_settle 24 = .ok (.aload_n 0, 1) := by decide +kernel
theorem dX9_settle_25 : decode cX9_settle 25 = .ok (.iconst 0, 1) := by decide +kernel
theorem dX9_settle_26 : decode cX9_settle 26 = .ok (.putfield 47, 3) := by decide +kernel
theorem dX9_settle_29 : decode cX9_settle 29 = .ok (.aload_n 0, 1) := by decide +kernel
theorem dX9_settle_30 : decode cX9_settle 30 = .ok (.iconst 0, 1) := by decide +kernel
theorem dX9_settle_31 : decode cX9_settle 31 = .ok (.putfield 50, 3) := by decide +kernel
theorem dX9_settle_34 : decode cX9_settle 34 = .ok (.aload_n 0, 1) := by decide +kernel
theorem dX9_settle_35 : decode cX9_settle 35 = .ok (.getfield 17, 3) := by decide +kernel
theorem dX9_settle_38 : decode cX9_settle 38 = .ok (.iconst 0, 1) := by decide +kernel
theorem dX9_settle_39 : decode cX9_settle 39 = .ok (.invokestatic 53, 3) := by decide +kernel
theorem dX9_settle_42 : decode cX9_settle 42 = .ok (.aload_n 0, 1) := by decide +kernel
theorem dX9_settle_43 : decode cX9_settle 43 = .ok (.getfield 21, 3) := by decide +kernel
theorem dX9_settle_46 : decode cX9_settle 46 = .ok (.iconst 0, 1) := by decide +kernel
theorem dX9_settle_47 : decode cX9_settle 47 = .ok (.invokestatic 53, 3) := by decide +kernel
theorem dX9_settle_50 : decode cX9_settle 50 = .ok (.aload_n 0, 1) := by decide +kernel
theorem dX9_settle_51 : decode cX9_settle 51 = .ok (.getfield 24, 3) := by decide +kernel
theorem dX9_settle_54 : decode cX9_settle 54 = .ok (.iconst 0, 1) := by decide +kernel
theorem dX9_settle_55 : decode cX9_settle 55 = .ok (.invokestatic 53, 3) := by decide +kernel
theorem dX9_settle_58 : decode cX9_settle 58 = .ok (.iconst 0, 1) := by decide +kernel
theorem dX9_settle_59 : decode cX9_settle 59 = .ok (.istore_n 3, 1) := by decide +kernel
theorem dX9_settle_60 : decode cX9_settle 60 = .ok (.iload_n 3, 1) := by decide +kernel
theorem dX9_settle_61 : decode cX9_settle 61 = .ok (.aload_n 0, 1) := by decide +kernel
theorem dX9_settle_62 : decode cX9_settle 62 = .ok (.getfield 37, 3) := by decide +kernel
theorem dX9_settle_65 : decode cX9_settle 65 = .ok (.if_icmp .ge 47, 3) := by decide +kernel
theorem dX9_settle_68 : decode cX9_settle 68 = .ok (.aload_n 1, 1) := by decide +kernel
theorem dX9_settle_69 : decode cX9_settle 69 = .ok (.iload_n 3, 1) := by decide +kernel
theorem dX9_settle_70 : decode cX9_settle 70 = .ok (.aaload, 1) := by decide +kernel
theorem dX9_settle_71 : decode cX9_settle 71 = .ok (.astore 4, 2) := by decide +kernel
theorem dX9_settle_73 : decode cX9_settle 73 = .ok (.aload_n 0, 1) := by decide +kernel
theorem dX9_settle_74 : decode cX9_settle 74 = .ok (.getfield 11, 3) := by decide +kernel
theorem dX9_settle_77 : decode cX9_settle 77 = .ok (.iload_n 3, 1) := by decide +kernel
theorem dX9_settle_78 : decode cX9_settle 78 = .ok (.aload 4, 2) := by decide +kernel
theorem dX9_settle_80 : decode cX9_settle 80 = .ok (.aastore, 1) := by decide +kernel
theorem dX9_settle_81 : decode cX9_settle 81 = .ok (.aload 4, 2) := by decide +kernel
theorem dX9_settle_83 : decode cX9_settle 83 = .ok (.ifnull 23, 3) := by decide +kernel
theorem dX9_settle_86 : decode cX9_settle 86 = .ok (.aload 4, 2) := by decide +kernel
theorem dX9_settle_88 : decode cX9_settle 88 = .ok (.invokevirtual 59, 3) := by decide +kernel
theorem dX9_settle_91 : decode cX9_settle 91 = .ok (.ifCond .eq 15, 3) := by decide +kernel
theorem dX9_settle_94 : decode cX9_settle 94 = .ok (.aload_n 0, 1) := by decide +kernel
theorem dX9_settle_95 : decode cX9_settle 95 = .ok (.dup, 1) := by decide +kernel
theorem dX9_settle_96 : decode cX9_settle 96 = .ok (.getfield 50, 3) := by decide +kernel
theorem dX9_settle_99 : decode cX9_settle 99 = .ok (.iconst 1, 1) := by decide +kernel
theorem dX9_settle_100 : decode cX9_settle 100 = .ok (.iload_n 3, 1) := by decide +kernel
theorem dX9_settle_101 : decode cX9_settle 101 = .ok (.ishl, 1) := by decide +kernel
theorem dX9_settle_102 : decode cX9_settle 102 = .ok (.ior, 1) := by decide +kernel
theorem dX9_settle_103 : decode cX9_settle 103 = .ok (.putfield 50, 3) := by decide +kernel
theorem dX9_settle_106 : decode cX9_settle 106 = .ok (.iinc 3 1, 3) := by decide +kernel
theorem dX9_settle_109 : decode cX9_settle 109 = .ok (.goto (-49), 3) := by decide +kernel
theorem dX9_settle_112 : decode cX9_settle 112 = .ok (.return_, 1) := by decide +kernel
theorem dX9_takeFrom_0 : decode cX9_takeFrom 0 = .ok (.aload_n 0, 1) := by decide +kernel
theorem dX9_takeFrom_1 : decode cX9_takeFrom 1 = .ok (.aload_n 1, 1) := by decide +kernel
theorem dX9_takeFrom_2 : decode cX9_takeFrom 2 = .ok (.getfield 27, 3) := by decide +kernel
theorem dX9_takeFrom_5 : decode cX9_takeFrom 5 = .ok (.putfield 27, 3) := by decide +kernel
theorem dX9_takeFrom_8 : decode cX9_takeFrom 8 = .ok (.aload_n 0, 1) := by decide +kernel
theorem dX9_takeFrom_9 : decode cX9_takeFrom 9 = .ok (.aload_n 1, 1) := by decide +kernel
theorem dX9_takeFrom_10 : decode cX9_takeFrom 10 = .ok (.getfield 37, 3) := by decide +kernel
theorem dX9_takeFrom_13 : decode cX9_takeFrom 13 = .ok (.putfield 37, 3) := by decide +kernel
theorem dX9_takeFrom_16 : decode cX9_takeFrom 16 = .ok (.aload_n 0, 1) := by decide +kernel
theorem dX9_takeFrom_17 : decode cX9_takeFrom 17 = .ok (.aload_n 1, 1) := by decide +kernel
theorem dX9_takeFrom_18 : decode cX9_takeFrom 18 = .ok (.getfield 41, 3) := by decide +kernel
theorem dX9_takeFrom_21 : decode cX9_takeFrom 21 = .ok (.putfield 41, 3) := by decide +kernel
theorem dX9_takeFrom_24 : decode cX9_takeFrom 24 = .ok (.aload_n 0, 1) := by decide +kernel
theorem dX9_takeFrom_25 : decode cX9_takeFrom 25 = .ok (.aload_n 1, 1) := by decide +kernel
theorem dX9_takeFrom_26 : decode cX9_takeFrom 26 = .ok (.getfield 44, 3) := by decide +kernel
theorem dX9_takeFrom_29 : decode cX9_takeFrom 29 = .ok (.putfield 44, 3) := by decide +kernel
theorem dX9_takeFrom_32 : decode cX9_takeFrom 32 = .ok (.aload_n 0, 1) := by decide +kernel
theorem dX9_takeFrom_33 : decode cX9_takeFrom 33 = .ok (.aload_n 1, 1) := by decide +kernel
theorem dX9_takeFrom_34 : decode cX9_takeFrom 34 = .ok (.getfield 47, 3) := by decide +kernel
theorem dX9_takeFrom_37 : decode cX9_takeFrom 37 = .ok (.putfield 47, 3) := by decide +kernel
theorem dX9_takeFrom_40 : decode cX9_takeFrom 40 = .ok (.aload_n 0, 1) := by decide +kernel
theorem dX9_takeFrom_41 : decode cX9_takeFrom 41 = .ok (.aload_n 1, 1) := by decide +kernel
theorem dX9_takeFrom_42 : decode cX9_takeFrom 42 = .ok (.getfield 50, 3) := by decide +kernel
theorem dX9_takeFrom_45 : decode cX9_takeFrom 45 = .ok (.putfield 50, 3) := by decide +kernel
theorem dX9_takeFrom_48 : decode cX9_takeFrom 48 = .ok (.iconst 0, 1) := by decide +kernel
theorem dX9_takeFrom_49 : decode cX9_takeFrom 49 = .ok (.istore_n 2, 1) := by decide +kernel
theorem dX9_takeFrom_50 : decode cX9_takeFrom 50 = .ok (.iload_n 2, 1) := by decide +kernel
theorem dX9_takeFrom_51 : decode cX9_takeFrom 51 = .ok (.iconst 3, 1) := by decide +kernel
theorem dX9_takeFrom_52 : decode cX9_takeFrom 52 = .ok (.if_icmp .ge 45, 3) := by decide +kernel
theorem dX9_takeFrom_55 : decode cX9_takeFrom 55 = .ok (.aload_n 0, 1) := by decide +kernel
theorem dX9_takeFrom_56 : decode cX9_takeFrom 56 = .ok (.getfield 11, 3) := by decide +kernel
theorem dX9_takeFrom_59 : decode cX9_takeFrom 59 = .ok (.iload_n 2, 1) := by decide +kernel
theorem dX9_takeFrom_60 : decode cX9_takeFrom 60 = .ok (.aload_n 1, 1) := by decide +kernel
theorem dX9_takeFrom_61 : decode cX9_takeFrom 61 = .ok (.getfield 11, 3) := by decide +kernel
theorem dX9_takeFrom_64 : decode cX9_takeFrom 64 = .ok (.iload_n 2, 1) := by decide +kernel
theorem dX9_takeFrom_65 : decode cX9_takeFrom 65 = .ok (.aaload, 1) := by decide +kernel
theorem dX9_takeFrom_66 : decode cX9_takeFrom 66 = .ok (.aastore, 1) := by decide +kernel
theorem dX9_takeFrom_67 : decode cX9_takeFrom 67 = .ok (.aload_n 0, 1) := by decide +kernel
theorem dX9_takeFrom_68 : decode cX9_takeFrom 68 = .ok (.getfield 17, 3) := by decide +kernel
theorem dX9_takeFrom_71 : decode cX9_takeFrom 71 = .ok (.iload_n 2, 1) := by decide +kernel
theorem dX9_takeFrom_72 : decode cX9_takeFrom 72 = .ok (.aload_n 1, 1) := by decide +kernel
theorem dX9_takeFrom_73 : decode cX9_takeFrom 73 = .ok (.getfield 17, 3) := by decide +kernel
theorem dX9_takeFrom_76 : decode cX9_takeFrom 76 = .ok (.iload_n 2, 1) := by decide +kernel
theorem dX9_takeFrom_77 : decode cX9_takeFrom 77 = .ok (.iaload, 1) := by decide +kernel
theorem dX9_takeFrom_78 : decode cX9_takeFrom 78 = .ok (.iastore, 1) := by decide +kernel
theorem dX9_takeFrom_79 : decode cX9_takeFrom 79 = .ok (.aload_n 0, 1) := by decide +kernel
theorem dX9_takeFrom_80 : decode cX9_takeFrom 80 = .ok (.getfield 21, 3) := by decide +kernel
theorem dX9_takeFrom_83 : decode cX9_takeFrom 83 = .ok (.iload_n 2, 1) := by decide +kernel
theorem dX9_takeFrom_84 : decode cX9_takeFrom 84 = .ok (.aload_n 1, 1) := by decide +kernel
theorem dX9_takeFrom_85 : decode cX9_takeFrom 85 = .ok (.getfield 21, 3) := by decide +kernel
theorem dX9_takeFrom_88 : decode cX9_takeFrom 88 = .ok (.iload_n 2, 1) := by decide +kernel
theorem dX9_takeFrom_89 : decode cX9_takeFrom 89 = .ok (.iaload, 1) := by decide +kernel
theorem dX9_takeFrom_90 : decode cX9_takeFrom 90 = .ok (.iastore, 1) := by decide +kernel
theorem dX9_takeFrom_91 : decode cX9_takeFrom 91 = .ok (.iinc 2 1, 3) := by decide +kernel
theorem dX9_takeFrom_94 : decode cX9_takeFrom 94 = .ok (.goto (-44), 3) := by decide +kernel
theorem dX9_takeFrom_97 : decode cX9_takeFrom 97 = .ok (.aload_n 1, 1) := by decide +kernel
theorem dX9_takeFrom_98 : decode cX9_takeFrom 98 = .ok (.getfield 24, 3) := by decide +kernel
theorem dX9_takeFrom_101 : decode cX9_takeFrom 101 = .ok (.iconst 0, 1) := by decide +kernel
theorem dX9_takeFrom_102 : decode cX9_takeFrom 102 = .ok (.aload_n 0, 1) := by decide +kernel
theorem dX9_takeFrom_103 : decode cX9_takeFrom 103 = .ok (.getfield 24, 3) := by decide +kernel
theorem dX9_takeFrom_106 : decode cX9_takeFrom 106 = .ok (.iconst 0, 1) := by decide +kernel
theorem dX9_takeFrom_107 : decode cX9_takeFrom 107 = .ok (.bipush 100, 2) := by decide +kernel
theorem dX9_takeFrom_109 : decode cX9_takeFrom 109 = .ok (.invokestatic 63, 3) := by decide +kernel
theorem dX9_takeFrom_112 : decode cX9_takeFrom 112 = .ok (.return_, 1) := by decide +kernel
theorem dX9_keepIn_0 : decode cX9_keepIn 0 = .ok (.aload_n 1, 1) := by decide +kernel
theorem dX9_keepIn_1 : decode cX9_keepIn 1 = .ok (.iload_n 2, 1) := by decide +kernel
theorem dX9_keepIn_2 : decode cX9_keepIn 2 = .ok (.aload_n 0, 1) := by decide +kernel
theorem dX9_keepIn_3 : decode cX9_keepIn 3 = .ok (.getfield 41, 3) := by decide +kernel
theorem dX9_keepIn_6 : decode cX9_keepIn 6 = .ok (.iastore, 1) := by decide +kernel
theorem dX9_keepIn_7 : decode cX9_keepIn 7 = .ok (.aload_n 1, 1) := by decide +kernel
theorem dX9_keepIn_8 : decode cX9_keepIn 8 = .ok (.iload_n 2, 1) := by decide +kernel
theorem dX9_keepIn_9 : decode cX9_keepIn 9 = .ok (.iconst 1, 1) := by decide +kernel
theorem dX9_keepIn_10 : decode cX9_keepIn 10 = .ok (.iadd, 1) := by decide +kernel
theorem dX9_keepIn_11 : decode cX9_keepIn 11 = .ok (.aload_n 0, 1) := by decide +kernel
theorem dX9_keepIn_12 : decode cX9_keepIn 12 = .ok (.getfield 44, 3) := by decide +kernel
theorem dX9_keepIn_15 : decode cX9_keepIn 15 = .ok (.ifCond .eq 7, 3) := by decide +kernel
theorem dX9_keepIn_18 : decode cX9_keepIn 18 = .ok (.iconst 1, 1) := by decide +kernel
theorem dX9_keepIn_19 : decode cX9_keepIn 19 = .ok (.goto 4, 3) := by decide +kernel
theorem dX9_keepIn_22 : decode cX9_keepIn 22 = .ok (.iconst 0, 1) := by decide +kernel
theorem dX9_keepIn_23 : decode cX9_keepIn 23 = .ok (.iastore, 1) := by decide +kernel
theorem dX9_keepIn_24 : decode cX9_keepIn 24 = .ok (.aload_n 1, 1) := by decide +kernel
theorem dX9_keepIn_25 : decode cX9_keepIn 25 = .ok (.iload_n 2, 1) := by decide +kernel
theorem dX9_keepIn_26 : decode cX9_keepIn 26 = .ok (.iconst 2, 1) := by decide +kernel
theorem dX9_keepIn_27 : decode cX9_keepIn 27 = .ok (.iadd, 1) := by decide +kernel
theorem dX9_keepIn_28 : decode cX9_keepIn 28 = .ok (.aload_n 0, 1) := by decide +kernel
theorem dX9_keepIn_29 : decode cX9_keepIn 29 = .ok (.getfield 47, 3) := by decide +kernel
theorem dX9_keepIn_32 : decode cX9_keepIn 32 = .ok (.iastore, 1) := by decide +kernel
theorem dX9_keepIn_33 : decode cX9_keepIn 33 = .ok (.aload_n 1, 1) := by decide +kernel
theorem dX9_keepIn_34 : decode cX9_keepIn 34 = .ok (.iload_n 2, 1) := by decide +kernel
theorem dX9_keepIn_35 : decode cX9_keepIn 35 = .ok (.iconst 3, 1) := by decide +kernel
theorem dX9_keepIn_36 : decode cX9_keepIn 36 = .ok (.iadd, 1) := by decide +kernel
theorem dX9_keepIn_37 : decode cX9_keepIn 37 = .ok (.aload_n 0, 1) := by decide +kernel
theorem dX9_keepIn_38 : decode cX9_keepIn 38 = .ok (.getfield 50, 3) := by decide +kernel
theorem dX9_keepIn_41 : decode cX9_keepIn 41 = .ok (.iastore, 1) := by decide +kernel
theorem dX9_keepIn_42 : decode cX9_keepIn 42 = .ok (.aload_n 1, 1) := by decide +kernel
theorem dX9_keepIn_43 : decode cX9_keepIn 43 = .ok (.iload_n 2, 1) := by decide +kernel
theorem dX9_keepIn_44 : decode cX9_keepIn 44 = .ok (.iconst 4, 1) := by decide +kernel
theorem dX9_keepIn_45 : decode cX9_keepIn 45 = .ok (.iadd, 1) := by decide +kernel
theorem dX9_keepIn_46 : decode cX9_keepIn 46 = .ok (.aload_n 0, 1) := by decide +kernel
theorem dX9_keepIn_47 : decode cX9_keepIn 47 = .ok (.getfield 24, 3) := by decide +kernel
theorem dX9_keepIn_50 : decode cX9_keepIn 50 = .ok (.aload_n 0, 1) := by decide +kernel
theorem dX9_keepIn_51 : decode cX9_keepIn 51 = .ok (.getfield 41, 3) := by decide +kernel
theorem dX9_keepIn_54 : decode cX9_keepIn 54 = .ok (.iaload, 1) := by decide +kernel
theorem dX9_keepIn_55 : decode cX9_keepIn 55 = .ok (.iastore, 1) := by decide +kernel
theorem dX9_keepIn_56 : decode cX9_keepIn 56 = .ok (.aload_n 0, 1) := by decide +kernel
theorem dX9_keepIn_57 : decode cX9_keepIn 57 = .ok (.getfield 17, 3) := by decide +kernel
theorem dX9_keepIn_60 : decode cX9_keepIn 60 = .ok (.iconst 0, 1) := by decide +kernel
theorem dX9_keepIn_61 : decode cX9_keepIn 61 = .ok (.aload_n 1, 1) := by decide +kernel
theorem dX9_keepIn_62 : decode cX9_keepIn 62 = .ok (.iload_n 2, 1) := by decide +kernel
theorem dX9_keepIn_63 : decode cX9_keepIn 63 = .ok (.iconst 5, 1) := by decide +kernel
theorem dX9_keepIn_64 : decode cX9_keepIn 64 = .ok (.iadd, 1) := by decide +kernel
theorem dX9_keepIn_65 : decode cX9_keepIn 65 = .ok (.iconst 3, 1) := by decide +kernel
theorem dX9_keepIn_66 : decode cX9_keepIn 66 = .ok (.invokestatic 63, 3) := by decide +kernel
theorem dX9_keepIn_69 : decode cX9_keepIn 69 = .ok (.aload_n 0, 1) := by decide +kernel
theorem dX9_keepIn_70 : decode cX9_keepIn 70 = .ok (.getfield 21, 3) := by decide +kernel
theorem dX9_keepIn_73 : decode cX9_keepIn 73 = .ok (.iconst 0, 1) := by decide +kernel
theorem dX9_keepIn_74 : decode cX9_keepIn 74 = .ok (.aload_n 1, 1) := by decide +kernel
theorem dX9_keepIn_75 : decode cX9_keepIn 75 = .ok (.iload_n 2, 1) := by decide +kernel
theorem dX9_keepIn_76 : decode cX9_keepIn 76 = .ok (.iconst 5, 1) := by decide +kernel
theorem dX9_keepIn_77 : decode cX9_keepIn 77 = .ok (.iadd, 1) := by decide +kernel
theorem dX9_keepIn_78 : decode cX9_keepIn 78 = .ok (.iconst 3, 1) := by decide +kernel
theorem dX9_keepIn_79 : decode cX9_keepIn 79 = .ok (.iadd, 1) := by decide +kernel
theorem dX9_keepIn_80 : decode cX9_keepIn 80 = .ok (.iconst 3, 1) := by decide +kernel
theorem dX9_keepIn_81 : decode cX9_keepIn 81 = .ok (.invokestatic 63, 3) := by decide +kernel
theorem dX9_keepIn_84 : decode cX9_keepIn 84 = .ok (.return_, 1) := by decide +kernel
theorem dX9_takeBack_0 : decode cX9_takeBack 0 = .ok (.aload_n 0, 1) := by decide +kernel
theorem dX9_takeBack_1 : decode cX9_takeBack 1 = .ok (.aload_n 1, 1) := by decide +kernel
theorem dX9_takeBack_2 : decode cX9_takeBack 2 = .ok (.iload_n 2, 1) := by decide +kernel
theorem dX9_takeBack_3 : decode cX9_takeBack 3 = .ok (.iaload, 1) := by decide +kernel
theorem dX9_takeBack_4 : decode cX9_takeBack 4 = .ok (.putfield 41, 3) := by decide +kernel
theorem dX9_takeBack_7 : decode cX9_takeBack 7 = .ok (.aload_n 0, 1) := by decide +kernel
theorem dX9_takeBack_8 : decode cX9_takeBack 8 = .ok (.aload_n 1, 1) := by decide +kernel
theorem dX9_takeBack_9 : decode cX9_takeBack 9 = .ok (.iload_n 2, 1) := by decide +kernel
theorem dX9_takeBack_10 : decode cX9_takeBack 10 = .ok (.iconst 1, 1) := by decide +kernel
theorem dX9_takeBack_11 : decode cX9_takeBack 11 = .ok (.iadd, 1) := by decide +kernel
theorem dX9_takeBack_12 : decode cX9_takeBack 12 = .ok (.iaload, 1) := by decide +kernel
theorem dX9_takeBack_13 : decode cX9_takeBack 13 = .ok (.iconst 1, 1) := by decide +kernel
theorem dX9_takeBack_14 : decode cX9_takeBack 14 = .ok (.if_icmp .ne 7, 3) := by decide +kernel
theorem dX9_takeBack_17 : decode cX9_takeBack 17 = .ok (.iconst 1, 1) := by decide +kernel
theorem dX9_takeBack_18 : decode cX9_takeBack 18 = .ok (.goto 4, 3) := by decide +kernel
theorem dX9_takeBack_21 : decode cX9_takeBack 21 = .ok (.iconst 0, 1) := by decide +kernel
theorem dX9_takeBack_22 : decode cX9_takeBack 22 = .ok (.putfield 44, 3) := by decide +kernel
theorem dX9_takeBack_25 : decode cX9_takeBack 25 = .ok (.aload_n 0, 1) := by decide +kernel
theorem dX9_takeBack_26 : decode cX9_takeBack 26 = .ok (.aload_n 1, 1) := by decide +kernel
theorem dX9_takeBack_27 : decode cX9_takeBack 27 = .ok (.iload_n 2, 1) := by decide +kernel
theorem dX9_takeBack_28 : decode cX9_takeBack 28 = .ok (.iconst 2, 1) := by decide +kernel
theorem dX9_takeBack_29 : decode cX9_takeBack 29 = .ok (.iadd, 1) := by decide +kernel
theorem dX9_takeBack_30 : decode cX9_takeBack 30 = .ok (.iaload, 1) := by decide +kernel
theorem dX9_takeBack_31 : decode cX9_takeBack 31 = .ok (.putfield 47, 3) := by decide +kernel
theorem dX9_takeBack_34 : decode cX9_takeBack 34 = .ok (.aload_n 0, 1) := by decide +kernel
theorem dX9_takeBack_35 : decode cX9_takeBack 35 = .ok (.aload_n 1, 1) := by decide +kernel
theorem dX9_takeBack_36 : decode cX9_takeBack 36 = .ok (.iload_n 2, 1) := by decide +kernel
theorem dX9_takeBack_37 : decode cX9_takeBack 37 = .ok (.iconst 3, 1) := by decide +kernel
theorem dX9_takeBack_38 : decode cX9_takeBack 38 = .ok (.iadd, 1) := by decide +kernel
theorem dX9_takeBack_39 : decode cX9_takeBack 39 = .ok (.iaload, 1) := by decide +kernel
theorem dX9_takeBack_40 : decode cX9_takeBack 40 = .ok (.putfield 50, 3) := by decide +kernel
theorem dX9_takeBack_43 : decode cX9_takeBack 43 = .ok (.aload_n 0, 1) := by decide +kernel
theorem dX9_takeBack_44 : decode cX9_takeBack 44 = .ok (.getfield 24, 3) := by decide +kernel
theorem dX9_takeBack_47 : decode cX9_takeBack 47 = .ok (.aload_n 0, 1) := by decide +kernel
theorem dX9_takeBack_48 : decode cX9_takeBack 48 = .ok (.getfield 41, 3) := by decide +kernel
theorem dX9_takeBack_51 : decode cX9_takeBack 51 = .ok (.aload_n 1, 1) := by decide +kernel
theorem dX9_takeBack_52 : decode cX9_takeBack 52 = .ok (.iload_n 2, 1) := by decide +kernel
theorem dX9_takeBack_53 : decode cX9_takeBack 53 = .ok (.iconst 4, 1) := by decide +kernel
theorem dX9_takeBack_54 : decode cX9_takeBack 54 = .ok (.iadd, 1) := by decide +kernel
theorem dX9_takeBack_55 : decode cX9_takeBack 55 = .ok (.iaload, 1) := by decide +kernel
theorem dX9_takeBack_56 : decode cX9_takeBack 56 = .ok (.iastore, 1) := by decide +kernel
theorem dX9_takeBack_57 : decode cX9_takeBack 57 = .ok (.aload_n 1, 1) := by decide +kernel
theorem dX9_takeBack_58 : decode cX9_takeBack 58 = .ok (.iload_n 2, 1) := by decide +kernel
theorem dX9_takeBack_59 : decode cX9_takeBack 59 = .ok (.iconst 5, 1) := by decide +kernel
theorem dX9_takeBack_60 : decode cX9_takeBack 60 = .ok (.iadd, 1) := by decide +kernel
theorem dX9_takeBack_61 : decode cX9_takeBack 61 = .ok (.aload_n 0, 1) := by decide +kernel
theorem dX9_takeBack_62 : decode cX9_takeBack 62 = .ok (.getfield 17, 3) := by decide +kernel
theorem dX9_takeBack_65 : decode cX9_takeBack 65 = .ok (.iconst 0, 1) := by decide +kernel
theorem dX9_takeBack_66 : decode cX9_takeBack 66 = .ok (.iconst 3, 1) := by decide +kernel
theorem dX9_takeBack_67 : decode cX9_takeBack 67 = .ok (.invokestatic 63, 3) := by decide +kernel
theorem dX9_takeBack_70 : decode cX9_takeBack 70 = .ok (.aload_n 1, 1) := by decide +kernel
theorem dX9_takeBack_71 : decode cX9_takeBack 71 = .ok (.iload_n 2, 1) := by decide +kernel
theorem dX9_takeBack_72 : decode cX9_takeBack 72 = .ok (.iconst 5, 1) := by decide +kernel
theorem dX9_takeBack_73 : decode cX9_takeBack 73 = .ok (.iadd, 1) := by decide +kernel
theorem dX9_takeBack_74 : decode cX9_takeBack 74 = .ok (.iconst 3, 1) := by decide +kernel
theorem dX9_takeBack_75 : decode cX9_takeBack 75 = .ok (.iadd, 1) := by decide +kernel
theorem dX9_takeBack_76 : decode cX9_takeBack 76 = .ok (.aload_n 0, 1) := by decide +kernel
theorem dX9_takeBack_77 : decode cX9_takeBack 77 = .ok (.getfield 21, 3) := by decide +kernel
theorem dX9_takeBack_80 : decode cX9_takeBack 80 = .ok (.iconst 0, 1) := by decide +kernel
theorem dX9_takeBack_81 : decode cX9_takeBack 81 = .ok (.iconst 3, 1) := by decide +kernel
theorem dX9_takeBack_82 : decode cX9_takeBack 82 = .ok (.invokestatic 63, 3) := by decide +kernel
theorem dX9_takeBack_85 : decode cX9_takeBack 85 = .ok (.return_, 1) := by decide +kernel
theorem dX9_personAt_0 : decode cX9_personAt 0 = .ok (.iload_n 1, 1) := by decide +kernel
theorem dX9_personAt_1 : decode cX9_personAt 1 = .ok (.ifCond .lt 11, 3) := by decide +kernel
theorem dX9_personAt_4 : decode cX9_personAt 4 = .ok (.iload_n 1, 1) := by decide +kernel
theorem dX9_personAt_5 : decode cX9_personAt 5 = .ok (.aload_n 0, 1) := by decide +kernel
theorem dX9_personAt_6 : decode cX9_personAt 6 = .ok (.getfield 37, 3) := by decide +kernel
theorem dX9_personAt_9 : decode cX9_personAt 9 = .ok (.if_icmp .lt 7, 3) := by decide +kernel
theorem dX9_personAt_12 : decode cX9_personAt 12 = .ok (.aconst_null, 1) := by decide +kernel
theorem dX9_personAt_13 : decode cX9_personAt 13 = .ok (.goto 9, 3) := by decide +kernel
theorem dX9_personAt_16 : decode cX9_personAt 16 = .ok (.aload_n 0, 1) := by decide +kernel
theorem dX9_personAt_17 : decode cX9_personAt 17 = .ok (.getfield 11, 3) := by decide +kernel
theorem dX9_personAt_20 : decode cX9_personAt 20 = .ok (.iload_n 1, 1) := by decide +kernel
theorem dX9_personAt_21 : decode cX9_personAt 21 = .ok (.aaload, 1) := by decide +kernel
theorem dX9_personAt_22 : decode cX9_personAt 22 = .ok (.areturn, 1) := by decide +kernel
theorem dX9_hasRight_0 : decode cX9_hasRight 0 = .ok (.aload_n 0, 1) := by decide +kernel
theorem dX9_hasRight_1 : decode cX9_hasRight 1 = .ok (.getfield 50, 3) := by decide +kernel
theorem dX9_hasRight_4 : decode cX9_hasRight 4 = .ok (.iload_n 1, 1) := by decide +kernel
theorem dX9_hasRight_5 : decode cX9_hasRight 5 = .ok (.ishr, 1) := by decide +kernel
theorem dX9_hasRight_6 : decode cX9_hasRight 6 = .ok (.iconst 1, 1) := by decide +kernel
theorem dX9_hasRight_7 : decode cX9_hasRight 7 = .ok (.iand, 1) := by decide +kernel
theorem dX9_hasRight_8 : decode cX9_hasRight 8 = .ok (.iconst 1, 1) := by decide +kernel
theorem dX9_hasRight_9 : decode cX9_hasRight 9 = .ok (.if_icmp .ne 7, 3) := by decide +kernel
theorem dX9_hasRight_12 : decode cX9_hasRight 12 = .ok (.iconst 1, 1) := by decide +kernel
theorem dX9_hasRight_13 : decode cX9_hasRight 13 = .ok (.goto 4, 3) := by decide +kernel
theorem dX9_hasRight_16 : decode cX9_hasRight 16 = .ok (.iconst 0, 1) := by decide +kernel
theorem dX9_hasRight_17 : decode cX9_hasRight 17 = .ok (.ireturn, 1) := by decide +kernel
theorem dX9_mayRepeat_0 : decode cX9_mayRepeat 0 = .ok (.aload_n 0, 1) := by decide +kernel
theorem dX9_mayRepeat_1 : decode cX9_mayRepeat 1 = .ok (.iload_n 1, 1) := by decide +kernel
theorem dX9_mayRepeat_2 : decode cX9_mayRepeat 2 = .ok (.invokevirtual 69, 3) := by decide +kernel
theorem dX9_mayRepeat_5 : decode cX9_mayRepeat 5 = .ok (.astore_n 3, 1) := by decide +kernel
theorem dX9_mayRepeat_6 : decode cX9_mayRepeat 6 = .ok (.aload_n 3, 1) := by decide +kernel
theorem dX9_mayRepeat_7 : decode cX9_mayRepeat 7 = .ok (.ifnull 23, 3) := by decide +kernel
theorem dX9_mayRepeat_10 : decode cX9_mayRepeat 10 = .ok (.iload_n 2, 1) := by decide +kernel
theorem dX9_mayRepeat_11 : decode cX9_mayRepeat 11 = .ok (.iload_n 1, 1) := by decide +kernel
theorem dX9_mayRepeat_12 : decode cX9_mayRepeat 12 = .ok (.ishr, 1) := by decide +kernel
theorem dX9_mayRepeat_13 : decode cX9_mayRepeat 13 = .ok (.iconst 1, 1) := by decide +kernel
theorem dX9_mayRepeat_14 : decode cX9_mayRepeat 14 = .ok (.iand, 1) := by decide +kernel
theorem dX9_mayRepeat_15 : decode cX9_mayRepeat 15 = .ok (.iconst 1, 1) := by decide +kernel
theorem dX9_mayRepeat_16 : decode cX9_mayRepeat 16 = .ok (.if_icmp .ne 14, 3) := by decide +kernel
theorem dX9_mayRepeat_19 : decode cX9_mayRepeat 19 = .ok (.aload_n 3, 1) := by decide +kernel
theorem dX9_mayRepeat_20 : decode cX9_mayRepeat 20 = .ok (.invokevirtual 73, 3) := by decide +kernel
theorem dX9_mayRepeat_23 : decode cX9_mayRepeat 23 = .ok (.ifCond .eq 7, 3) := by decide +kernel
theorem dX9_mayRepeat_26 : decode cX9_mayRepeat 26 = .ok (.iconst 1, 1) := by decide +kernel
theorem dX9_mayRepeat_27 : decode cX9_mayRepeat 27 = .ok (.goto 4, 3) := by decide +kernel
theorem dX9_mayRepeat_30 : decode cX9_mayRepeat 30 = .ok (.iconst 0, 1) := by decide +kernel
theorem dX9_mayRepeat_31 : decode cX9_mayRepeat 31 = .ok (.ireturn, 1) := by decide +kernel
theorem dX9_howManyMayRepeat_0 : decode cX9_howManyMayRepeat 0 = .ok (.iconst 0, 1) := by decide +kernel
theorem dX9_howManyMayRepeat_1 : decode cX9_howManyMayRepeat 1 = .ok (.istore_n 2, 1) := by decide +kernel
theorem dX9_howManyMayRepeat_2 : decode cX9_howManyMayRepeat 2 = .ok (.iconst 0, 1) := by decide +kernel
theorem dX9_howManyMayRepeat_3 : decode cX9_howManyMayRepeat 3 = .ok (.istore_n 3, 1) := by decide +kernel
theorem dX9_howManyMayRepeat_4 : decode cX9_howManyMayRepeat 4 = .ok (.iload_n 3, 1) := by decide +kernel
theorem dX9_howManyMayRepeat_5 : decode cX9_howManyMayRepeat 5 = .ok (.aload_n 0, 1) := by decide +kernel
theorem dX9_howManyMayRepeat_6 : decode cX9_howManyMayRepeat 6 = .ok (.getfield 37, 3) := by decide +kernel
theorem dX9_howManyMayRepeat_9 : decode cX9_howManyMayRepeat 9 = .ok (.if_icmp .ge 21, 3) := by decide +kernel
theorem dX9_howManyMayRepeat_12 : decode cX9_howManyMayRepeat 12 = .ok (.aload_n 0, 1) := by decide +kernel
theorem dX9_howManyMayRepeat_13 : decode cX9_howManyMayRepeat 13 = .ok (.iload_n 3, 1) := by decide +kernel
theorem dX9_howManyMayRepeat_14 : decode cX9_howManyMayRepeat 14 = .ok (.iload_n 1, 1) := by decide +kernel
theorem dX9_howManyMayRepeat_15 : decode cX9_howManyMayRepeat 15 = .ok (.invokevirtual 76, 3) := by decide +kernel
theorem dX9_howManyMayRepeat_18 : decode cX9_howManyMayRepeat 18 = .ok (.ifCond .eq 6, 3) := by decide +kernel
theorem dX9_howManyMayRepeat_21 : decode cX9_howManyMayRepeat 21 = .ok (.iinc 2 1, 3) := by decide +kernel
theorem dX9_howManyMayRepeat_24 : decode cX9_howManyMayRepeat 24 = .ok (.iinc 3 1, 3) := by decide +kernel
theorem dX9_howManyMayRepeat_27 : decode cX9_howManyMayRepeat 27 = .ok (.goto (-23), 3) := by decide +kernel
theorem dX9_howManyMayRepeat_30 : decode cX9_howManyMayRepeat 30 = .ok (.iload_n 2, 1) := by decide +kernel
theorem dX9_howManyMayRepeat_31 : decode cX9_howManyMayRepeat 31 = .ok (.ireturn, 1) := by decide +kernel
theorem dX9_firstToRepeat_0 : decode cX9_firstToRepeat 0 = .ok (.iconst 0, 1) := by decide +kernel
theorem dX9_firstToRepeat_1 : decode cX9_firstToRepeat 1 = .ok (.istore 4, 2) := by decide +kernel
theorem dX9_firstToRepeat_3 : decode cX9_firstToRepeat 3 = .ok (.iload 4, 2) := by decide +kernel
theorem dX9_firstToRepeat_5 : decode cX9_firstToRepeat 5 = .ok (.aload_n 0, 1) := by decide +kernel
theorem dX9_firstToRepeat_6 : decode cX9_firstToRepeat 6 = .ok (.getfield 37, 3) := by decide +kernel
theorem dX9_firstToRepeat_9 : decode cX9_firstToRepeat 9 = .ok (.if_icmp .ge 59, 3) := by decide +kernel
theorem dX9_firstToRepeat_12 : decode cX9_firstToRepeat 12 = .ok (.aload_n 1, 1) := by decide +kernel
theorem dX9_firstToRepeat_13 : decode cX9_firstToRepeat 13 = .ok (.iload 4, 2) := by decide +kernel
theorem dX9_firstToRepeat_15 : decode cX9_firstToRepeat 15 = .ok (.iaload, 1) := by decide +kernel
theorem dX9_firstToRepeat_16 : decode cX9_firstToRepeat 16 = .ok (.iconst 2, 1) := by decide +kernel
theorem dX9_firstToRepeat_17 : decode cX9_firstToRepeat 17 = .ok (.if_icmp .eq 20, 3) := by decide +kernel
theorem dX9_firstToRepeat_20 : decode cX9_firstToRepeat 20 = .ok (.aload_n 1, 1) := by decide +kernel
theorem dX9_firstToRepeat_21 : decode cX9_firstToRepeat 21 = .ok (.iload 4, 2) := by decide +kernel
theorem dX9_firstToRepeat_23 : decode cX9_firstToRepeat 23 = .ok (.iaload, 1) := by decide +kernel
theorem dX9_firstToRepeat_24 : decode cX9_firstToRepeat 24 = .ok (.iconst 1, 1) := by decide +kernel
theorem dX9_firstToRepeat_25 : decode cX9_firstToRepeat 25 = .ok (.if_icmp .ne 16, 3) := by decide +kernel
theorem dX9_firstToRepeat_28 : decode cX9_firstToRepeat 28 = .ok (.iload_n 3, 1) := by decide +kernel
theorem dX9_firstToRepeat_29 : decode cX9_firstToRepeat 29 = .ok (.iload 4, 2) := by decide +kernel
theorem dX9_firstToRepeat_31 : decode cX9_firstToRepeat 31 = .ok (.ishr, 1) := by decide +kernel
theorem dX9_firstToRepeat_32 : decode cX9_firstToRepeat 32 = .ok (.iconst 1, 1) := by decide +kernel
theorem dX9_firstToRepeat_33 : decode cX9_firstToRepeat 33 = .ok (.iand, 1) := by decide +kernel
theorem dX9_firstToRepeat_34 : decode cX9_firstToRepeat 34 = .ok (.ifCond .ne 7, 3) := by decide +kernel
theorem dX9_firstToRepeat_37 : decode cX9_firstToRepeat 37 = .ok (.iconst 1, 1) := by decide +kernel
theorem dX9_firstToRepeat_38 : decode cX9_firstToRepeat 38 = .ok (.goto 4, 3) := by decide +kernel
theorem dX9_firstToRepeat_41 : decode cX9_firstToRepeat 41 = .ok (.iconst 0, 1) := by decide +kernel
theorem dX9_firstToRepeat_42 : decode cX9_firstToRepeat 42 = .ok (.istore 5, 2) := by decide +kernel
theorem dX9_firstToRepeat_44 : decode cX9_firstToRepeat 44 = .ok (.iload 5, 2) := by decide +kernel
theorem dX9_firstToRepeat_46 : decode cX9_firstToRepeat 46 = .ok (.ifCond .eq 16, 3) := by decide +kernel
theorem dX9_firstToRepeat_49 : decode cX9_firstToRepeat 49 = .ok (.aload_n 0, 1) := by decide +kernel
theorem dX9_firstToRepeat_50 : decode cX9_firstToRepeat 50 = .ok (.iload 4, 2) := by decide +kernel
theorem dX9_firstToRepeat_52 : decode cX9_firstToRepeat 52 = .ok (.iload_n 2, 1) := by decide +kernel
theorem dX9_firstToRepeat_53 : decode cX9_firstToRepeat 53 = .ok (.invokevirtual 76, 3) := by decide +kernel
theorem dX9_firstToRepeat_56 : decode cX9_firstToRepeat 56 = .ok (.ifCond .eq 6, 3) := by decide +kernel
theorem dX9_firstToRepeat_59 : decode cX9_firstToRepeat 59 = .ok (.iload 4, 2) := by decide +kernel
theorem dX9_firstToRepeat_61 : decode cX9_firstToRepeat 61 = .ok (.ireturn, 1) := by decide +kernel
theorem dX9_firstToRepeat_62 : decode cX9_firstToRepeat 62 = .ok (.iinc 4 1, 3) := by decide +kernel
theorem dX9_firstToRepeat_65 : decode cX9_firstToRepeat 65 = .ok (.goto (-62), 3) := by decide +kernel
theorem dX9_firstToRepeat_68 : decode cX9_firstToRepeat 68 = .ok (.iconst (-1), 1) := by decide +kernel
theorem dX9_firstToRepeat_69 : decode cX9_firstToRepeat 69 = .ok (.ireturn, 1) := by decide +kernel
theorem dX9_passDay_0 : decode cX9_passDay 0 = .ok (.lload_n 1, 1) := by decide +kernel
theorem dX9_passDay_1 : decode cX9_passDay 1 = .ok (.lstore_n 3, 1) := by decide +kernel
theorem dX9_passDay_2 : decode cX9_passDay 2 = .ok (.aload_n 0, 1) := by decide +kernel
theorem dX9_passDay_3 : decode cX9_passDay 3 = .ok (.iconst 0, 1) := by decide +kernel
theorem dX9_passDay_4 : decode cX9_passDay 4 = .ok (.putfield 47, 3) := by decide +kernel
theorem dX9_passDay_7 : decode cX9_passDay 7 = .ok (.iconst 0, 1) := by decide +kernel
theorem dX9_passDay_8 : decode cX9_passDay 8 = .ok (.istore 5, 2) := by decide +kernel
theorem dX9_passDay_10 : decode cX9_passDay 10 = .ok (.iload 5, 2) := by decide +kernel
theorem dX9_passDay_12 : decode cX9_passDay 12 = .ok (.aload_n 0, 1) := by decide +kernel
theorem dX9_passDay_13 : decode cX9_passDay 13 = .ok (.getfield 37, 3) := by decide +kernel
theorem dX9_passDay_16 : decode cX9_passDay 16 = .ok (.if_icmp .ge 68, 3) := by decide +kernel
theorem dX9_passDay_19 : decode cX9_passDay 19 = .ok (.aload_n 0, 1) := by decide +kernel
theorem dX9_passDay_20 : decode cX9_passDay 20 = .ok (.getfield 11, 3) := by decide +kernel
theorem dX9_passDay_23 : decode cX9_passDay 23 = .ok (.iload 5, 2) := by decide +kernel
theorem dX9_passDay_25 : decode cX9_passDay 25 = .ok (.aaload, 1) := by decide +kernel
theorem dX9_passDay_26 : decode cX9_passDay 26 = .ok (.astore 6, 2) := by decide +kernel
theorem dX9_passDay_28 : decode cX9_passDay 28 = .ok (.lload_n 3, 1) := by decide +kernel
theorem dX9_passDay_29 : decode cX9_passDay 29 = .ok (.ldc2_w 80, 3) := by decide +kernel
theorem dX9_passDay_32 : decode cX9_passDay 32 = .ok (.lmul, 1) := by decide +kernel
theorem dX9_passDay_33 : decode cX9_passDay 33 = .ok (.ldc2_w 82, 3) := by decide +kernel
theorem dX9_passDay_36 : decode cX9_passDay 36 = .ok (.lrem, 1) := by decide +kernel
theorem dX9_passDay_37 : decode cX9_passDay 37 = .ok (.lstore_n 3, 1) := by decide +kernel
theorem dX9_passDay_38 : decode cX9_passDay 38 = .ok (.aload 6, 2) := by decide +kernel
theorem dX9_passDay_40 : decode cX9_passDay 40 = .ok (.ifnull 38, 3) := by decide +kernel
theorem dX9_passDay_43 : decode cX9_passDay 43 = .ok (.lload_n 3, 1) := by decide +kernel
theorem dX9_passDay_44 : decode cX9_passDay 44 = .ok (.ldc2_w 84, 3) := by decide +kernel
theorem dX9_passDay_47 : decode cX9_passDay 47 = .ok (.lrem, 1) := by decide +kernel
theorem dX9_passDay_48 : decode cX9_passDay 48 = .ok (.aload 6, 2) := by decide +kernel
theorem dX9_passDay_50 : decode cX9_passDay 50 = .ok (.aload_n 0, 1) := by decide +kernel
theorem dX9_passDay_51 : decode cX9_passDay 51 = .ok (.getfield 17, 3) := by decide +kernel
theorem dX9_passDay_54 : decode cX9_passDay 54 = .ok (.iload 5, 2) := by decide +kernel
theorem dX9_passDay_56 : decode cX9_passDay 56 = .ok (.iaload, 1) := by decide +kernel
theorem dX9_passDay_57 : decode cX9_passDay 57 = .ok (.invokevirtual 86, 3) := by decide +kernel
theorem dX9_passDay_60 : decode cX9_passDay 60 = .ok (.i2l, 1) := by decide +kernel
theorem dX9_passDay_61 : decode cX9_passDay 61 = .ok (.lcmp, 1) := by decide +kernel
theorem dX9_passDay_62 : decode cX9_passDay 62 = .ok (.ifCond .ge 16, 3) := by decide +kernel
theorem dX9_passDay_65 : decode cX9_passDay 65 = .ok (.aload_n 0, 1) := by decide +kernel
theorem dX9_passDay_66 : decode cX9_passDay 66 = .ok (.dup, 1) := by decide +kernel
theorem dX9_passDay_67 : decode cX9_passDay 67 = .ok (.getfield 47, 3) := by decide +kernel
theorem dX9_passDay_70 : decode cX9_passDay 70 = .ok (.iconst 1, 1) := by decide +kernel
theorem dX9_passDay_71 : decode cX9_passDay 71 = .ok (.iload 5, 2) := by decide +kernel
theorem dX9_passDay_73 : decode cX9_passDay 73 = .ok (.ishl, 1) := by decide +kernel
theorem dX9_passDay_74 : decode cX9_passDay 74 = .ok (.ior, 1) := by decide +kernel
theorem dX9_passDay_75 : decode cX9_passDay 75 = .ok (.putfield 47, 3) := by decide +kernel
theorem dX9_passDay_78 : decode cX9_passDay 78 = .ok (.iinc 5 1, 3) := by decide +kernel
theorem dX9_passDay_81 : decode cX9_passDay 81 = .ok (.goto (-71), 3) := by decide +kernel
theorem dX9_passDay_84 : decode cX9_passDay 84 = .ok (.aload_n 0, 1) := by decide +kernel
theorem dX9_passDay_85 : decode cX9_passDay 85 = .ok (.iconst 1, 1) := by decide +kernel
theorem dX9_passDay_86 : decode cX9_passDay 86 = .ok (.putfield 44, 3) := by decide +kernel
theorem dX9_passDay_89 : decode cX9_passDay 89 = .ok (.lload_n 3, 1) := by decide +kernel
theorem dX9_passDay_90 : decode cX9_passDay 90 = .ok (.lreturn, 1) := by decide +kernel
theorem dX9_repeatDay_0 : decode cX9_repeatDay 0 = .ok (.aload_n 0, 1) := by decide +kernel
theorem dX9_repeatDay_1 : decode cX9_repeatDay 1 = .ok (.dup, 1) := by decide +kernel
theorem dX9_repeatDay_2 : decode cX9_repeatDay 2 = .ok (.getfield 50, 3) := by decide +kernel
theorem dX9_repeatDay_5 : decode cX9_repeatDay 5 = .ok (.iconst 1, 1) := by decide +kernel
theorem dX9_repeatDay_6 : decode cX9_repeatDay 6 = .ok (.iload_n 1, 1) := by decide +kernel
theorem dX9_repeatDay_7 : decode cX9_repeatDay 7 = .ok (.ishl, 1) := by decide +kernel
theorem dX9_repeatDay_8 : decode cX9_repeatDay 8 = .ok (.iconst (-1), 1) := by decide +kernel
theorem dX9_repeatDay_9 : decode cX9_repeatDay 9 = .ok (.ixor, 1) := by decide +kernel
theorem dX9_repeatDay_10 : decode cX9_repeatDay 10 = .ok (.iand, 1) := by decide +kernel
theorem dX9_repeatDay_11 : decode cX9_repeatDay 11 = .ok (.putfield 50, 3) := by decide +kernel
theorem dX9_repeatDay_14 : decode cX9_repeatDay 14 = .ok (.aload_n 0, 1) := by decide +kernel
theorem dX9_repeatDay_15 : decode cX9_repeatDay 15 = .ok (.getfield 17, 3) := by decide +kernel
theorem dX9_repeatDay_18 : decode cX9_repeatDay 18 = .ok (.iload_n 1, 1) := by decide +kernel
theorem dX9_repeatDay_19 : decode cX9_repeatDay 19 = .ok (.dup2, 1) := by decide +kernel
theorem dX9_repeatDay_20 : decode cX9_repeatDay 20 = .ok (.iaload, 1) := by decide +kernel
theorem dX9_repeatDay_21 : decode cX9_repeatDay 21 = .ok (.iconst 1, 1) := by decide +kernel
theorem dX9_repeatDay_22 : decode cX9_repeatDay 22 = .ok (.iadd, 1) := by decide +kernel
theorem dX9_repeatDay_23 : decode cX9_repeatDay 23 = .ok (.iastore, 1) := by decide +kernel
theorem dX9_repeatDay_24 : decode cX9_repeatDay 24 = .ok (.aload_n 0, 1) := by decide +kernel
theorem dX9_repeatDay_25 : decode cX9_repeatDay 25 = .ok (.iconst 0, 1) := by decide +kernel
theorem dX9_repeatDay_26 : decode cX9_repeatDay 26 = .ok (.putfield 44, 3) := by decide +kernel
theorem dX9_repeatDay_29 : decode cX9_repeatDay 29 = .ok (.aload_n 0, 1) := by decide +kernel
theorem dX9_repeatDay_30 : decode cX9_repeatDay 30 = .ok (.iconst 0, 1) := by decide +kernel
theorem dX9_repeatDay_31 : decode cX9_repeatDay 31 = .ok (.putfield 47, 3) := by decide +kernel
theorem dX9_repeatDay_34 : decode cX9_repeatDay 34 = .ok (.return_, 1) := by decide +kernel
theorem dX9_closeDay_0 : decode cX9_closeDay 0 = .ok (.iconst 0, 1) := by decide +kernel
theorem dX9_closeDay_1 : decode cX9_closeDay 1 = .ok (.istore_n 1, 1) := by decide +kernel
theorem dX9_closeDay_2 : decode cX9_closeDay 2 = .ok (.iload_n 1, 1) := by decide +kernel
theorem dX9_closeDay_3 : decode cX9_closeDay 3 = .ok (.aload_n 0, 1) := by decide +kernel
theorem dX9_closeDay_4 : decode cX9_closeDay 4 = .ok (.getfield 37, 3) := by decide +kernel
theorem dX9_closeDay_7 : decode cX9_closeDay 7 = .ok (.if_icmp .ge 50, 3) := by decide +kernel
theorem dX9_closeDay_10 : decode cX9_closeDay 10 = .ok (.aload_n 0, 1) := by decide +kernel
theorem dX9_closeDay_11 : decode cX9_closeDay 11 = .ok (.getfield 11, 3) := by decide +kernel
theorem dX9_closeDay_14 : decode cX9_closeDay 14 = .ok (.iload_n 1, 1) := by decide +kernel
theorem dX9_closeDay_15 : decode cX9_closeDay 15 = .ok (.aaload, 1) := by decide +kernel
theorem dX9_closeDay_16 : decode cX9_closeDay 16 = .ok (.astore_n 2, 1) := by decide +kernel
theorem dX9_closeDay_17 : decode cX9_closeDay 17 = .ok (.aload_n 2, 1) := by decide +kernel
theorem dX9_closeDay_18 : decode cX9_closeDay 18 = .ok (.ifnull 33, 3) := by decide +kernel
theorem dX9_closeDay_21 : decode cX9_closeDay 21 = .ok (.aload_n 0, 1) := by decide +kernel
theorem dX9_closeDay_22 : decode cX9_closeDay 22 = .ok (.getfield 21, 3) := by decide +kernel
theorem dX9_closeDay_25 : decode cX9_closeDay 25 = .ok (.iload_n 1, 1) := by decide +kernel
theorem dX9_closeDay_26 : decode cX9_closeDay 26 = .ok (.dup2, 1) := by decide +kernel
theorem dX9_closeDay_27 : decode cX9_closeDay 27 = .ok (.iaload, 1) := by decide +kernel
theorem dX9_closeDay_28 : decode cX9_closeDay 28 = .ok (.aload_n 2, 1) := by decide +kernel
theorem dX9_closeDay_29 : decode cX9_closeDay 29 = .ok (.aload_n 0, 1) := by decide +kernel
theorem dX9_closeDay_30 : decode cX9_closeDay 30 = .ok (.getfield 47, 3) := by decide +kernel
theorem dX9_closeDay_33 : decode cX9_closeDay 33 = .ok (.iload_n 1, 1) := by decide +kernel
theorem dX9_closeDay_34 : decode cX9_closeDay 34 = .ok (.ishr, 1) := by decide +kernel
theorem dX9_closeDay_35 : decode cX9_closeDay 35 = .ok (.iconst 1, 1) := by decide +kernel
theorem dX9_closeDay_36 : decode cX9_closeDay 36 = .ok (.iand, 1) := by decide +kernel
theorem dX9_closeDay_37 : decode cX9_closeDay 37 = .ok (.iconst 1, 1) := by decide +kernel
theorem dX9_closeDay_38 : decode cX9_closeDay 38 = .ok (.if_icmp .ne 7, 3) := by decide +kernel
theorem dX9_closeDay_41 : decode cX9_closeDay 41 = .ok (.iconst 1, 1) := by decide +kernel
theorem dX9_closeDay_42 : decode cX9_closeDay 42 = .ok (.goto 4, 3) := by decide +kernel
theorem dX9_closeDay_45 : decode cX9_closeDay 45 = .ok (.iconst 0, 1) := by decide +kernel
theorem dX9_closeDay_46 : decode cX9_closeDay 46 = .ok (.invokevirtual 90, 3) := by decide +kernel
theorem dX9_closeDay_49 : decode cX9_closeDay 49 = .ok (.iadd, 1) := by decide +kernel
theorem dX9_closeDay_50 : decode cX9_closeDay 50 = .ok (.iastore, 1) := by decide +kernel
theorem dX9_closeDay_51 : decode cX9_closeDay 51 = .ok (.iinc 1 1, 3) := by decide +kernel
theorem dX9_closeDay_54 : decode cX9_closeDay 54 = .ok (.goto (-52), 3) := by decide +kernel
theorem dX9_closeDay_57 : decode cX9_closeDay 57 = .ok (.aload_n 0, 1) := by decide +kernel
theorem dX9_closeDay_58 : decode cX9_closeDay 58 = .ok (.getfield 17, 3) := by decide +kernel
theorem dX9_closeDay_61 : decode cX9_closeDay 61 = .ok (.iconst 0, 1) := by decide +kernel
theorem dX9_closeDay_62 : decode cX9_closeDay 62 = .ok (.invokestatic 53, 3) := by decide +kernel
theorem dX9_closeDay_65 : decode cX9_closeDay 65 = .ok (.aload_n 0, 1) := by decide +kernel
theorem dX9_closeDay_66 : decode cX9_closeDay 66 = .ok (.iconst 0, 1) := by decide +kernel
theorem dX9_closeDay_67 : decode cX9_closeDay 67 = .ok (.putfield 44, 3) := by decide +kernel
theorem dX9_closeDay_70 : decode cX9_closeDay 70 = .ok (.aload_n 0, 1) := by decide +kernel
theorem dX9_closeDay_71 : decode cX9_closeDay 71 = .ok (.iconst 0, 1) := by decide +kernel
theorem dX9_closeDay_72 : decode cX9_closeDay 72 = .ok (.putfield 47, 3) := by decide +kernel
theorem dX9_closeDay_75 : decode cX9_closeDay 75 = .ok (.return_, 1) := by decide +kernel
theorem dX9_passDates_0 : decode cX9_passDates 0 = .ok (.iload_n 3, 1) := by decide +kernel
theorem dX9_passDates_1 : decode cX9_passDates 1 = .ok (.i2l, 1) := by decide +kernel
theorem dX9_passDates_2 : decode cX9_passDates 2 = .ok (.lstore 4, 2) := by decide +kernel
theorem dX9_passDates_4 : decode cX9_passDates 4 = .ok (.iconst 0, 1) := by decide +kernel
theorem dX9_passDates_5 : decode cX9_passDates 5 = .ok (.istore 6, 2) := by decide +kernel
theorem dX9_passDates_7 : decode cX9_passDates 7 = .ok (.iconst 0, 1) := by decide +kernel
theorem dX9_passDates_8 : decode cX9_passDates 8 = .ok (.istore 7, 2) := by decide +kernel
theorem dX9_passDates_10 : decode cX9_passDates 10 = .ok (.iload 7, 2) := by decide +kernel
theorem dX9_passDates_12 : decode cX9_passDates 12 = .ok (.iload_n 2, 1) := by decide +kernel
theorem dX9_passDates_13 : decode cX9_passDates 13 = .ok (.if_icmp .ge 75, 3) := by decide +kernel
theorem dX9_passDates_16 : decode cX9_passDates 16 = .ok (.iconst 0, 1) := by decide +kernel
theorem dX9_passDates_17 : decode cX9_passDates 17 = .ok (.istore 8, 2) := by decide +kernel
theorem dX9_passDates_19 : decode cX9_passDates 19 = .ok (.iload 8, 2) := by decide +kernel
theorem dX9_passDates_21 : decode cX9_passDates 21 = .ok (.iconst 3, 1) := by decide +kernel
theorem dX9_passDates_22 : decode cX9_passDates 22 = .ok (.if_icmp .gt 56, 3) := by decide +kernel
theorem dX9_passDates_25 : decode cX9_passDates 25 = .ok (.aload_n 0, 1) := by decide +kernel
theorem dX9_passDates_26 : decode cX9_passDates 26 = .ok (.getfield 44, 3) := by decide +kernel
theorem dX9_passDates_29 : decode cX9_passDates 29 = .ok (.ifCond .ne 14, 3) := by decide +kernel
theorem dX9_passDates_32 : decode cX9_passDates 32 = .ok (.aload_n 0, 1) := by decide +kernel
theorem dX9_passDates_33 : decode cX9_passDates 33 = .ok (.lload 4, 2) := by decide +kernel
theorem dX9_passDates_35 : decode cX9_passDates 35 = .ok (.invokevirtual 94, 3) := by decide +kernel
theorem dX9_passDates_38 : decode cX9_passDates 38 = .ok (.lstore 4, 2) := by decide +kernel
theorem dX9_passDates_40 : decode cX9_passDates 40 = .ok (.iinc 6 1, 3) := by decide +kernel
theorem dX9_passDates_43 : decode cX9_passDates 43 = .ok (.aload_n 0, 1) := by decide +kernel
theorem dX9_passDates_44 : decode cX9_passDates 44 = .ok (.aload_n 1, 1) := by decide +kernel
theorem dX9_passDates_45 : decode cX9_passDates 45 = .ok (.aload_n 0, 1) := by decide +kernel
theorem dX9_passDates_46 : decode cX9_passDates 46 = .ok (.getfield 50, 3) := by decide +kernel
theorem dX9_passDates_49 : decode cX9_passDates 49 = .ok (.aload_n 0, 1) := by decide +kernel
theorem dX9_passDates_50 : decode cX9_passDates 50 = .ok (.getfield 47, 3) := by decide +kernel
theorem dX9_passDates_53 : decode cX9_passDates 53 = .ok (.invokevirtual 98, 3) := by decide +kernel
theorem dX9_passDates_56 : decode cX9_passDates 56 = .ok (.istore 9, 2) := by decide +kernel
theorem dX9_passDates_58 : decode cX9_passDates 58 = .ok (.iload 9, 2) := by decide +kernel
theorem dX9_passDates_60 : decode cX9_passDates 60 = .ok (.ifCond .ge 6, 3) := by decide +kernel
theorem dX9_passDates_63 : decode cX9_passDates 63 = .ok (.goto 15, 3) := by decide +kernel
theorem dX9_passDates_66 : decode cX9_passDates 66 = .ok (.aload_n 0, 1) := by decide +kernel
theorem dX9_passDates_67 : decode cX9_passDates 67 = .ok (.iload 9, 2) := by decide +kernel
theorem dX9_passDates_69 : decode cX9_passDates 69 = .ok (.invokevirtual 102, 3) := by decide +kernel
theorem dX9_passDates_72 : decode cX9_passDates 72 = .ok (.iinc 8 1, 3) := by decide +kernel
theorem dX9_passDates_75 : decode cX9_passDates 75 = .ok (.goto (-56), 3) := by decide +kernel
theorem dX9_passDates_78 : decode cX9_passDates 78 = .ok (.aload_n 0, 1) := by decide +kernel
theorem dX9_passDates_79 : decode cX9_passDates 79 = .ok (.invokevirtual 106, 3) := by decide +kernel
theorem dX9_passDates_82 : decode cX9_passDates 82 = .ok (.iinc 7 1, 3) := by decide +kernel
theorem dX9_passDates_85 : decode cX9_passDates 85 = .ok (.goto (-75), 3) := by decide +kernel
theorem dX9_passDates_88 : decode cX9_passDates 88 = .ok (.iload 6, 2) := by decide +kernel
theorem dX9_passDates_90 : decode cX9_passDates 90 = .ok (.ireturn, 1) := by decide +kernel
theorem dX10_init_0 : decode cX10_init 0 = .ok (.aload_n 0, 1) := by decide +kernel
theorem dX10_init_1 : decode cX10_init 1 = .ok (.iload_n 1, 1) := by decide +kernel
theorem dX10_init_2 : decode cX10_init 2 = .ok (.iload_n 2, 1) := by decide +kernel
theorem dX10_init_3 : decode cX10_init 3 = .ok (.iload_n 3, 1) := by decide +kernel
theorem dX10_init_4 : decode cX10_init 4 = .ok (.iload 4, 2) := by decide +kernel
theorem dX10_init_6 : decode cX10_init 6 = .ok (.invokespecial 1, 3) := by decide +kernel
theorem dX10_init_9 : decode cX10_init 9 = .ok (.return_, 1) := by decide +kernel
theorem dX10_ownKind_0 : decode cX10_ownKind 0 = .ok (.iconst 4, 1) := by decide +kernel
theorem dX10_ownKind_1 : decode cX10_ownKind 1 = .ok (.ireturn, 1) := by decide +kernel
theorem dX10_mayUseRight_0 : decode cX10_mayUseRight 0 = .ok (.iconst 0, 1) := by decide +kernel
theorem dX10_mayUseRight_1 : decode cX10_mayUseRight 1 = .ok (.ireturn, 1) := by decide +kernel
theorem dX10_sizeBy_0 : decode cX10_sizeBy 0 = .ok (.aload_n 1, 1) := by decide +kernel
theorem dX10_sizeBy_1 : decode cX10_sizeBy 1 = .ok (.bipush 13, 2) := by decide +kernel
theorem dX10_sizeBy_3 : decode cX10_sizeBy 3 = .ok (.invokevirtual 7, 3) := by decide +kernel
theorem dX10_sizeBy_6 : decode cX10_sizeBy 6 = .ok (.aload_n 0, 1) := by decide +kernel
theorem dX10_sizeBy_7 : decode cX10_sizeBy 7 = .ok (.aload_n 1, 1) := by decide +kernel
theorem dX10_sizeBy_8 : decode cX10_sizeBy 8 = .ok (.invokespecial 13, 3) := by decide +kernel
theorem dX10_sizeBy_11 : decode cX10_sizeBy 11 = .ok (.bipush 100, 2) := by decide +kernel
theorem dX10_sizeBy_13 : decode cX10_sizeBy 13 = .ok (.isub, 1) := by decide +kernel
theorem dX10_sizeBy_14 : decode cX10_sizeBy 14 = .ok (.ireturn, 1) := by decide +kernel
theorem dX10_markBy_0 : decode cX10_markBy 0 = .ok (.aload_n 1, 1) := by decide +kernel
theorem dX10_markBy_1 : decode cX10_markBy 1 = .ok (.bipush 23, 2) := by decide +kernel
theorem dX10_markBy_3 : decode cX10_markBy 3 = .ok (.invokevirtual 7, 3) := by decide +kernel
theorem dX10_markBy_6 : decode cX10_markBy 6 = .ok (.aload_n 0, 1) := by decide +kernel
theorem dX10_markBy_7 : decode cX10_markBy 7 = .ok (.aload_n 1, 1) := by decide +kernel
theorem dX10_markBy_8 : decode cX10_markBy 8 = .ok (.invokespecial 17, 3) := by decide +kernel
theorem dX10_markBy_11 : decode cX10_markBy 11 = .ok (.istore_n 2, 1) := by decide +kernel
theorem dX10_markBy_12 : decode cX10_markBy 12 = .ok (.iload_n 2, 1) := by decide +kernel
theorem dX10_markBy_13 : decode cX10_markBy 13 = .ok (.aload_n 0, 1) := by decide +kernel
theorem dX10_markBy_14 : decode cX10_markBy 14 = .ok (.aload_n 1, 1) := by decide +kernel
theorem dX10_markBy_15 : decode cX10_markBy 15 = .ok (.invokevirtual 20, 3) := by decide +kernel
theorem dX10_markBy_18 : decode cX10_markBy 18 = .ok (.isub, 1) := by decide +kernel
theorem dX10_markBy_19 : decode cX10_markBy 19 = .ok (.ireturn, 1) := by decide +kernel
theorem dX11_init_0 : decode cX11_init 0 = .ok (.aload_n 0, 1) := by decide +kernel
theorem dX11_init_1 : decode cX11_init 1 = .ok (.invokespecial 1, 3) := by decide +kernel
theorem dX11_init_4 : decode cX11_init 4 = .ok (.aload_n 0, 1) := by decide +kernel
theorem dX11_init_5 : decode cX11_init 5 = .ok (.new 7, 3) := by decide +kernel
theorem dX11_init_8 : decode cX11_init 8 = .ok (.dup, 1) := by decide +kernel
theorem dX11_init_9 : decode cX11_init 9 = .ok (.invokespecial 9, 3) := by decide +kernel
theorem dX11_init_12 : decode cX11_init 12 = .ok (.putfield 10, 3) := by decide +kernel
theorem dX11_init_15 : decode cX11_init 15 = .ok (.aload_n 0, 1) := by decide +kernel
theorem dX11_init_16 : decode cX11_init 16 = .ok (.new 16, 3) := by decide +kernel
theorem dX11_init_19 : decode cX11_init 19 = .ok (.dup, 1) := by decide +kernel
theorem dX11_init_20 : decode cX11_init 20 = .ok (.invokespecial 18, 3) := by decide +kernel
theorem dX11_init_23 : decode cX11_init 23 = .ok (.putfield 19, 3) := by decide +kernel
theorem dX11_init_26 : decode cX11_init 26 = .ok (.aload_n 0, 1) := by decide +kernel
theorem dX11_init_27 : decode cX11_init 27 = .ok (.new 23, 3) := by decide +kernel
theorem dX11_init_30 : decode cX11_init 30 = .ok (.dup, 1) := by decide +kernel
theorem dX11_init_31 : decode cX11_init 31 = .ok (.invokespecial 25, 3) := by decide +kernel
theorem dX11_init_34 : decode cX11_init 34 = .ok (.putfield 26, 3) := by decide +kernel
theorem dX11_init_37 : decode cX11_init 37 = .ok (.aload_n 0, 1) := by decide +kernel
theorem dX11_init_38 : decode cX11_init 38 = .ok (.new 23, 3) := by decide +kernel
theorem dX11_init_41 : decode cX11_init 41 = .ok (.dup, 1) := by decide +kernel
theorem dX11_init_42 : decode cX11_init 42 = .ok (.invokespecial 25, 3) := by decide +kernel
theorem dX11_init_45 : decode cX11_init 45 = .ok (.putfield 30, 3) := by decide +kernel
theorem dX11_init_48 : decode cX11_init 48 = .ok (.aload_n 0, 1) := by decide +kernel
theorem dX11_init_49 : decode cX11_init 49 = .ok (.iconst 2, 1) := by decide +kernel
theorem dX11_init_50 : decode cX11_init 50 = .ok (.anewarray 23, 3) := by decide +kernel
theorem dX11_init_53 : decode cX11_init 53 = .ok (.putfield 33, 3) := by decide +kernel
theorem dX11_init_56 : decode cX11_init 56 = .ok (.aload_n 0, 1) := by decide +kernel
theorem dX11_init_57 : decode cX11_init 57 = .ok (.new 37, 3) := by decide +kernel
theorem dX11_init_60 : decode cX11_init 60 = .ok (.dup, 1) := by decide +kernel
theorem dX11_init_61 : decode cX11_init 61 = .ok (.invokespecial 39, 3) := by decide +kernel
theorem dX11_init_64 : decode cX11_init 64 = .ok (.putfield 40, 3) := by decide +kernel
theorem dX11_init_67 : decode cX11_init 67 = .ok (.aload_n 0, 1) := by decide +kernel
theorem dX11_init_68 : decode cX11_init 68 = .ok (.new 44, 3) := by decide +kernel
theorem dX11_init_71 : decode cX11_init 71 = .ok (.dup, 1) := by decide +kernel
theorem dX11_init_72 : decode cX11_init 72 = .ok (.invokespecial 46, 3) := by decide +kernel
theorem dX11_init_75 : decode cX11_init 75 = .ok (.putfield 47, 3) := by decide +kernel
theorem dX11_init_78 : decode cX11_init 78 = .ok (.aload_n 0, 1) := by decide +kernel
theorem dX11_init_79 : decode cX11_init 79 = .ok (.sipush 264, 3) := by decide +kernel
theorem dX11_init_82 : decode cX11_init 82 = .ok (.newarray .int, 2) := by decide +kernel
theorem dX11_init_84 : decode cX11_init 84 = .ok (.putfield 51, 3) := by decide +kernel
theorem dX11_init_87 : decode cX11_init 87 = .ok (.iconst 0, 1) := by decide +kernel
theorem dX11_init_88 : decode cX11_init 88 = .ok (.istore_n 1, 1) := by decide +kernel
theorem dX11_init_89 : decode cX11_init 89 = .ok (.iload_n 1, 1) := by decide +kernel
theorem dX11_init_90 : decode cX11_init 90 = .ok (.iconst 2, 1) := by decide +kernel
theorem dX11_init_91 : decode cX11_init 91 = .ok (.if_icmp .ge 22, 3) := by decide +kernel
theorem dX11_init_94 : decode cX11_init 94 = .ok (.aload_n 0, 1) := by decide +kernel
theorem dX11_init_95 : decode cX11_init 95 = .ok (.getfield 33, 3) := by decide +kernel
theorem dX11_init_98 : decode cX11_init 98 = .ok (.iload_n 1, 1) := by decide +kernel
theorem dX11_init_99 : decode cX11_init 99 = .ok (.new 23, 3) := by decide +kernel
theorem dX11_init_102 : decode cX11_init 102 = .ok (.dup, 1) := by decide +kernel
theorem dX11_init_103 : decode cX11_init 103 = .ok (.invokespecial 25, 3) := by decide +kernel
theorem dX11_init_106 : decode cX11_init 106 = .ok (.aastore, 1) := by decide +kernel
theorem dX11_init_107 : decode cX11_init 107 = .ok (.iinc 1 1, 3) := by decide +kernel
theorem dX11_init_110 : decode cX11_init 110 = .ok (.goto (-21), 3) := by decide +kernel
theorem dX11_init_113 : decode cX11_init 113 = .ok (.return_, 1) := by decide +kernel
theorem dX11_row_0 : decode cX11_row 0 = .ok (.iload_n 1, 1) := by decide +kernel
theorem dX11_row_1 : decode cX11_row 1 = .ok (.invokestatic 55, 3) := by decide +kernel
theorem dX11_row_4 : decode cX11_row 4 = .ok (.ifCond .eq 18, 3) := by decide +kernel
theorem dX11_row_7 : decode cX11_row 7 = .ok (.iload_n 2, 1) := by decide +kernel
theorem dX11_row_8 : decode cX11_row 8 = .ok (.ifCond .lt 14, 3) := by decide +kernel
theorem dX11_row_11 : decode cX11_row 11 = .ok (.iload_n 2, 1) := by decide +kernel
theorem dX11_row_12 : decode cX11_row 12 = .ok (.iconst 3, 1) := by decide +kernel
theorem dX11_row_13 : decode cX11_row 13 = .ok (.if_icmp .ge 9, 3) := by decide +kernel
theorem dX11_row_16 : decode cX11_row 16 = .ok (.iload_n 3, 1) := by decide +kernel
theorem dX11_row_17 : decode cX11_row 17 = .ok (.bipush 40, 2) := by decide +kernel
theorem dX11_row_19 : decode cX11_row 19 = .ok (.if_icmp .le 6, 3) := by decide +kernel
theorem dX11_row_22 : decode cX11_row 22 = .ok (.ldc 59, 2) := by decide +kernel
theorem dX11_row_24 : decode cX11_row 24 = .ok (.ireturn, 1) := by decide +kernel
theorem dX11_row_25 : decode cX11_row 25 = .ok (.iload_n 3, 1) := by decide +kernel
theorem dX11_row_26 : decode cX11_row 26 = .ok (.ifCond .ge 9, 3) := by decide +kernel
theorem dX11_row_29 : decode cX11_row 29 = .ok (.aload_n 0, 1) := by decide +kernel
theorem dX11_row_30 : decode cX11_row 30 = .ok (.iconst 4, 1) := by decide +kernel
theorem dX11_row_31 : decode cX11_row 31 = .ok (.invokevirtual 60, 3) := by decide +kernel
theorem dX11_row_34 : decode cX11_row 34 = .ok (.ireturn, 1) := by decide +kernel
theorem dX11_row_35 : decode cX11_row 35 = .ok (.aload_n 0, 1) := by decide +kernel
theorem dX11_row_36 : decode cX11_row 36 = .ok (.getfield 10, 3) := by decide +kernel
theorem dX11_row_39 : decode cX11_row 39 = .ok (.iload_n 1, 1) := by decide +kernel
theorem dX11_row_40 : decode cX11_row 40 = .ok (.iload_n 2, 1) := by decide +kernel
theorem dX11_row_41 : decode cX11_row 41 = .ok (.iload_n 3, 1) := by decide +kernel
theorem dX11_row_42 : decode cX11_row 42 = .ok (.invokevirtual 64, 3) := by decide +kernel
theorem dX11_row_45 : decode cX11_row 45 = .ok (.aload_n 0, 1) := by decide +kernel
theorem dX11_row_46 : decode cX11_row 46 = .ok (.iload_n 3, 1) := by decide +kernel
theorem dX11_row_47 : decode cX11_row 47 = .ok (.invokevirtual 68, 3) := by decide +kernel
theorem dX11_row_50 : decode cX11_row 50 = .ok (.ireturn, 1) := by decide +kernel
theorem dX11_set_0 : decode cX11_set 0 = .ok (.iload_n 1, 1) := by decide +kernel
theorem dX11_set_1 : decode cX11_set 1 = .ok (.invokestatic 55, 3) := by decide +kernel
theorem dX11_set_4 : decode cX11_set 4 = .ok (.ifCond .ne 6, 3) := by decide +kernel
theorem dX11_set_7 : decode cX11_set 7 = .ok (.ldc 59, 2) := by decide +kernel
theorem dX11_set_9 : decode cX11_set 9 = .ok (.ireturn, 1) := by decide +kernel
theorem dX11_set_10 : decode cX11_set 10 = .ok (.aload_n 0, 1) := by decide +kernel
theorem dX11_set_11 : decode cX11_set 11 = .ok (.getfield 10, 3) := by decide +kernel
theorem dX11_set_14 : decode cX11_set 14 = .ok (.iload_n 1, 1) := by decide +kernel
theorem dX11_set_15 : decode cX11_set 15 = .ok (.invokevirtual 71, 3) := by decide +kernel
theorem dX11_set_18 : decode cX11_set 18 = .ok (.ifCond .eq 9, 3) := by decide +kernel
theorem dX11_set_21 : decode cX11_set 21 = .ok (.aload_n 0, 1) := by decide +kernel
theorem dX11_set_22 : decode cX11_set 22 = .ok (.iconst 1, 1) := by decide +kernel
theorem dX11_set_23 : decode cX11_set 23 = .ok (.invokevirtual 60, 3) := by decide +kernel
theorem dX11_set_26 : decode cX11_set 26 = .ok (.ireturn, 1) := by decide +kernel
theorem dX11_set_27 : decode cX11_set 27 = .ok (.aload_n 0, 1) := by decide +kernel
theorem dX11_set_28 : decode cX11_set 28 = .ok (.getfield 10, 3) := by decide +kernel
theorem dX11_set_31 : decode cX11_set 31 = .ok (.iload_n 1, 1) := by decide +kernel
theorem dX11_set_32 : decode cX11_set 32 = .ok (.iload_n 2, 1) := by decide +kernel
theorem dX11_set_33 : decode cX11_set 33 = .ok (.iconst 1, 1) := by decide +kernel
theorem dX11_set_34 : decode cX11_set 34 = .ok (.invokevirtual 74, 3) := by decide +kernel
theorem dX11_set_37 : decode cX11_set 37 = .ok (.ifCond .ne 9, 3) := by decide +kernel
theorem dX11_set_40 : decode cX11_set 40 = .ok (.aload_n 0, 1) := by decide +kernel
theorem dX11_set_41 : decode cX11_set 41 = .ok (.iconst 2, 1) := by decide +kernel
theorem dX11_set_42 : decode cX11_set 42 = .ok (.invokevirtual 60, 3) := by decide +kernel
theorem dX11_set_45 : decode cX11_set 45 = .ok (.ireturn, 1) := by decide +kernel
theorem dX11_set_46 : decode cX11_set 46 = .ok (.aload_n 0, 1) := by decide +kernel
theorem dX11_set_47 : decode cX11_set 47 = .ok (.aload_n 0, 1) := by decide +kernel
theorem dX11_set_48 : decode cX11_set 48 = .ok (.getfield 10, 3) := by decide +kernel
theorem dX11_set_51 : decode cX11_set 51 = .ok (.iload_n 1, 1) := by decide +kernel
theorem dX11_set_52 : decode cX11_set 52 = .ok (.iload_n 2, 1) := by decide +kernel
theorem dX11_set_53 : decode cX11_set 53 = .ok (.iload_n 3, 1) := by decide +kernel
theorem dX11_set_54 : decode cX11_set 54 = .ok (.invokevirtual 78, 3) := by decide +kernel
theorem dX11_set_57 : decode cX11_set 57 = .ok (.invokevirtual 68, 3) := by decide +kernel
theorem dX11_set_60 : decode cX11_set 60 = .ok (.ireturn, 1) := by decide +kernel
theorem dX11_copy_0 : decode cX11_copy 0 = .ok (.iload_n 1, 1) := by decide +kernel
theorem dX11_copy_1 : decode cX11_copy 1 = .ok (.invokestatic 55, 3) := by decide +kernel
theorem dX11_copy_4 : decode cX11_copy 4 = .ok (.ifCond .eq 10, 3) := by decide +kernel
theorem dX11_copy_7 : decode cX11_copy 7 = .ok (.iload_n 3, 1) := by decide +kernel
theorem dX11_copy_8 : decode cX11_copy 8 = .ok (.invokestatic 55, 3) := by decide +kernel
theorem dX11_copy_11 : decode cX11_copy 11 = .ok (.ifCond .ne 6, 3) := by decide +kernel
theorem dX11_copy_14 : decode cX11_copy 14 = .ok (.ldc 59, 2) := by decide +kernel
theorem dX11_copy_16 : decode cX11_copy 16 = .ok (.ireturn, 1) := by decide +kernel
theorem dX11_copy_17 : decode cX11_copy 17 = .ok (.aload_n 0, 1) := by decide +kernel
theorem dX11_copy_18 : decode cX11_copy 18 = .ok (.getfield 10, 3) := by decide +kernel
theorem dX11_copy_21 : decode cX11_copy 21 = .ok (.iload_n 1, 1) := by decide +kernel
theorem dX11_copy_22 : decode cX11_copy 22 = .ok (.invokevirtual 71, 3) := by decide +kernel
theorem dX11_copy_25 : decode cX11_copy 25 = .ok (.ifCond .ne 14, 3) := by decide +kernel
theorem dX11_copy_28 : decode cX11_copy 28 = .ok (.aload_n 0, 1) := by decide +kernel
theorem dX11_copy_29 : decode cX11_copy 29 = .ok (.getfield 10, 3) := by decide +kernel
theorem dX11_copy_32 : decode cX11_copy 32 = .ok (.iload_n 3, 1) := by decide +kernel
theorem dX11_copy_33 : decode cX11_copy 33 = .ok (.invokevirtual 71, 3) := by decide +kernel
theorem dX11_copy_36 : decode cX11_copy 36 = .ok (.ifCond .eq 9, 3) := by decide +kernel
theorem dX11_copy_39 : decode cX11_copy 39 = .ok (.aload_n 0, 1) := by decide +kernel
theorem dX11_copy_40 : decode cX11_copy 40 = .ok (.iconst 1, 1) := by decide +kernel
theorem dX11_copy_41 : decode cX11_copy 41 = .ok (.invokevirtual 60, 3) := by decide +kernel
theorem dX11_copy_44 : decode cX11_copy 44 = .ok (.ireturn, 1) := by decide +kernel
theorem dX11_copy_45 : decode cX11_copy 45 = .ok (.aload_n 0, 1) := by decide +kernel
theorem dX11_copy_46 : decode cX11_copy 46 = .ok (.getfield 10, 3) := by decide +kernel
theorem dX11_copy_49 : decode cX11_copy 49 = .ok (.iload_n 1, 1) := by decide +kernel
theorem dX11_copy_50 : decode cX11_copy 50 = .ok (.iload_n 3, 1) := by decide +kernel
theorem dX11_copy_51 : decode cX11_copy 51 = .ok (.invokevirtual 82, 3) := by decide +kernel
theorem dX11_copy_54 : decode cX11_copy 54 = .ok (.ifCond .ne 9, 3) := by decide +kernel
theorem dX11_copy_57 : decode cX11_copy 57 = .ok (.aload_n 0, 1) := by decide +kernel
theorem dX11_copy_58 : decode cX11_copy 58 = .ok (.iconst 5, 1) := by decide +kernel
theorem dX11_copy_59 : decode cX11_copy 59 = .ok (.invokevirtual 60, 3) := by decide +kernel
theorem dX11_copy_62 : decode cX11_copy 62 = .ok (.ireturn, 1) := by decide +kernel
theorem dX11_copy_63 : decode cX11_copy 63 = .ok (.aload_n 0, 1) := by decide +kernel
theorem dX11_copy_64 : decode cX11_copy 64 = .ok (.getfield 10, 3) := by decide +kernel
theorem dX11_copy_67 : decode cX11_copy 67 = .ok (.iload_n 1, 1) := by decide +kernel
theorem dX11_copy_68 : decode cX11_copy 68 = .ok (.iload_n 2, 1) := by decide +kernel
theorem dX11_copy_69 : decode cX11_copy 69 = .ok (.iload 5, 2) := by decide +kernel
theorem dX11_copy_71 : decode cX11_copy 71 = .ok (.invokevirtual 74, 3) := by decide +kernel
theorem dX11_copy_74 : decode cX11_copy 74 = .ok (.ifCond .eq 18, 3) := by decide +kernel
theorem dX11_copy_77 : decode cX11_copy 77 = .ok (.aload_n 0, 1) := by decide +kernel
theorem dX11_copy_78 : decode cX11_copy 78 = .ok (.getfield 10, 3) := by decide +kernel
theorem dX11_copy_81 : decode cX11_copy 81 = .ok (.iload_n 3, 1) := by decide +kernel
theorem dX11_copy_82 : decode cX11_copy 82 = .ok (.iload 4, 2) := by decide +kernel
theorem dX11_copy_84 : decode cX11_copy 84 = .ok (.iload 5, 2) := by decide +kernel
theorem dX11_copy_86 : decode cX11_copy 86 = .ok (.invokevirtual 74, 3) := by decide +kernel
theorem dX11_copy_89 : decode cX11_copy 89 = .ok (.ifCond .ne 9, 3) := by decide +kernel
