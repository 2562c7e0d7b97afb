theorem dX11_copy_92 : decode cX11_copy 92 = .ok (.aload_n 0, 1) := by decide +kernel
theorem dX11_copy_93 : decode cX11_copy 93 = .ok (.iconst 2, 1) := by decide +kernel
theorem dX11_copy_94 : decode cX11_copy 94 = .ok (.invokevirtual 60, 3) := by decide +kernel
theorem dX11_copy_97 : decode cX11_copy 97 = .ok (.ireturn, 1) := by decide +kernel
theorem dX11_copy_98 : decode cX11_copy 98 = .ok (.aload_n 0, 1) := by decide +kernel
theorem dX11_copy_99 : decode cX11_copy 99 = .ok (.getfield 10, 3) := by decide +kernel
theorem dX11_copy_102 : decode cX11_copy 102 = .ok (.iload_n 1, 1) := by decide +kernel
theorem dX11_copy_103 : decode cX11_copy 103 = .ok (.iload_n 2, 1) := by decide +kernel
theorem dX11_copy_104 : decode cX11_copy 104 = .ok (.iload_n 3, 1) := by decide +kernel
theorem dX11_copy_105 : decode cX11_copy 105 = .ok (.iload 4, 2) := by decide +kernel
theorem dX11_copy_107 : decode cX11_copy 107 = .ok (.iload 5, 2) := by decide +kernel
theorem dX11_copy_109 : decode cX11_copy 109 = .ok (.invokevirtual 86, 3) := by decide +kernel
theorem dX11_copy_112 : decode cX11_copy 112 = .ok (.aload_n 0, 1) := by decide +kernel
theorem dX11_copy_113 : decode cX11_copy 113 = .ok (.iload 5, 2) := by decide +kernel
theorem dX11_copy_115 : decode cX11_copy 115 = .ok (.invokevirtual 68, 3) := by decide +kernel
theorem dX11_copy_118 : decode cX11_copy 118 = .ok (.ireturn, 1) := by decide +kernel
theorem dX11_drop_0 : decode cX11_drop 0 = .ok (.iload_n 1, 1) := by decide +kernel
theorem dX11_drop_1 : decode cX11_drop 1 = .ok (.invokestatic 55, 3) := by decide +kernel
theorem dX11_drop_4 : decode cX11_drop 4 = .ok (.ifCond .ne 6, 3) := by decide +kernel
theorem dX11_drop_7 : decode cX11_drop 7 = .ok (.ldc 59, 2) := by decide +kernel
theorem dX11_drop_9 : decode cX11_drop 9 = .ok (.ireturn, 1) := by decide +kernel
theorem dX11_drop_10 : decode cX11_drop 10 = .ok (.aload_n 0, 1) := by decide +kernel
theorem dX11_drop_11 : decode cX11_drop 11 = .ok (.getfield 10, 3) := by decide +kernel
theorem dX11_drop_14 : decode cX11_drop 14 = .ok (.iload_n 1, 1) := by decide +kernel
theorem dX11_drop_15 : decode cX11_drop 15 = .ok (.invokevirtual 71, 3) := by decide +kernel
theorem dX11_drop_18 : decode cX11_drop 18 = .ok (.ifCond .eq 9, 3) := by decide +kernel
theorem dX11_drop_21 : decode cX11_drop 21 = .ok (.aload_n 0, 1) := by decide +kernel
theorem dX11_drop_22 : decode cX11_drop 22 = .ok (.iconst 1, 1) := by decide +kernel
theorem dX11_drop_23 : decode cX11_drop 23 = .ok (.invokevirtual 60, 3) := by decide +kernel
theorem dX11_drop_26 : decode cX11_drop 26 = .ok (.ireturn, 1) := by decide +kernel
theorem dX11_drop_27 : decode cX11_drop 27 = .ok (.aload_n 0, 1) := by decide +kernel
theorem dX11_drop_28 : decode cX11_drop 28 = .ok (.aload_n 0, 1) := by decide +kernel
theorem dX11_drop_29 : decode cX11_drop 29 = .ok (.getfield 10, 3) := by decide +kernel
theorem dX11_drop_32 : decode cX11_drop 32 = .ok (.iload_n 1, 1) := by decide +kernel
theorem dX11_drop_33 : decode cX11_drop 33 = .ok (.invokevirtual 90, 3) := by decide +kernel
theorem dX11_drop_36 : decode cX11_drop 36 = .ok (.invokevirtual 68, 3) := by decide +kernel
theorem dX11_drop_39 : decode cX11_drop 39 = .ok (.ireturn, 1) := by decide +kernel
theorem dX11_feed_0 : decode cX11_feed 0 = .ok (.iload_n 1, 1) := by decide +kernel
theorem dX11_feed_1 : decode cX11_feed 1 = .ok (.ifCond .lt 10, 3) := by decide +kernel
theorem dX11_feed_4 : decode cX11_feed 4 = .ok (.iload_n 1, 1) := by decide +kernel
theorem dX11_feed_5 : decode cX11_feed 5 = .ok (.sipush 255, 3) := by decide +kernel
theorem dX11_feed_8 : decode cX11_feed 8 = .ok (.if_icmp .le 6, 3) := by decide +kernel
theorem dX11_feed_11 : decode cX11_feed 11 = .ok (.ldc 59, 2) := by decide +kernel
theorem dX11_feed_13 : decode cX11_feed 13 = .ok (.ireturn, 1) := by decide +kernel
theorem dX11_feed_14 : decode cX11_feed 14 = .ok (.aload_n 0, 1) := by decide +kernel
theorem dX11_feed_15 : decode cX11_feed 15 = .ok (.getfield 19, 3) := by decide +kernel
theorem dX11_feed_18 : decode cX11_feed 18 = .ok (.iload_n 1, 1) := by decide +kernel
theorem dX11_feed_19 : decode cX11_feed 19 = .ok (.invokevirtual 93, 3) := by decide +kernel
theorem dX11_feed_22 : decode cX11_feed 22 = .ok (.ifCond .eq 13, 3) := by decide +kernel
theorem dX11_feed_25 : decode cX11_feed 25 = .ok (.aload_n 0, 1) := by decide +kernel
theorem dX11_feed_26 : decode cX11_feed 26 = .ok (.getfield 19, 3) := by decide +kernel
theorem dX11_feed_29 : decode cX11_feed 29 = .ok (.getfield 96, 3) := by decide +kernel
theorem dX11_feed_32 : decode cX11_feed 32 = .ok (.goto 5, 3) := by decide +kernel
theorem dX11_feed_35 : decode cX11_feed 35 = .ok (.ldc 100, 2) := by decide +kernel
theorem dX11_feed_37 : decode cX11_feed 37 = .ok (.ireturn, 1) := by decide +kernel
theorem dX11_village_0 : decode cX11_village 0 = .ok (.aload_n 0, 1) := by decide +kernel
theorem dX11_village_1 : decode cX11_village 1 = .ok (.getfield 19, 3) := by decide +kernel
theorem dX11_village_4 : decode cX11_village 4 = .ok (.invokevirtual 101, 3) := by decide +kernel
theorem dX11_village_7 : decode cX11_village 7 = .ok (.istore_n 1, 1) := by decide +kernel
theorem dX11_village_8 : decode cX11_village 8 = .ok (.aload_n 0, 1) := by decide +kernel
theorem dX11_village_9 : decode cX11_village 9 = .ok (.getfield 19, 3) := by decide +kernel
theorem dX11_village_12 : decode cX11_village 12 = .ok (.getfield 105, 3) := by decide +kernel
theorem dX11_village_15 : decode cX11_village 15 = .ok (.ifCond .eq 25, 3) := by decide +kernel
theorem dX11_village_18 : decode cX11_village 18 = .ok (.aload_n 0, 1) := by decide +kernel
theorem dX11_village_19 : decode cX11_village 19 = .ok (.aload_n 0, 1) := by decide +kernel
theorem dX11_village_20 : decode cX11_village 20 = .ok (.getfield 19, 3) := by decide +kernel
theorem dX11_village_23 : decode cX11_village 23 = .ok (.getfield 105, 3) := by decide +kernel
theorem dX11_village_26 : decode cX11_village 26 = .ok (.putfield 108, 3) := by decide +kernel
theorem dX11_village_29 : decode cX11_village 29 = .ok (.ldc 111, 2) := by decide +kernel
theorem dX11_village_31 : decode cX11_village 31 = .ok (.aload_n 0, 1) := by decide +kernel
theorem dX11_village_32 : decode cX11_village 32 = .ok (.getfield 19, 3) := by decide +kernel
theorem dX11_village_35 : decode cX11_village 35 = .ok (.getfield 112, 3) := by decide +kernel
theorem dX11_village_38 : decode cX11_village 38 = .ok (.isub, 1) := by decide +kernel
theorem dX11_village_39 : decode cX11_village 39 = .ok (.ireturn, 1) := by decide +kernel
theorem dX11_village_40 : decode cX11_village 40 = .ok (.aload_n 0, 1) := by decide +kernel
theorem dX11_village_41 : decode cX11_village 41 = .ok (.getfield 26, 3) := by decide +kernel
theorem dX11_village_44 : decode cX11_village 44 = .ok (.aload_n 0, 1) := by decide +kernel
theorem dX11_village_45 : decode cX11_village 45 = .ok (.getfield 19, 3) := by decide +kernel
theorem dX11_village_48 : decode cX11_village 48 = .ok (.getfield 115, 3) := by decide +kernel
theorem dX11_village_51 : decode cX11_village 51 = .ok (.iload_n 1, 1) := by decide +kernel
theorem dX11_village_52 : decode cX11_village 52 = .ok (.invokevirtual 119, 3) := by decide +kernel
theorem dX11_village_55 : decode cX11_village 55 = .ok (.aload_n 0, 1) := by decide +kernel
theorem dX11_village_56 : decode cX11_village 56 = .ok (.invokevirtual 123, 3) := by decide +kernel
theorem dX11_village_59 : decode cX11_village 59 = .ok (.iload_n 1, 1) := by decide +kernel
theorem dX11_village_60 : decode cX11_village 60 = .ok (.ireturn, 1) := by decide +kernel
theorem dX11_fault_0 : decode cX11_fault 0 = .ok (.aload_n 0, 1) := by decide +kernel
theorem dX11_fault_1 : decode cX11_fault 1 = .ok (.getfield 108, 3) := by decide +kernel
theorem dX11_fault_4 : decode cX11_fault 4 = .ok (.ireturn, 1) := by decide +kernel
theorem dX11_live_0 : decode cX11_live 0 = .ok (.aload_n 0, 1) := by decide +kernel
theorem dX11_live_1 : decode cX11_live 1 = .ok (.getfield 26, 3) := by decide +kernel
theorem dX11_live_4 : decode cX11_live 4 = .ok (.getfield 126, 3) := by decide +kernel
theorem dX11_live_7 : decode cX11_live 7 = .ok (.ifCond .ne 6, 3) := by decide +kernel
theorem dX11_live_10 : decode cX11_live 10 = .ok (.ldc 130, 2) := by decide +kernel
theorem dX11_live_12 : decode cX11_live 12 = .ok (.ireturn, 1) := by decide +kernel
theorem dX11_live_13 : decode cX11_live 13 = .ok (.iload_n 1, 1) := by decide +kernel
theorem dX11_live_14 : decode cX11_live 14 = .ok (.invokestatic 131, 3) := by decide +kernel
theorem dX11_live_17 : decode cX11_live 17 = .ok (.ifCond .ne 6, 3) := by decide +kernel
theorem dX11_live_20 : decode cX11_live 20 = .ok (.ldc 59, 2) := by decide +kernel
theorem dX11_live_22 : decode cX11_live 22 = .ok (.ireturn, 1) := by decide +kernel
theorem dX11_live_23 : decode cX11_live 23 = .ok (.aload_n 0, 1) := by decide +kernel
theorem dX11_live_24 : decode cX11_live 24 = .ok (.getfield 26, 3) := by decide +kernel
theorem dX11_live_27 : decode cX11_live 27 = .ok (.getfield 134, 3) := by decide +kernel
theorem dX11_live_30 : decode cX11_live 30 = .ok (.ifCond .eq 6, 3) := by decide +kernel
theorem dX11_live_33 : decode cX11_live 33 = .ok (.ldc 130, 2) := by decide +kernel
theorem dX11_live_35 : decode cX11_live 35 = .ok (.ireturn, 1) := by decide +kernel
theorem dX11_live_36 : decode cX11_live 36 = .ok (.aload_n 0, 1) := by decide +kernel
theorem dX11_live_37 : decode cX11_live 37 = .ok (.invokevirtual 137, 3) := by decide +kernel
theorem dX11_live_40 : decode cX11_live 40 = .ok (.aload_n 0, 1) := by decide +kernel
theorem dX11_live_41 : decode cX11_live 41 = .ok (.getfield 26, 3) := by decide +kernel
theorem dX11_live_44 : decode cX11_live 44 = .ok (.iload_n 1, 1) := by decide +kernel
theorem dX11_live_45 : decode cX11_live 45 = .ok (.i2l, 1) := by decide +kernel
theorem dX11_live_46 : decode cX11_live 46 = .ok (.invokevirtual 140, 3) := by decide +kernel
theorem dX11_live_49 : decode cX11_live 49 = .ok (.pop2, 1) := by decide +kernel
theorem dX11_live_50 : decode cX11_live 50 = .ok (.aload_n 0, 1) := by decide +kernel
theorem dX11_live_51 : decode cX11_live 51 = .ok (.getfield 26, 3) := by decide +kernel
theorem dX11_live_54 : decode cX11_live 54 = .ok (.getfield 144, 3) := by decide +kernel
theorem dX11_live_57 : decode cX11_live 57 = .ok (.aload_n 0, 1) := by decide +kernel
theorem dX11_live_58 : decode cX11_live 58 = .ok (.getfield 26, 3) := by decide +kernel
theorem dX11_live_61 : decode cX11_live 61 = .ok (.getfield 147, 3) := by decide +kernel
theorem dX11_live_64 : decode cX11_live 64 = .ok (.dup2, 1) := by decide +kernel
theorem dX11_live_65 : decode cX11_live 65 = .ok (.iaload, 1) := by decide +kernel
theorem dX11_live_66 : decode cX11_live 66 = .ok (.iconst 1, 1) := by decide +kernel
theorem dX11_live_67 : decode cX11_live 67 = .ok (.iadd, 1) := by decide +kernel
theorem dX11_live_68 : decode cX11_live 68 = .ok (.iastore, 1) := by decide +kernel
theorem dX11_live_69 : decode cX11_live 69 = .ok (.aload_n 0, 1) := by decide +kernel
theorem dX11_live_70 : decode cX11_live 70 = .ok (.getfield 26, 3) := by decide +kernel
theorem dX11_live_73 : decode cX11_live 73 = .ok (.getfield 150, 3) := by decide +kernel
theorem dX11_live_76 : decode cX11_live 76 = .ok (.ireturn, 1) := by decide +kernel
theorem dX11_again_0 : decode cX11_again 0 = .ok (.aload_n 0, 1) := by decide +kernel
theorem dX11_again_1 : decode cX11_again 1 = .ok (.getfield 26, 3) := by decide +kernel
theorem dX11_again_4 : decode cX11_again 4 = .ok (.iload_n 1, 1) := by decide +kernel
theorem dX11_again_5 : decode cX11_again 5 = .ok (.invokevirtual 153, 3) := by decide +kernel
theorem dX11_again_8 : decode cX11_again 8 = .ok (.ifnonnull 6, 3) := by decide +kernel
theorem dX11_again_11 : decode cX11_again 11 = .ok (.ldc 59, 2) := by decide +kernel
theorem dX11_again_13 : decode cX11_again 13 = .ok (.ireturn, 1) := by decide +kernel
theorem dX11_again_14 : decode cX11_again 14 = .ok (.aload_n 0, 1) := by decide +kernel
theorem dX11_again_15 : decode cX11_again 15 = .ok (.getfield 26, 3) := by decide +kernel
theorem dX11_again_18 : decode cX11_again 18 = .ok (.getfield 134, 3) := by decide +kernel
theorem dX11_again_21 : decode cX11_again 21 = .ok (.ifCond .eq 21, 3) := by decide +kernel
theorem dX11_again_24 : decode cX11_again 24 = .ok (.aload_n 0, 1) := by decide +kernel
theorem dX11_again_25 : decode cX11_again 25 = .ok (.getfield 26, 3) := by decide +kernel
theorem dX11_again_28 : decode cX11_again 28 = .ok (.iload_n 1, 1) := by decide +kernel
theorem dX11_again_29 : decode cX11_again 29 = .ok (.aload_n 0, 1) := by decide +kernel
theorem dX11_again_30 : decode cX11_again 30 = .ok (.getfield 26, 3) := by decide +kernel
theorem dX11_again_33 : decode cX11_again 33 = .ok (.getfield 157, 3) := by decide +kernel
theorem dX11_again_36 : decode cX11_again 36 = .ok (.invokevirtual 160, 3) := by decide +kernel
theorem dX11_again_39 : decode cX11_again 39 = .ok (.ifCond .ne 6, 3) := by decide +kernel
theorem dX11_again_42 : decode cX11_again 42 = .ok (.ldc 130, 2) := by decide +kernel
theorem dX11_again_44 : decode cX11_again 44 = .ok (.ireturn, 1) := by decide +kernel
theorem dX11_again_45 : decode cX11_again 45 = .ok (.aload_n 0, 1) := by decide +kernel
theorem dX11_again_46 : decode cX11_again 46 = .ok (.invokevirtual 137, 3) := by decide +kernel
theorem dX11_again_49 : decode cX11_again 49 = .ok (.aload_n 0, 1) := by decide +kernel
theorem dX11_again_50 : decode cX11_again 50 = .ok (.getfield 26, 3) := by decide +kernel
theorem dX11_again_53 : decode cX11_again 53 = .ok (.iload_n 1, 1) := by decide +kernel
theorem dX11_again_54 : decode cX11_again 54 = .ok (.invokevirtual 163, 3) := by decide +kernel
theorem dX11_again_57 : decode cX11_again 57 = .ok (.aload_n 0, 1) := by decide +kernel
theorem dX11_again_58 : decode cX11_again 58 = .ok (.getfield 26, 3) := by decide +kernel
theorem dX11_again_61 : decode cX11_again 61 = .ok (.getfield 167, 3) := by decide +kernel
theorem dX11_again_64 : decode cX11_again 64 = .ok (.iload_n 1, 1) := by decide +kernel
theorem dX11_again_65 : decode cX11_again 65 = .ok (.iaload, 1) := by decide +kernel
theorem dX11_again_66 : decode cX11_again 66 = .ok (.ireturn, 1) := by decide +kernel
theorem dX11_stand_0 : decode cX11_stand 0 = .ok (.aload_n 0, 1) := by decide +kernel
theorem dX11_stand_1 : decode cX11_stand 1 = .ok (.getfield 26, 3) := by decide +kernel
theorem dX11_stand_4 : decode cX11_stand 4 = .ok (.getfield 126, 3) := by decide +kernel
theorem dX11_stand_7 : decode cX11_stand 7 = .ok (.ifCond .eq 13, 3) := by decide +kernel
theorem dX11_stand_10 : decode cX11_stand 10 = .ok (.aload_n 0, 1) := by decide +kernel
theorem dX11_stand_11 : decode cX11_stand 11 = .ok (.getfield 26, 3) := by decide +kernel
theorem dX11_stand_14 : decode cX11_stand 14 = .ok (.getfield 134, 3) := by decide +kernel
theorem dX11_stand_17 : decode cX11_stand 17 = .ok (.ifCond .ne 6, 3) := by decide +kernel
theorem dX11_stand_20 : decode cX11_stand 20 = .ok (.ldc 130, 2) := by decide +kernel
theorem dX11_stand_22 : decode cX11_stand 22 = .ok (.ireturn, 1) := by decide +kernel
theorem dX11_stand_23 : decode cX11_stand 23 = .ok (.aload_n 0, 1) := by decide +kernel
theorem dX11_stand_24 : decode cX11_stand 24 = .ok (.getfield 26, 3) := by decide +kernel
theorem dX11_stand_27 : decode cX11_stand 27 = .ok (.getfield 147, 3) := by decide +kernel
theorem dX11_stand_30 : decode cX11_stand 30 = .ok (.bipush 99, 2) := by decide +kernel
theorem dX11_stand_32 : decode cX11_stand 32 = .ok (.if_icmp .lt 6, 3) := by decide +kernel
theorem dX11_stand_35 : decode cX11_stand 35 = .ok (.ldc 100, 2) := by decide +kernel
theorem dX11_stand_37 : decode cX11_stand 37 = .ok (.ireturn, 1) := by decide +kernel
theorem dX11_stand_38 : decode cX11_stand 38 = .ok (.aload_n 0, 1) := by decide +kernel
theorem dX11_stand_39 : decode cX11_stand 39 = .ok (.invokevirtual 137, 3) := by decide +kernel
theorem dX11_stand_42 : decode cX11_stand 42 = .ok (.aload_n 0, 1) := by decide +kernel
theorem dX11_stand_43 : decode cX11_stand 43 = .ok (.getfield 26, 3) := by decide +kernel
theorem dX11_stand_46 : decode cX11_stand 46 = .ok (.getfield 144, 3) := by decide +kernel
theorem dX11_stand_49 : decode cX11_stand 49 = .ok (.aload_n 0, 1) := by decide +kernel
theorem dX11_stand_50 : decode cX11_stand 50 = .ok (.getfield 26, 3) := by decide +kernel
theorem dX11_stand_53 : decode cX11_stand 53 = .ok (.getfield 147, 3) := by decide +kernel
theorem dX11_stand_56 : decode cX11_stand 56 = .ok (.iaload, 1) := by decide +kernel
theorem dX11_stand_57 : decode cX11_stand 57 = .ok (.istore_n 1, 1) := by decide +kernel
theorem dX11_stand_58 : decode cX11_stand 58 = .ok (.aload_n 0, 1) := by decide +kernel
theorem dX11_stand_59 : decode cX11_stand 59 = .ok (.getfield 26, 3) := by decide +kernel
theorem dX11_stand_62 : decode cX11_stand 62 = .ok (.invokevirtual 170, 3) := by decide +kernel
theorem dX11_stand_65 : decode cX11_stand 65 = .ok (.aload_n 0, 1) := by decide +kernel
theorem dX11_stand_66 : decode cX11_stand 66 = .ok (.getfield 26, 3) := by decide +kernel
theorem dX11_stand_69 : decode cX11_stand 69 = .ok (.dup, 1) := by decide +kernel
theorem dX11_stand_70 : decode cX11_stand 70 = .ok (.getfield 147, 3) := by decide +kernel
theorem dX11_stand_73 : decode cX11_stand 73 = .ok (.iconst 1, 1) := by decide +kernel
theorem dX11_stand_74 : decode cX11_stand 74 = .ok (.iadd, 1) := by decide +kernel
theorem dX11_stand_75 : decode cX11_stand 75 = .ok (.putfield 147, 3) := by decide +kernel
theorem dX11_stand_78 : decode cX11_stand 78 = .ok (.iload_n 1, 1) := by decide +kernel
theorem dX11_stand_79 : decode cX11_stand 79 = .ok (.ireturn, 1) := by decide +kernel
theorem dX11_will_0 : decode cX11_will 0 = .ok (.aload_n 0, 1) := by decide +kernel
theorem dX11_will_1 : decode cX11_will 1 = .ok (.getfield 26, 3) := by decide +kernel
theorem dX11_will_4 : decode cX11_will 4 = .ok (.iload_n 1, 1) := by decide +kernel
theorem dX11_will_5 : decode cX11_will 5 = .ok (.invokevirtual 153, 3) := by decide +kernel
theorem dX11_will_8 : decode cX11_will 8 = .ok (.ifnull 19, 3) := by decide +kernel
theorem dX11_will_11 : decode cX11_will 11 = .ok (.aload_n 0, 1) := by decide +kernel
theorem dX11_will_12 : decode cX11_will 12 = .ok (.getfield 26, 3) := by decide +kernel
theorem dX11_will_15 : decode cX11_will 15 = .ok (.iload_n 2, 1) := by decide +kernel
theorem dX11_will_16 : decode cX11_will 16 = .ok (.invokevirtual 153, 3) := by decide +kernel
theorem dX11_will_19 : decode cX11_will 19 = .ok (.ifnull 8, 3) := by decide +kernel
theorem dX11_will_22 : decode cX11_will 22 = .ok (.iload_n 1, 1) := by decide +kernel
theorem dX11_will_23 : decode cX11_will 23 = .ok (.iload_n 2, 1) := by decide +kernel
theorem dX11_will_24 : decode cX11_will 24 = .ok (.if_icmp .ne 6, 3) := by decide +kernel
theorem dX11_will_27 : decode cX11_will 27 = .ok (.ldc 59, 2) := by decide +kernel
theorem dX11_will_29 : decode cX11_will 29 = .ok (.ireturn, 1) := by decide +kernel
theorem dX11_will_30 : decode cX11_will 30 = .ok (.aload_n 0, 1) := by decide +kernel
theorem dX11_will_31 : decode cX11_will 31 = .ok (.getfield 26, 3) := by decide +kernel
theorem dX11_will_34 : decode cX11_will 34 = .ok (.iload_n 1, 1) := by decide +kernel
theorem dX11_will_35 : decode cX11_will 35 = .ok (.invokevirtual 173, 3) := by decide +kernel
theorem dX11_will_38 : decode cX11_will 38 = .ok (.ifCond .eq 14, 3) := by decide +kernel
theorem dX11_will_41 : decode cX11_will 41 = .ok (.aload_n 0, 1) := by decide +kernel
theorem dX11_will_42 : decode cX11_will 42 = .ok (.getfield 26, 3) := by decide +kernel
theorem dX11_will_45 : decode cX11_will 45 = .ok (.iload_n 2, 1) := by decide +kernel
theorem dX11_will_46 : decode cX11_will 46 = .ok (.invokevirtual 173, 3) := by decide +kernel
theorem dX11_will_49 : decode cX11_will 49 = .ok (.ifCond .eq 6, 3) := by decide +kernel
theorem dX11_will_52 : decode cX11_will 52 = .ok (.ldc 130, 2) := by decide +kernel
theorem dX11_will_54 : decode cX11_will 54 = .ok (.ireturn, 1) := by decide +kernel
theorem dX11_will_55 : decode cX11_will 55 = .ok (.aload_n 0, 1) := by decide +kernel
theorem dX11_will_56 : decode cX11_will 56 = .ok (.invokevirtual 137, 3) := by decide +kernel
theorem dX11_will_59 : decode cX11_will 59 = .ok (.aload_n 0, 1) := by decide +kernel
theorem dX11_will_60 : decode cX11_will 60 = .ok (.getfield 26, 3) := by decide +kernel
theorem dX11_will_63 : decode cX11_will 63 = .ok (.dup, 1) := by decide +kernel
theorem dX11_will_64 : decode cX11_will 64 = .ok (.getfield 157, 3) := by decide +kernel
theorem dX11_will_67 : decode cX11_will 67 = .ok (.iconst 1, 1) := by decide +kernel
theorem dX11_will_68 : decode cX11_will 68 = .ok (.iload_n 1, 1) := by decide +kernel
theorem dX11_will_69 : decode cX11_will 69 = .ok (.ishl, 1) := by decide +kernel
theorem dX11_will_70 : decode cX11_will 70 = .ok (.iconst 1, 1) := by decide +kernel
theorem dX11_will_71 : decode cX11_will 71 = .ok (.iload_n 2, 1) := by decide +kernel
theorem dX11_will_72 : decode cX11_will 72 = .ok (.ishl, 1) := by decide +kernel
theorem dX11_will_73 : decode cX11_will 73 = .ok (.ior, 1) := by decide +kernel
theorem dX11_will_74 : decode cX11_will 74 = .ok (.ixor, 1) := by decide +kernel
theorem dX11_will_75 : decode cX11_will 75 = .ok (.putfield 157, 3) := by decide +kernel
theorem dX11_will_78 : decode cX11_will 78 = .ok (.aload_n 0, 1) := by decide +kernel
theorem dX11_will_79 : decode cX11_will 79 = .ok (.getfield 26, 3) := by decide +kernel
theorem dX11_will_82 : decode cX11_will 82 = .ok (.getfield 157, 3) := by decide +kernel
theorem dX11_will_85 : decode cX11_will 85 = .ok (.invokestatic 176, 3) := by decide +kernel
theorem dX11_will_88 : decode cX11_will 88 = .ok (.ireturn, 1) := by decide +kernel
theorem dX11_undo_0 : decode cX11_undo 0 = .ok (.aload_n 0, 1) := by decide +kernel
theorem dX11_undo_1 : decode cX11_undo 1 = .ok (.getfield 181, 3) := by decide +kernel
theorem dX11_undo_4 : decode cX11_undo 4 = .ok (.iconst 1, 1) := by decide +kernel
theorem dX11_undo_5 : decode cX11_undo 5 = .ok (.if_icmp .ge 6, 3) := by decide +kernel
theorem dX11_undo_8 : decode cX11_undo 8 = .ok (.ldc 130, 2) := by decide +kernel
theorem dX11_undo_10 : decode cX11_undo 10 = .ok (.ireturn, 1) := by decide +kernel
theorem dX11_undo_11 : decode cX11_undo 11 = .ok (.aload_n 0, 1) := by decide +kernel
theorem dX11_undo_12 : decode cX11_undo 12 = .ok (.dup, 1) := by decide +kernel
theorem dX11_undo_13 : decode cX11_undo 13 = .ok (.getfield 181, 3) := by decide +kernel
theorem dX11_undo_16 : decode cX11_undo 16 = .ok (.iconst 1, 1) := by decide +kernel
theorem dX11_undo_17 : decode cX11_undo 17 = .ok (.isub, 1) := by decide +kernel
theorem dX11_undo_18 : decode cX11_undo 18 = .ok (.putfield 181, 3) := by decide +kernel
theorem dX11_undo_21 : decode cX11_undo 21 = .ok (.aload_n 0, 1) := by decide +kernel
theorem dX11_undo_22 : decode cX11_undo 22 = .ok (.aload_n 0, 1) := by decide +kernel
theorem dX11_undo_23 : decode cX11_undo 23 = .ok (.getfield 184, 3) := by decide +kernel
theorem dX11_undo_26 : decode cX11_undo 26 = .ok (.bipush 24, 2) := by decide +kernel
theorem dX11_undo_28 : decode cX11_undo 28 = .ok (.iadd, 1) := by decide +kernel
theorem dX11_undo_29 : decode cX11_undo 29 = .ok (.iconst 1, 1) := by decide +kernel
theorem dX11_undo_30 : decode cX11_undo 30 = .ok (.isub, 1) := by decide +kernel
theorem dX11_undo_31 : decode cX11_undo 31 = .ok (.bipush 24, 2) := by decide +kernel
theorem dX11_undo_33 : decode cX11_undo 33 = .ok (.irem, 1) := by decide +kernel
theorem dX11_undo_34 : decode cX11_undo 34 = .ok (.putfield 184, 3) := by decide +kernel
theorem dX11_undo_37 : decode cX11_undo 37 = .ok (.aload_n 0, 1) := by decide +kernel
theorem dX11_undo_38 : decode cX11_undo 38 = .ok (.getfield 26, 3) := by decide +kernel
theorem dX11_undo_41 : decode cX11_undo 41 = .ok (.aload_n 0, 1) := by decide +kernel
theorem dX11_undo_42 : decode cX11_undo 42 = .ok (.getfield 51, 3) := by decide +kernel
theorem dX11_undo_45 : decode cX11_undo 45 = .ok (.aload_n 0, 1) := by decide +kernel
theorem dX11_undo_46 : decode cX11_undo 46 = .ok (.getfield 184, 3) := by decide +kernel
theorem dX11_undo_49 : decode cX11_undo 49 = .ok (.bipush 11, 2) := by decide +kernel
theorem dX11_undo_51 : decode cX11_undo 51 = .ok (.imul, 1) := by decide +kernel
theorem dX11_undo_52 : decode cX11_undo 52 = .ok (.invokevirtual 187, 3) := by decide +kernel
theorem dX11_undo_55 : decode cX11_undo 55 = .ok (.aload_n 0, 1) := by decide +kernel
theorem dX11_undo_56 : decode cX11_undo 56 = .ok (.getfield 181, 3) := by decide +kernel
theorem dX11_undo_59 : decode cX11_undo 59 = .ok (.ireturn, 1) := by decide +kernel
theorem dX11_person_0 : decode cX11_person 0 = .ok (.aload_n 0, 1) := by decide +kernel
theorem dX11_person_1 : decode cX11_person 1 = .ok (.getfield 26, 3) := by decide +kernel
theorem dX11_person_4 : decode cX11_person 4 = .ok (.iload_n 1, 1) := by decide +kernel
theorem dX11_person_5 : decode cX11_person 5 = .ok (.invokevirtual 153, 3) := by decide +kernel
theorem dX11_person_8 : decode cX11_person 8 = .ok (.astore_n 3, 1) := by decide +kernel
theorem dX11_person_9 : decode cX11_person 9 = .ok (.aload_n 3, 1) := by decide +kernel
theorem dX11_person_10 : decode cX11_person 10 = .ok (.ifnonnull 6, 3) := by decide +kernel
theorem dX11_person_13 : decode cX11_person 13 = .ok (.ldc 59, 2) := by decide +kernel
theorem dX11_person_15 : decode cX11_person 15 = .ok (.ireturn, 1) := by decide +kernel
theorem dX11_person_16 : decode cX11_person 16 = .ok (.iload_n 2, 1) := by decide +kernel
theorem dX11_person_17 : decode cX11_person 17 = .ok (.tableswitch 140 0 7 #[47, 52, 57, 62, 72, 89, 99, 126], 47) := by decide +kernel
theorem dX11_person_64 : decode cX11_person 64 = .ok (.aload_n 3, 1) := by decide +kernel
theorem dX11_person_65 : decode cX11_person 65 = .ok (.getfield 191, 3) := by decide +kernel
theorem dX11_person_68 : decode cX11_person 68 = .ok (.ireturn, 1) := by decide +kernel
theorem dX11_person_69 : decode cX11_person 69 = .ok (.aload_n 3, 1) := by decide +kernel
theorem dX11_person_70 : decode cX11_person 70 = .ok (.getfield 196, 3) := by decide +kernel
theorem dX11_person_73 : decode cX11_person 73 = .ok (.ireturn, 1) := by decide +kernel
theorem dX11_person_74 : decode cX11_person 74 = .ok (.aload_n 3, 1) := by decide +kernel
theorem dX11_person_75 : decode cX11_person 75 = .ok (.getfield 199, 3) := by decide +kernel
theorem dX11_person_78 : decode cX11_person 78 = .ok (.ireturn, 1) := by decide +kernel
theorem dX11_person_79 : decode cX11_person 79 = .ok (.aload_n 0, 1) := by decide +kernel
theorem dX11_person_80 : decode cX11_person 80 = .ok (.getfield 26, 3) := by decide +kernel
theorem dX11_person_83 : decode cX11_person 83 = .ok (.getfield 202, 3) := by decide +kernel
theorem dX11_person_86 : decode cX11_person 86 = .ok (.iload_n 1, 1) := by decide +kernel
theorem dX11_person_87 : decode cX11_person 87 = .ok (.iaload, 1) := by decide +kernel
theorem dX11_person_88 : decode cX11_person 88 = .ok (.ireturn, 1) := by decide +kernel
theorem dX11_person_89 : decode cX11_person 89 = .ok (.aload_n 0, 1) := by decide +kernel
theorem dX11_person_90 : decode cX11_person 90 = .ok (.getfield 26, 3) := by decide +kernel
theorem dX11_person_93 : decode cX11_person 93 = .ok (.iload_n 1, 1) := by decide +kernel
theorem dX11_person_94 : decode cX11_person 94 = .ok (.invokevirtual 173, 3) := by decide +kernel
theorem dX11_person_97 : decode cX11_person 97 = .ok (.ifCond .eq 7, 3) := by decide +kernel
theorem dX11_person_100 : decode cX11_person 100 = .ok (.iconst 1, 1) := by decide +kernel
theorem dX11_person_101 : decode cX11_person 101 = .ok (.goto 4, 3) := by decide +kernel
theorem dX11_person_104 : decode cX11_person 104 = .ok (.iconst 0, 1) := by decide +kernel
theorem dX11_person_105 : decode cX11_person 105 = .ok (.ireturn, 1) := by decide +kernel
theorem dX11_person_106 : decode cX11_person 106 = .ok (.aload_n 0, 1) := by decide +kernel
theorem dX11_person_107 : decode cX11_person 107 = .ok (.getfield 26, 3) := by decide +kernel
theorem dX11_person_110 : decode cX11_person 110 = .ok (.getfield 167, 3) := by decide +kernel
theorem dX11_person_113 : decode cX11_person 113 = .ok (.iload_n 1, 1) := by decide +kernel
theorem dX11_person_114 : decode cX11_person 114 = .ok (.iaload, 1) := by decide +kernel
theorem dX11_person_115 : decode cX11_person 115 = .ok (.ireturn, 1) := by decide +kernel
theorem dX11_person_116 : decode cX11_person 116 = .ok (.aload_n 0, 1) := by decide +kernel
theorem dX11_person_117 : decode cX11_person 117 = .ok (.getfield 26, 3) := by decide +kernel
theorem dX11_person_120 : decode cX11_person 120 = .ok (.getfield 134, 3) := by decide +kernel
theorem dX11_person_123 : decode cX11_person 123 = .ok (.ifCond .eq 17, 3) := by decide +kernel
theorem dX11_person_126 : decode cX11_person 126 = .ok (.aload_n 0, 1) := by decide +kernel
theorem dX11_person_127 : decode cX11_person 127 = .ok (.getfield 26, 3) := by decide +kernel
theorem dX11_person_130 : decode cX11_person 130 = .ok (.getfield 150, 3) := by decide +kernel
theorem dX11_person_133 : decode cX11_person 133 = .ok (.iload_n 1, 1) := by decide +kernel
theorem dX11_person_134 : decode cX11_person 134 = .ok (.ishr, 1) := by decide +kernel
theorem dX11_person_135 : decode cX11_person 135 = .ok (.iconst 1, 1) := by decide +kernel
theorem dX11_person_136 : decode cX11_person 136 = .ok (.iand, 1) := by decide +kernel
theorem dX11_person_137 : decode cX11_person 137 = .ok (.goto 5, 3) := by decide +kernel
theorem dX11_person_140 : decode cX11_person 140 = .ok (.ldc 205, 2) := by decide +kernel
theorem dX11_person_142 : decode cX11_person 142 = .ok (.ireturn, 1) := by decide +kernel
theorem dX11_person_143 : decode cX11_person 143 = .ok (.aload_n 3, 1) := by decide +kernel
theorem dX11_person_144 : decode cX11_person 144 = .ok (.aload_n 0, 1) := by decide +kernel
theorem dX11_person_145 : decode cX11_person 145 = .ok (.getfield 26, 3) := by decide +kernel
theorem dX11_person_148 : decode cX11_person 148 = .ok (.getfield 167, 3) := by decide +kernel
theorem dX11_person_151 : decode cX11_person 151 = .ok (.iload_n 1, 1) := by decide +kernel
theorem dX11_person_152 : decode cX11_person 152 = .ok (.iaload, 1) := by decide +kernel
theorem dX11_person_153 : decode cX11_person 153 = .ok (.invokevirtual 206, 3) := by decide +kernel
theorem dX11_person_156 : decode cX11_person 156 = .ok (.ireturn, 1) := by decide +kernel
theorem dX11_person_157 : decode cX11_person 157 = .ok (.ldc 59, 2) := by decide +kernel
theorem dX11_person_159 : decode cX11_person 159 = .ok (.ireturn, 1) := by decide +kernel
theorem dX11_lives_0 : decode cX11_lives 0 = .ok (.aload_n 0, 1) := by decide +kernel
theorem dX11_lives_1 : decode cX11_lives 1 = .ok (.getfield 26, 3) := by decide +kernel
theorem dX11_lives_4 : decode cX11_lives 4 = .ok (.getfield 126, 3) := by decide +kernel
theorem dX11_lives_7 : decode cX11_lives 7 = .ok (.ifCond .ne 6, 3) := by decide +kernel
theorem dX11_lives_10 : decode cX11_lives 10 = .ok (.ldc 130, 2) := by decide +kernel
theorem dX11_lives_12 : decode cX11_lives 12 = .ok (.ireturn, 1) := by decide +kernel
theorem dX11_lives_13 : decode cX11_lives 13 = .ok (.iload_n 1, 1) := by decide +kernel
theorem dX11_lives_14 : decode cX11_lives 14 = .ok (.ifCond .lt 9, 3) := by decide +kernel
theorem dX11_lives_17 : decode cX11_lives 17 = .ok (.iload_n 1, 1) := by decide +kernel
theorem dX11_lives_18 : decode cX11_lives 18 = .ok (.bipush 100, 2) := by decide +kernel
theorem dX11_lives_20 : decode cX11_lives 20 = .ok (.if_icmp .lt 6, 3) := by decide +kernel
theorem dX11_lives_23 : decode cX11_lives 23 = .ok (.ldc 59, 2) := by decide +kernel
theorem dX11_lives_25 : decode cX11_lives 25 = .ok (.ireturn, 1) := by decide +kernel
theorem dX11_lives_26 : decode cX11_lives 26 = .ok (.iload_n 1, 1) := by decide +kernel
theorem dX11_lives_27 : decode cX11_lives 27 = .ok (.aload_n 0, 1) := by decide +kernel
theorem dX11_lives_28 : decode cX11_lives 28 = .ok (.getfield 26, 3) := by decide +kernel
theorem dX11_lives_31 : decode cX11_lives 31 = .ok (.getfield 147, 3) := by decide +kernel
theorem dX11_lives_34 : decode cX11_lives 34 = .ok (.if_icmp .le 8, 3) := by decide +kernel
theorem dX11_lives_37 : decode cX11_lives 37 = .ok (.ldc 205, 2) := by decide +kernel
theorem dX11_lives_39 : decode cX11_lives 39 = .ok (.goto 12, 3) := by decide +kernel
theorem dX11_lives_42 : decode cX11_lives 42 = .ok (.aload_n 0, 1) := by decide +kernel
theorem dX11_lives_43 : decode cX11_lives 43 = .ok (.getfield 26, 3) := by decide +kernel
theorem dX11_lives_46 : decode cX11_lives 46 = .ok (.getfield 144, 3) := by decide +kernel
theorem dX11_lives_49 : decode cX11_lives 49 = .ok (.iload_n 1, 1) := by decide +kernel
theorem dX11_lives_50 : decode cX11_lives 50 = .ok (.iaload, 1) := by decide +kernel
theorem dX11_lives_51 : decode cX11_lives 51 = .ok (.ireturn, 1) := by decide +kernel
theorem dX11_lived_0 : decode cX11_lived 0 = .ok (.aload_n 0, 1) := by decide +kernel
theorem dX11_lived_1 : decode cX11_lived 1 = .ok (.getfield 26, 3) := by decide +kernel
theorem dX11_lived_4 : decode cX11_lived 4 = .ok (.getfield 126, 3) := by decide +kernel
theorem dX11_lived_7 : decode cX11_lived 7 = .ok (.ifCond .ne 7, 3) := by decide +kernel
theorem dX11_lived_10 : decode cX11_lived 10 = .ok (.ldc2_w 209, 3) := by decide +kernel
theorem dX11_lived_13 : decode cX11_lived 13 = .ok (.lreturn, 1) := by decide +kernel
theorem dX11_lived_14 : decode cX11_lived 14 = .ok (.iload_n 1, 1) := by decide +kernel
theorem dX11_lived_15 : decode cX11_lived 15 = .ok (.invokestatic 55, 3) := by decide +kernel
theorem dX11_lived_18 : decode cX11_lived 18 = .ok (.ifCond .eq 13, 3) := by decide +kernel
theorem dX11_lived_21 : decode cX11_lived 21 = .ok (.iload_n 2, 1) := by decide +kernel
theorem dX11_lived_22 : decode cX11_lived 22 = .ok (.iconst 1, 1) := by decide +kernel
theorem dX11_lived_23 : decode cX11_lived 23 = .ok (.if_icmp .lt 8, 3) := by decide +kernel
theorem dX11_lived_26 : decode cX11_lived 26 = .ok (.iload_n 2, 1) := by decide +kernel
theorem dX11_lived_27 : decode cX11_lived 27 = .ok (.iconst 4, 1) := by decide +kernel
theorem dX11_lived_28 : decode cX11_lived 28 = .ok (.if_icmp .le 7, 3) := by decide +kernel
theorem dX11_lived_31 : decode cX11_lived 31 = .ok (.ldc2_w 211, 3) := by decide +kernel
theorem dX11_lived_34 : decode cX11_lived 34 = .ok (.lreturn, 1) := by decide +kernel
theorem dX11_lived_35 : decode cX11_lived 35 = .ok (.aload_n 0, 1) := by decide +kernel
theorem dX11_lived_36 : decode cX11_lived 36 = .ok (.iload_n 1, 1) := by decide +kernel
theorem dX11_lived_37 : decode cX11_lived 37 = .ok (.invokevirtual 213, 3) := by decide +kernel
theorem dX11_lived_40 : decode cX11_lived 40 = .ok (.istore 4, 2) := by decide +kernel
theorem dX11_lived_42 : decode cX11_lived 42 = .ok (.iload 4, 2) := by decide +kernel
theorem dX11_lived_44 : decode cX11_lived 44 = .ok (.ifCond .eq 7, 3) := by decide +kernel
theorem dX11_lived_47 : decode cX11_lived 47 = .ok (.iload 4, 2) := by decide +kernel
theorem dX11_lived_49 : decode cX11_lived 49 = .ok (.i2l, 1) := by decide +kernel
theorem dX11_lived_50 : decode cX11_lived 50 = .ok (.lreturn, 1) := by decide +kernel
theorem dX11_lived_51 : decode cX11_lived 51 = .ok (.aload_n 0, 1) := by decide +kernel
theorem dX11_lived_52 : decode cX11_lived 52 = .ok (.getfield 40, 3) := by decide +kernel
theorem dX11_lived_55 : decode cX11_lived 55 = .ok (.aload_n 0, 1) := by decide +kernel
theorem dX11_lived_56 : decode cX11_lived 56 = .ok (.getfield 26, 3) := by decide +kernel
theorem dX11_lived_59 : decode cX11_lived 59 = .ok (.invokevirtual 216, 3) := by decide +kernel
theorem dX11_lived_62 : decode cX11_lived 62 = .ok (.aload_n 0, 1) := by decide +kernel
theorem dX11_lived_63 : decode cX11_lived 63 = .ok (.getfield 40, 3) := by decide +kernel
theorem dX11_lived_66 : decode cX11_lived 66 = .ok (.getfield 220, 3) := by decide +kernel
theorem dX11_lived_69 : decode cX11_lived 69 = .ok (.iload_n 2, 1) := by decide +kernel
theorem dX11_lived_70 : decode cX11_lived 70 = .ok (.laload, 1) := by decide +kernel
theorem dX11_lived_71 : decode cX11_lived 71 = .ok (.ldc2_w 224, 3) := by decide +kernel
theorem dX11_lived_74 : decode cX11_lived 74 = .ok (.iload_n 3, 1) := by decide +kernel
theorem dX11_lived_75 : decode cX11_lived 75 = .ok (.invokestatic 226, 3) := by decide +kernel
theorem dX11_lived_78 : decode cX11_lived 78 = .ok (.lreturn, 1) := by decide +kernel
theorem dX11_mean_0 : decode cX11_mean 0 = .ok (.aload_n 0, 1) := by decide +kernel
theorem dX11_mean_1 : decode cX11_mean 1 = .ok (.iload_n 1, 1) := by decide +kernel
theorem dX11_mean_2 : decode cX11_mean 2 = .ok (.iload_n 2, 1) := by decide +kernel
theorem dX11_mean_3 : decode cX11_mean 3 = .ok (.invokevirtual 230, 3) := by decide +kernel
theorem dX11_mean_6 : decode cX11_mean 6 = .ok (.istore 4, 2) := by decide +kernel
theorem dX11_mean_8 : decode cX11_mean 8 = .ok (.iload 4, 2) := by decide +kernel
theorem dX11_mean_10 : decode cX11_mean 10 = .ok (.ifCond .eq 7, 3) := by decide +kernel
theorem dX11_mean_13 : decode cX11_mean 13 = .ok (.iload 4, 2) := by decide +kernel
theorem dX11_mean_15 : decode cX11_mean 15 = .ok (.i2l, 1) := by decide +kernel
theorem dX11_mean_16 : decode cX11_mean 16 = .ok (.lreturn, 1) := by decide +kernel
theorem dX11_mean_17 : decode cX11_mean 17 = .ok (.aload_n 0, 1) := by decide +kernel
theorem dX11_mean_18 : decode cX11_mean 18 = .ok (.getfield 40, 3) := by decide +kernel
theorem dX11_mean_21 : decode cX11_mean 21 = .ok (.aload_n 0, 1) := by decide +kernel
theorem dX11_mean_22 : decode cX11_mean 22 = .ok (.getfield 26, 3) := by decide +kernel
theorem dX11_mean_25 : decode cX11_mean 25 = .ok (.invokevirtual 216, 3) := by decide +kernel
theorem dX11_mean_28 : decode cX11_mean 28 = .ok (.aload_n 0, 1) := by decide +kernel
theorem dX11_mean_29 : decode cX11_mean 29 = .ok (.getfield 40, 3) := by decide +kernel
theorem dX11_mean_32 : decode cX11_mean 32 = .ok (.getfield 234, 3) := by decide +kernel
theorem dX11_mean_35 : decode cX11_mean 35 = .ok (.iload_n 2, 1) := by decide +kernel
theorem dX11_mean_36 : decode cX11_mean 36 = .ok (.laload, 1) := by decide +kernel
theorem dX11_mean_37 : decode cX11_mean 37 = .ok (.ldc2_w 224, 3) := by decide +kernel
theorem dX11_mean_40 : decode cX11_mean 40 = .ok (.iload_n 3, 1) := by decide +kernel
theorem dX11_mean_41 : decode cX11_mean 41 = .ok (.invokestatic 226, 3) := by decide +kernel
theorem dX11_mean_44 : decode cX11_mean 44 = .ok (.lreturn, 1) := by decide +kernel
theorem dX11_best_0 : decode cX11_best 0 = .ok (.aload_n 0, 1) := by decide +kernel
theorem dX11_best_1 : decode cX11_best 1 = .ok (.iload_n 1, 1) := by decide +kernel
theorem dX11_best_2 : decode cX11_best 2 = .ok (.iload_n 2, 1) := by decide +kernel
theorem dX11_best_3 : decode cX11_best 3 = .ok (.invokevirtual 230, 3) := by decide +kernel
theorem dX11_best_6 : decode cX11_best 6 = .ok (.istore_n 3, 1) := by decide +kernel
theorem dX11_best_7 : decode cX11_best 7 = .ok (.iload_n 3, 1) := by decide +kernel
theorem dX11_best_8 : decode cX11_best 8 = .ok (.ifCond .eq 7, 3) := by decide +kernel
theorem dX11_best_11 : decode cX11_best 11 = .ok (.iload_n 3, 1) := by decide +kernel
theorem dX11_best_12 : decode cX11_best 12 = .ok (.goto 15, 3) := by decide +kernel
theorem dX11_best_15 : decode cX11_best 15 = .ok (.aload_n 0, 1) := by decide +kernel
theorem dX11_best_16 : decode cX11_best 16 = .ok (.getfield 40, 3) := by decide +kernel
theorem dX11_best_19 : decode cX11_best 19 = .ok (.aload_n 0, 1) := by decide +kernel
theorem dX11_best_20 : decode cX11_best 20 = .ok (.getfield 26, 3) := by decide +kernel
theorem dX11_best_23 : decode cX11_best 23 = .ok (.iload_n 2, 1) := by decide +kernel
theorem dX11_best_24 : decode cX11_best 24 = .ok (.invokevirtual 237, 3) := by decide +kernel
theorem dX11_best_27 : decode cX11_best 27 = .ok (.ireturn, 1) := by decide +kernel
theorem dX11_rests_0 : decode cX11_rests 0 = .ok (.aload_n 0, 1) := by decide +kernel
theorem dX11_rests_1 : decode cX11_rests 1 = .ok (.getfield 26, 3) := by decide +kernel
theorem dX11_rests_4 : decode cX11_rests 4 = .ok (.getfield 126, 3) := by decide +kernel
theorem dX11_rests_7 : decode cX11_rests 7 = .ok (.ifCond .ne 6, 3) := by decide +kernel
theorem dX11_rests_10 : decode cX11_rests 10 = .ok (.ldc 130, 2) := by decide +kernel
theorem dX11_rests_12 : decode cX11_rests 12 = .ok (.ireturn, 1) := by decide +kernel
theorem dX11_rests_13 : decode cX11_rests 13 = .ok (.iload_n 1, 1) := by decide +kernel
theorem dX11_rests_14 : decode cX11_rests 14 = .ok (.iconst (-1), 1) := by decide +kernel
theorem dX11_rests_15 : decode cX11_rests 15 = .ok (.if_icmp .lt 14, 3) := by decide +kernel
theorem dX11_rests_18 : decode cX11_rests 18 = .ok (.iload_n 1, 1) := by decide +kernel
theorem dX11_rests_19 : decode cX11_rests 19 = .ok (.aload_n 0, 1) := by decide +kernel
theorem dX11_rests_20 : decode cX11_rests 20 = .ok (.getfield 26, 3) := by decide +kernel
theorem dX11_rests_23 : decode cX11_rests 23 = .ok (.getfield 241, 3) := by decide +kernel
theorem dX11_rests_26 : decode cX11_rests 26 = .ok (.if_icmp .lt 6, 3) := by decide +kernel
theorem dX11_rests_29 : decode cX11_rests 29 = .ok (.ldc 59, 2) := by decide +kernel
theorem dX11_rests_31 : decode cX11_rests 31 = .ok (.ireturn, 1) := by decide +kernel
theorem dX11_rests_32 : decode cX11_rests 32 = .ok (.aload_n 0, 1) := by decide +kernel
theorem dX11_rests_33 : decode cX11_rests 33 = .ok (.getfield 40, 3) := by decide +kernel
theorem dX11_rests_36 : decode cX11_rests 36 = .ok (.aload_n 0, 1) := by decide +kernel
theorem dX11_rests_37 : decode cX11_rests 37 = .ok (.getfield 26, 3) := by decide +kernel
theorem dX11_rests_40 : decode cX11_rests 40 = .ok (.invokevirtual 244, 3) := by decide +kernel
theorem dX11_rests_43 : decode cX11_rests 43 = .ok (.istore_n 2, 1) := by decide +kernel
theorem dX11_rests_44 : decode cX11_rests 44 = .ok (.iload_n 1, 1) := by decide +kernel
theorem dX11_rests_45 : decode cX11_rests 45 = .ok (.iconst (-1), 1) := by decide +kernel
theorem dX11_rests_46 : decode cX11_rests 46 = .ok (.if_icmp .ne 5, 3) := by decide +kernel
theorem dX11_rests_49 : decode cX11_rests 49 = .ok (.iload_n 2, 1) := by decide +kernel
theorem dX11_rests_50 : decode cX11_rests 50 = .ok (.ireturn, 1) := by decide +kernel
theorem dX11_rests_51 : decode cX11_rests 51 = .ok (.iload_n 2, 1) := by decide +kernel
theorem dX11_rests_52 : decode cX11_rests 52 = .ok (.ifCond .ne 8, 3) := by decide +kernel
theorem dX11_rests_55 : decode cX11_rests 55 = .ok (.ldc 205, 2) := by decide +kernel
theorem dX11_rests_57 : decode cX11_rests 57 = .ok (.goto 21, 3) := by decide +kernel
theorem dX11_rests_60 : decode cX11_rests 60 = .ok (.aload_n 0, 1) := by decide +kernel
theorem dX11_rests_61 : decode cX11_rests 61 = .ok (.getfield 40, 3) := by decide +kernel
theorem dX11_rests_64 : decode cX11_rests 64 = .ok (.getfield 248, 3) := by decide +kernel
theorem dX11_rests_67 : decode cX11_rests 67 = .ok (.iload_n 1, 1) := by decide +kernel
theorem dX11_rests_68 : decode cX11_rests 68 = .ok (.aload_n 0, 1) := by decide +kernel
theorem dX11_rests_69 : decode cX11_rests 69 = .ok (.getfield 26, 3) := by decide +kernel
theorem dX11_rests_72 : decode cX11_rests 72 = .ok (.getfield 241, 3) := by decide +kernel
theorem dX11_rests_75 : decode cX11_rests 75 = .ok (.invokestatic 251, 3) := by decide +kernel
theorem dX11_rests_78 : decode cX11_rests 78 = .ok (.ireturn, 1) := by decide +kernel
theorem dX11_worth_0 : decode cX11_worth 0 = .ok (.aload_n 0, 1) := by decide +kernel
theorem dX11_worth_1 : decode cX11_worth 1 = .ok (.getfield 26, 3) := by decide +kernel
theorem dX11_worth_4 : decode cX11_worth 4 = .ok (.iload_n 1, 1) := by decide +kernel
theorem dX11_worth_5 : decode cX11_worth 5 = .ok (.invokevirtual 153, 3) := by decide +kernel
theorem dX11_worth_8 : decode cX11_worth 8 = .ok (.astore 4, 2) := by decide +kernel
theorem dX11_worth_10 : decode cX11_worth 10 = .ok (.aload 4, 2) := by decide +kernel
theorem dX11_worth_12 : decode cX11_worth 12 = .ok (.ifnull 13, 3) := by decide +kernel
theorem dX11_worth_15 : decode cX11_worth 15 = .ok (.iload_n 2, 1) := by decide +kernel
theorem dX11_worth_16 : decode cX11_worth 16 = .ok (.iconst 1, 1) := by decide +kernel
theorem dX11_worth_17 : decode cX11_worth 17 = .ok (.if_icmp .lt 8, 3) := by decide +kernel
theorem dX11_worth_20 : decode cX11_worth 20 = .ok (.iload_n 2, 1) := by decide +kernel
theorem dX11_worth_21 : decode cX11_worth 21 = .ok (.iconst 3, 1) := by decide +kernel
theorem dX11_worth_22 : decode cX11_worth 22 = .ok (.if_icmp .le 7, 3) := by decide +kernel
theorem dX11_worth_25 : decode cX11_worth 25 = .ok (.ldc2_w 211, 3) := by decide +kernel
theorem dX11_worth_28 : decode cX11_worth 28 = .ok (.lreturn, 1) := by decide +kernel
theorem dX11_worth_29 : decode cX11_worth 29 = .ok (.aload 4, 2) := by decide +kernel
theorem dX11_worth_31 : decode cX11_worth 31 = .ok (.iload_n 2, 1) := by decide +kernel
theorem dX11_worth_32 : decode cX11_worth 32 = .ok (.invokevirtual 254, 3) := by decide +kernel
theorem dX11_worth_35 : decode cX11_worth 35 = .ok (.ldc2_w 258, 3) := by decide +kernel
theorem dX11_worth_38 : decode cX11_worth 38 = .ok (.iload_n 3, 1) := by decide +kernel
theorem dX11_worth_39 : decode cX11_worth 39 = .ok (.invokestatic 226, 3) := by decide +kernel
theorem dX11_worth_42 : decode cX11_worth 42 = .ok (.lreturn, 1) := by decide +kernel
theorem dX11_knows_0 : decode cX11_knows 0 = .ok (.aload_n 0, 1) := by decide +kernel
theorem dX11_knows_1 : decode cX11_knows 1 = .ok (.getfield 26, 3) := by decide +kernel
theorem dX11_knows_4 : decode cX11_knows 4 = .ok (.iload_n 1, 1) := by decide +kernel
theorem dX11_knows_5 : decode cX11_knows 5 = .ok (.invokevirtual 153, 3) := by decide +kernel
theorem dX11_knows_8 : decode cX11_knows 8 = .ok (.astore 5, 2) := by decide +kernel
theorem dX11_knows_10 : decode cX11_knows 10 = .ok (.aload 5, 2) := by decide +kernel
theorem dX11_knows_12 : decode cX11_knows 12 = .ok (.ifnull 22, 3) := by decide +kernel
theorem dX11_knows_15 : decode cX11_knows 15 = .ok (.iload_n 2, 1) := by decide +kernel
theorem dX11_knows_16 : decode cX11_knows 16 = .ok (.ifCond .lt 18, 3) := by decide +kernel
theorem dX11_knows_19 : decode cX11_knows 19 = .ok (.iload_n 2, 1) := by decide +kernel
theorem dX11_knows_20 : decode cX11_knows 20 = .ok (.bipush 10, 2) := by decide +kernel
theorem dX11_knows_22 : decode cX11_knows 22 = .ok (.if_icmp .gt 12, 3) := by decide +kernel
theorem dX11_knows_25 : decode cX11_knows 25 = .ok (.iload_n 3, 1) := by decide +kernel
theorem dX11_knows_26 : decode cX11_knows 26 = .ok (.ifCond .lt 8, 3) := by decide +kernel
theorem dX11_knows_29 : decode cX11_knows 29 = .ok (.iload_n 3, 1) := by decide +kernel
theorem dX11_knows_30 : decode cX11_knows 30 = .ok (.iconst 1, 1) := by decide +kernel
theorem dX11_knows_31 : decode cX11_knows 31 = .ok (.if_icmp .le 7, 3) := by decide +kernel
theorem dX11_knows_34 : decode cX11_knows 34 = .ok (.ldc2_w 211, 3) := by decide +kernel
theorem dX11_knows_37 : decode cX11_knows 37 = .ok (.lreturn, 1) := by decide +kernel
theorem dX11_knows_38 : decode cX11_knows 38 = .ok (.iload_n 2, 1) := by decide +kernel
theorem dX11_knows_39 : decode cX11_knows 39 = .ok (.aload 5, 2) := by decide +kernel
theorem dX11_knows_41 : decode cX11_knows 41 = .ok (.iconst 1, 1) := by decide +kernel
theorem dX11_knows_42 : decode cX11_knows 42 = .ok (.iload_n 3, 1) := by decide +kernel
theorem dX11_knows_43 : decode cX11_knows 43 = .ok (.iconst 1, 1) := by decide +kernel
theorem dX11_knows_44 : decode cX11_knows 44 = .ok (.if_icmp .ne 7, 3) := by decide +kernel
theorem dX11_knows_47 : decode cX11_knows 47 = .ok (.iconst 1, 1) := by decide +kernel
theorem dX11_knows_48 : decode cX11_knows 48 = .ok (.goto 4, 3) := by decide +kernel
theorem dX11_knows_51 : decode cX11_knows 51 = .ok (.iconst 0, 1) := by decide +kernel
theorem dX11_knows_52 : decode cX11_knows 52 = .ok (.invokevirtual 260, 3) := by decide +kernel
theorem dX11_knows_55 : decode cX11_knows 55 = .ok (.imul, 1) := by decide +kernel
theorem dX11_knows_56 : decode cX11_knows 56 = .ok (.i2l, 1) := by decide +kernel
theorem dX11_knows_57 : decode cX11_knows 57 = .ok (.lstore 6, 2) := by decide +kernel
theorem dX11_knows_59 : decode cX11_knows 59 = .ok (.lload 6, 2) := by decide +kernel
theorem dX11_knows_61 : decode cX11_knows 61 = .ok (.bipush 10, 2) := by decide +kernel
theorem dX11_knows_63 : decode cX11_knows 63 = .ok (.iload_n 2, 1) := by decide +kernel
theorem dX11_knows_64 : decode cX11_knows 64 = .ok (.isub, 1) := by decide +kernel
theorem dX11_knows_65 : decode cX11_knows 65 = .ok (.aload 5, 2) := by decide +kernel
theorem dX11_knows_67 : decode cX11_knows 67 = .ok (.iconst 0, 1) := by decide +kernel
theorem dX11_knows_68 : decode cX11_knows 68 = .ok (.iload_n 3, 1) := by decide +kernel
theorem dX11_knows_69 : decode cX11_knows 69 = .ok (.iconst 1, 1) := by decide +kernel
theorem dX11_knows_70 : decode cX11_knows 70 = .ok (.if_icmp .ne 7, 3) := by decide +kernel
theorem dX11_knows_73 : decode cX11_knows 73 = .ok (.iconst 1, 1) := by decide +kernel
theorem dX11_knows_74 : decode cX11_knows 74 = .ok (.goto 4, 3) := by decide +kernel
theorem dX11_knows_77 : decode cX11_knows 77 = .ok (.iconst 0, 1) := by decide +kernel
theorem dX11_knows_78 : decode cX11_knows 78 = .ok (.invokevirtual 260, 3) := by decide +kernel
theorem dX11_knows_81 : decode cX11_knows 81 = .ok (.imul, 1) := by decide +kernel
theorem dX11_knows_82 : decode cX11_knows 82 = .ok (.i2l, 1) := by decide +kernel
theorem dX11_knows_83 : decode cX11_knows 83 = .ok (.ladd, 1) := by decide +kernel
theorem dX11_knows_84 : decode cX11_knows 84 = .ok (.lstore 8, 2) := by decide +kernel
theorem dX11_knows_86 : decode cX11_knows 86 = .ok (.lload 8, 2) := by decide +kernel
theorem dX11_knows_88 : decode cX11_knows 88 = .ok (.lconst 0, 1) := by decide +kernel
theorem dX11_knows_89 : decode cX11_knows 89 = .ok (.lcmp, 1) := by decide +kernel
theorem dX11_knows_90 : decode cX11_knows 90 = .ok (.ifCond .ne 9, 3) := by decide +kernel
theorem dX11_knows_93 : decode cX11_knows 93 = .ok (.ldc2_w 264, 3) := by decide +kernel
theorem dX11_knows_96 : decode cX11_knows 96 = .ok (.goto 12, 3) := by decide +kernel
theorem dX11_knows_99 : decode cX11_knows 99 = .ok (.lload 6, 2) := by decide +kernel
theorem dX11_knows_101 : decode cX11_knows 101 = .ok (.lload 8, 2) := by decide +kernel
theorem dX11_knows_103 : decode cX11_knows 103 = .ok (.iload 4, 2) := by decide +kernel
theorem dX11_knows_105 : decode cX11_knows 105 = .ok (.invokestatic 226, 3) := by decide +kernel
theorem dX11_knows_108 : decode cX11_knows 108 = .ok (.lreturn, 1) := by decide +kernel
theorem dX11_often_0 : decode cX11_often 0 = .ok (.aload_n 0, 1) := by decide +kernel
theorem dX11_often_1 : decode cX11_often 1 = .ok (.getfield 26, 3) := by decide +kernel
theorem dX11_often_4 : decode cX11_often 4 = .ok (.getfield 126, 3) := by decide +kernel
theorem dX11_often_7 : decode cX11_often 7 = .ok (.ifCond .ne 6, 3) := by decide +kernel
theorem dX11_often_10 : decode cX11_often 10 = .ok (.ldc 130, 2) := by decide +kernel
theorem dX11_often_12 : decode cX11_often 12 = .ok (.ireturn, 1) := by decide +kernel
theorem dX11_often_13 : decode cX11_often 13 = .ok (.iload_n 1, 1) := by decide +kernel
theorem dX11_often_14 : decode cX11_often 14 = .ok (.invokestatic 55, 3) := by decide +kernel
theorem dX11_often_17 : decode cX11_often 17 = .ok (.ifCond .eq 32, 3) := by decide +kernel
theorem dX11_often_20 : decode cX11_often 20 = .ok (.iload_n 3, 1) := by decide +kernel
theorem dX11_often_21 : decode cX11_often 21 = .ok (.ifCond .lt 28, 3) := by decide +kernel
theorem dX11_often_24 : decode cX11_often 24 = .ok (.iload_n 3, 1) := by decide +kernel
theorem dX11_often_25 : decode cX11_often 25 = .ok (.bipush 10, 2) := by decide +kernel
theorem dX11_often_27 : decode cX11_often 27 = .ok (.if_icmp .gt 22, 3) := by decide +kernel
theorem dX11_often_30 : decode cX11_often 30 = .ok (.iload 4, 2) := by decide +kernel
theorem dX11_often_32 : decode cX11_often 32 = .ok (.ifCond .lt 17, 3) := by decide +kernel
theorem dX11_often_35 : decode cX11_often 35 = .ok (.iload 4, 2) := by decide +kernel
theorem dX11_often_37 : decode cX11_often 37 = .ok (.iconst 1, 1) := by decide +kernel
theorem dX11_often_38 : decode cX11_often 38 = .ok (.aload_n 0, 1) := by decide +kernel
theorem dX11_often_39 : decode cX11_often 39 = .ok (.getfield 26, 3) := by decide +kernel
theorem dX11_often_42 : decode cX11_often 42 = .ok (.getfield 241, 3) := by decide +kernel
theorem dX11_often_45 : decode cX11_often 45 = .ok (.ishl, 1) := by decide +kernel
theorem dX11_often_46 : decode cX11_often 46 = .ok (.if_icmp .lt 6, 3) := by decide +kernel
theorem dX11_often_49 : decode cX11_often 49 = .ok (.ldc 59, 2) := by decide +kernel
theorem dX11_often_51 : decode cX11_often 51 = .ok (.ireturn, 1) := by decide +kernel
theorem dX11_often_52 : decode cX11_often 52 = .ok (.aload_n 0, 1) := by decide +kernel
theorem dX11_often_53 : decode cX11_often 53 = .ok (.getfield 10, 3) := by decide +kernel
theorem dX11_often_56 : decode cX11_often 56 = .ok (.iload_n 1, 1) := by decide +kernel
theorem dX11_often_57 : decode cX11_often 57 = .ok (.invokevirtual 71, 3) := by decide +kernel
theorem dX11_often_60 : decode cX11_often 60 = .ok (.ifCond .eq 9, 3) := by decide +kernel
theorem dX11_often_63 : decode cX11_often 63 = .ok (.aload_n 0, 1) := by decide +kernel
theorem dX11_often_64 : decode cX11_often 64 = .ok (.iconst 1, 1) := by decide +kernel
theorem dX11_often_65 : decode cX11_often 65 = .ok (.invokevirtual 60, 3) := by decide +kernel
theorem dX11_often_68 : decode cX11_often 68 = .ok (.ireturn, 1) := by decide +kernel
theorem dX11_often_69 : decode cX11_often 69 = .ok (.aload_n 0, 1) := by decide +kernel
theorem dX11_often_70 : decode cX11_often 70 = .ok (.getfield 10, 3) := by decide +kernel
theorem dX11_often_73 : decode cX11_often 73 = .ok (.iload_n 1, 1) := by decide +kernel
theorem dX11_often_74 : decode cX11_often 74 = .ok (.iload_n 2, 1) := by decide +kernel
theorem dX11_often_75 : decode cX11_often 75 = .ok (.iload_n 3, 1) := by decide +kernel
theorem dX11_often_76 : decode cX11_often 76 = .ok (.invokevirtual 74, 3) := by decide +kernel
theorem dX11_often_79 : decode cX11_often 79 = .ok (.ifCond .ne 9, 3) := by decide +kernel
theorem dX11_often_82 : decode cX11_often 82 = .ok (.aload_n 0, 1) := by decide +kernel
theorem dX11_often_83 : decode cX11_often 83 = .ok (.iconst 2, 1) := by decide +kernel
theorem dX11_often_84 : decode cX11_often 84 = .ok (.invokevirtual 60, 3) := by decide +kernel
theorem dX11_often_87 : decode cX11_often 87 = .ok (.ireturn, 1) := by decide +kernel
theorem dX11_often_88 : decode cX11_often 88 = .ok (.iconst 0, 1) := by decide +kernel
theorem dX11_often_89 : decode cX11_often 89 = .ok (.istore 5, 2) := by decide +kernel
theorem dX11_often_91 : decode cX11_often 91 = .ok (.iload_n 2, 1) := by decide +kernel
theorem dX11_often_92 : decode cX11_often 92 = .ok (.istore 6, 2) := by decide +kernel
theorem dX11_often_94 : decode cX11_often 94 = .ok (.iload 6, 2) := by decide +kernel
theorem dX11_often_96 : decode cX11_often 96 = .ok (.iload_n 2, 1) := by decide +kernel
theorem dX11_often_97 : decode cX11_often 97 = .ok (.iload_n 3, 1) := by decide +kernel
theorem dX11_often_98 : decode cX11_often 98 = .ok (.iadd, 1) := by decide +kernel
theorem dX11_often_99 : decode cX11_often 99 = .ok (.if_icmp .ge 45, 3) := by decide +kernel
theorem dX11_often_102 : decode cX11_often 102 = .ok (.aload_n 0, 1) := by decide +kernel
theorem dX11_often_103 : decode cX11_often 103 = .ok (.getfield 10, 3) := by decide +kernel
theorem dX11_often_106 : decode cX11_often 106 = .ok (.iload_n 1, 1) := by decide +kernel
theorem dX11_often_107 : decode cX11_often 107 = .ok (.iload 6, 2) := by decide +kernel
theorem dX11_often_109 : decode cX11_often 109 = .ok (.invokevirtual 266, 3) := by decide +kernel
theorem dX11_often_112 : decode cX11_often 112 = .ok (.istore 7, 2) := by decide +kernel
theorem dX11_often_114 : decode cX11_often 114 = .ok (.iload 7, 2) := by decide +kernel
theorem dX11_often_116 : decode cX11_often 116 = .ok (.iconst 1, 1) := by decide +kernel
theorem dX11_often_117 : decode cX11_often 117 = .ok (.if_icmp .lt 9, 3) := by decide +kernel
theorem dX11_often_120 : decode cX11_often 120 = .ok (.iload 7, 2) := by decide +kernel
theorem dX11_often_122 : decode cX11_often 122 = .ok (.iconst 4, 1) := by decide +kernel
theorem dX11_often_123 : decode cX11_often 123 = .ok (.if_icmp .le 6, 3) := by decide +kernel
theorem dX11_often_126 : decode cX11_often 126 = .ok (.ldc 59, 2) := by decide +kernel
theorem dX11_often_128 : decode cX11_often 128 = .ok (.ireturn, 1) := by decide +kernel
theorem dX11_often_129 : decode cX11_often 129 = .ok (.iload 5, 2) := by decide +kernel
theorem dX11_often_131 : decode cX11_often 131 = .ok (.iload 7, 2) := by decide +kernel
theorem dX11_often_133 : decode cX11_often 133 = .ok (.iconst 1, 1) := by decide +kernel
theorem dX11_often_134 : decode cX11_often 134 = .ok (.isub, 1) := by decide +kernel
theorem dX11_often_135 : decode cX11_often 135 = .ok (.iadd, 1) := by decide +kernel
theorem dX11_often_136 : decode cX11_often 136 = .ok (.istore 5, 2) := by decide +kernel
theorem dX11_often_138 : decode cX11_often 138 = .ok (.iinc 6 1, 3) := by decide +kernel
theorem dX11_often_141 : decode cX11_often 141 = .ok (.goto (-47), 3) := by decide +kernel
theorem dX11_often_144 : decode cX11_often 144 = .ok (.aload_n 0, 1) := by decide +kernel
theorem dX11_often_145 : decode cX11_often 145 = .ok (.aload_n 0, 1) := by decide +kernel
theorem dX11_often_146 : decode cX11_often 146 = .ok (.getfield 26, 3) := by decide +kernel
theorem dX11_often_149 : decode cX11_often 149 = .ok (.aload_n 0, 1) := by decide +kernel
theorem dX11_often_150 : decode cX11_often 150 = .ok (.getfield 26, 3) := by decide +kernel
theorem dX11_often_153 : decode cX11_often 153 = .ok (.getfield 157, 3) := by decide +kernel
theorem dX11_often_156 : decode cX11_often 156 = .ok (.iload 4, 2) := by decide +kernel
theorem dX11_often_158 : decode cX11_often 158 = .ok (.iconst (-1), 1) := by decide +kernel
theorem dX11_often_159 : decode cX11_often 159 = .ok (.ixor, 1) := by decide +kernel
theorem dX11_often_160 : decode cX11_often 160 = .ok (.iand, 1) := by decide +kernel
theorem dX11_often_161 : decode cX11_often 161 = .ok (.invokevirtual 269, 3) := by decide +kernel
theorem dX11_often_164 : decode cX11_often 164 = .ok (.iload 5, 2) := by decide +kernel
theorem dX11_often_166 : decode cX11_often 166 = .ok (.invokestatic 272, 3) := by decide +kernel
theorem dX11_often_169 : decode cX11_often 169 = .ok (.invokevirtual 68, 3) := by decide +kernel
theorem dX11_often_172 : decode cX11_often 172 = .ok (.ireturn, 1) := by decide +kernel
theorem dX11_gone_0 : decode cX11_gone 0 = .ok (.aload_n 0, 1) := by decide +kernel
theorem dX11_gone_1 : decode cX11_gone 1 = .ok (.getfield 26, 3) := by decide +kernel
theorem dX11_gone_4 : decode cX11_gone 4 = .ok (.getfield 126, 3) := by decide +kernel
theorem dX11_gone_7 : decode cX11_gone 7 = .ok (.ifCond .ne 6, 3) := by decide +kernel
theorem dX11_gone_10 : decode cX11_gone 10 = .ok (.ldc 130, 2) := by decide +kernel
theorem dX11_gone_12 : decode cX11_gone 12 = .ok (.ireturn, 1) := by decide +kernel
theorem dX11_gone_13 : decode cX11_gone 13 = .ok (.iload_n 1, 1) := by decide +kernel
theorem dX11_gone_14 : decode cX11_gone 14 = .ok (.invokestatic 55, 3) := by decide +kernel
theorem dX11_gone_17 : decode cX11_gone 17 = .ok (.ifCond .eq 40, 3) := by decide +kernel
theorem dX11_gone_20 : decode cX11_gone 20 = .ok (.iload_n 2, 1) := by decide +kernel
theorem dX11_gone_21 : decode cX11_gone 21 = .ok (.iconst 1, 1) := by decide +kernel
theorem dX11_gone_22 : decode cX11_gone 22 = .ok (.if_icmp .lt 35, 3) := by decide +kernel
theorem dX11_gone_25 : decode cX11_gone 25 = .ok (.iload_n 2, 1) := by decide +kernel
theorem dX11_gone_26 : decode cX11_gone 26 = .ok (.bipush 20, 2) := by decide +kernel
theorem dX11_gone_28 : decode cX11_gone 28 = .ok (.if_icmp .gt 29, 3) := by decide +kernel
theorem dX11_gone_31 : decode cX11_gone 31 = .ok (.iload_n 3, 1) := by decide +kernel
theorem dX11_gone_32 : decode cX11_gone 32 = .ok (.invokestatic 131, 3) := by decide +kernel
theorem dX11_gone_35 : decode cX11_gone 35 = .ok (.ifCond .eq 22, 3) := by decide +kernel
theorem dX11_gone_38 : decode cX11_gone 38 = .ok (.iload 4, 2) := by decide +kernel
theorem dX11_gone_40 : decode cX11_gone 40 = .ok (.bipush (-2), 2) := by decide +kernel
theorem dX11_gone_42 : decode cX11_gone 42 = .ok (.if_icmp .lt 15, 3) := by decide +kernel
theorem dX11_gone_45 : decode cX11_gone 45 = .ok (.iload 4, 2) := by decide +kernel
theorem dX11_gone_47 : decode cX11_gone 47 = .ok (.aload_n 0, 1) := by decide +kernel
theorem dX11_gone_48 : decode cX11_gone 48 = .ok (.getfield 26, 3) := by decide +kernel
theorem dX11_gone_51 : decode cX11_gone 51 = .ok (.getfield 241, 3) := by decide +kernel
theorem dX11_gone_54 : decode cX11_gone 54 = .ok (.if_icmp .lt 6, 3) := by decide +kernel
theorem dX11_gone_57 : decode cX11_gone 57 = .ok (.ldc 59, 2) := by decide +kernel
theorem dX11_gone_59 : decode cX11_gone 59 = .ok (.ireturn, 1) := by decide +kernel
theorem dX11_gone_60 : decode cX11_gone 60 = .ok (.aload_n 0, 1) := by decide +kernel
theorem dX11_gone_61 : decode cX11_gone 61 = .ok (.iload_n 1, 1) := by decide +kernel
theorem dX11_gone_62 : decode cX11_gone 62 = .ok (.invokevirtual 213, 3) := by decide +kernel
theorem dX11_gone_65 : decode cX11_gone 65 = .ok (.istore 5, 2) := by decide +kernel
theorem dX11_gone_67 : decode cX11_gone 67 = .ok (.iload 5, 2) := by decide +kernel
theorem dX11_gone_69 : decode cX11_gone 69 = .ok (.ifCond .eq 6, 3) := by decide +kernel
theorem dX11_gone_72 : decode cX11_gone 72 = .ok (.iload 5, 2) := by decide +kernel
theorem dX11_gone_74 : decode cX11_gone 74 = .ok (.ireturn, 1) := by decide +kernel
theorem dX11_gone_75 : decode cX11_gone 75 = .ok (.aload_n 0, 1) := by decide +kernel
theorem dX11_gone_76 : decode cX11_gone 76 = .ok (.getfield 30, 3) := by decide +kernel
theorem dX11_gone_79 : decode cX11_gone 79 = .ok (.aload_n 0, 1) := by decide +kernel
theorem dX11_gone_80 : decode cX11_gone 80 = .ok (.getfield 26, 3) := by decide +kernel
theorem dX11_gone_83 : decode cX11_gone 83 = .ok (.invokevirtual 275, 3) := by decide +kernel
theorem dX11_gone_86 : decode cX11_gone 86 = .ok (.aload_n 0, 1) := by decide +kernel
theorem dX11_gone_87 : decode cX11_gone 87 = .ok (.getfield 30, 3) := by decide +kernel
theorem dX11_gone_90 : decode cX11_gone 90 = .ok (.aload_n 0, 1) := by decide +kernel
theorem dX11_gone_91 : decode cX11_gone 91 = .ok (.getfield 40, 3) := by decide +kernel
theorem dX11_gone_94 : decode cX11_gone 94 = .ok (.getfield 278, 3) := by decide +kernel
theorem dX11_gone_97 : decode cX11_gone 97 = .ok (.iload_n 2, 1) := by decide +kernel
theorem dX11_gone_98 : decode cX11_gone 98 = .ok (.iload_n 3, 1) := by decide +kernel
theorem dX11_gone_99 : decode cX11_gone 99 = .ok (.invokevirtual 281, 3) := by decide +kernel
theorem dX11_gone_102 : decode cX11_gone 102 = .ok (.istore 6, 2) := by decide +kernel
theorem dX11_gone_104 : decode cX11_gone 104 = .ok (.iload 4, 2) := by decide +kernel
theorem dX11_gone_106 : decode cX11_gone 106 = .ok (.iconst (-1), 1) := by decide +kernel
theorem dX11_gone_107 : decode cX11_gone 107 = .ok (.if_icmp .ne 6, 3) := by decide +kernel
theorem dX11_gone_110 : decode cX11_gone 110 = .ok (.iload 6, 2) := by decide +kernel
theorem dX11_gone_112 : decode cX11_gone 112 = .ok (.ireturn, 1) := by decide +kernel
theorem dX11_gone_113 : decode cX11_gone 113 = .ok (.iload 4, 2) := by decide +kernel
theorem dX11_gone_115 : decode cX11_gone 115 = .ok (.bipush (-2), 2) := by decide +kernel
theorem dX11_gone_117 : decode cX11_gone 117 = .ok (.if_icmp .ne 13, 3) := by decide +kernel
theorem dX11_gone_120 : decode cX11_gone 120 = .ok (.aload_n 0, 1) := by decide +kernel
theorem dX11_gone_121 : decode cX11_gone 121 = .ok (.getfield 30, 3) := by decide +kernel
theorem dX11_gone_124 : decode cX11_gone 124 = .ok (.getfield 157, 3) := by decide +kernel
theorem dX11_gone_127 : decode cX11_gone 127 = .ok (.goto 13, 3) := by decide +kernel
theorem dX11_gone_130 : decode cX11_gone 130 = .ok (.aload_n 0, 1) := by decide +kernel
theorem dX11_gone_131 : decode cX11_gone 131 = .ok (.getfield 30, 3) := by decide +kernel
theorem dX11_gone_134 : decode cX11_gone 134 = .ok (.getfield 202, 3) := by decide +kernel
theorem dX11_gone_137 : decode cX11_gone 137 = .ok (.iload 4, 2) := by decide +kernel
theorem dX11_gone_139 : decode cX11_gone 139 = .ok (.iaload, 1) := by decide +kernel
theorem dX11_gone_140 : decode cX11_gone 140 = .ok (.ireturn, 1) := by decide +kernel
theorem dX11_image_0 : decode cX11_image 0 = .ok (.aload_n 0, 1) := by decide +kernel
theorem dX11_image_1 : decode cX11_image 1 = .ok (.iload_n 1, 1) := by decide +kernel
theorem dX11_image_2 : decode cX11_image 2 = .ok (.invokevirtual 285, 3) := by decide +kernel
theorem dX11_image_5 : decode cX11_image 5 = .ok (.astore_n 2, 1) := by decide +kernel
theorem dX11_image_6 : decode cX11_image 6 = .ok (.aload_n 2, 1) := by decide +kernel
theorem dX11_image_7 : decode cX11_image 7 = .ok (.ifnonnull 6, 3) := by decide +kernel
theorem dX11_image_10 : decode cX11_image 10 = .ok (.ldc 59, 2) := by decide +kernel
theorem dX11_image_12 : decode cX11_image 12 = .ok (.ireturn, 1) := by decide +kernel
theorem dX11_image_13 : decode cX11_image 13 = .ok (.aload_n 0, 1) := by decide +kernel
theorem dX11_image_14 : decode cX11_image 14 = .ok (.getfield 26, 3) := by decide +kernel
theorem dX11_image_17 : decode cX11_image 17 = .ok (.getfield 126, 3) := by decide +kernel
theorem dX11_image_20 : decode cX11_image 20 = .ok (.ifCond .ne 6, 3) := by decide +kernel
theorem dX11_image_23 : decode cX11_image 23 = .ok (.ldc 130, 2) := by decide +kernel
theorem dX11_image_25 : decode cX11_image 25 = .ok (.ireturn, 1) := by decide +kernel
theorem dX11_image_26 : decode cX11_image 26 = .ok (.aload_n 2, 1) := by decide +kernel
theorem dX11_image_27 : decode cX11_image 27 = .ok (.aload_n 0, 1) := by decide +kernel
theorem dX11_image_28 : decode cX11_image 28 = .ok (.getfield 26, 3) := by decide +kernel
theorem dX11_image_31 : decode cX11_image 31 = .ok (.invokevirtual 275, 3) := by decide +kernel
theorem dX11_image_34 : decode cX11_image 34 = .ok (.iconst 1, 1) := by decide +kernel
theorem dX11_image_35 : decode cX11_image 35 = .ok (.ireturn, 1) := by decide +kernel
theorem dX11_restore_0 : decode cX11_restore 0 = .ok (.aload_n 0, 1) := by decide +kernel
theorem dX11_restore_1 : decode cX11_restore 1 = .ok (.iload_n 1, 1) := by decide +kernel
theorem dX11_restore_2 : decode cX11_restore 2 = .ok (.invokevirtual 285, 3) := by decide +kernel
theorem dX11_restore_5 : decode cX11_restore 5 = .ok (.astore_n 2, 1) := by decide +kernel
theorem dX11_restore_6 : decode cX11_restore 6 = .ok (.aload_n 2, 1) := by decide +kernel
theorem dX11_restore_7 : decode cX11_restore 7 = .ok (.ifnonnull 6, 3) := by decide +kernel
theorem dX11_restore_10 : decode cX11_restore 10 = .ok (.ldc 59, 2) := by decide +kernel
theorem dX11_restore_12 : decode cX11_restore 12 = .ok (.ireturn, 1) := by decide +kernel
theorem dX11_restore_13 : decode cX11_restore 13 = .ok (.aload_n 2, 1) := by decide +kernel
theorem dX11_restore_14 : decode cX11_restore 14 = .ok (.getfield 126, 3) := by decide +kernel
theorem dX11_restore_17 : decode cX11_restore 17 = .ok (.ifCond .ne 6, 3) := by decide +kernel
theorem dX11_restore_20 : decode cX11_restore 20 = .ok (.ldc 130, 2) := by decide +kernel
theorem dX11_restore_22 : decode cX11_restore 22 = .ok (.ireturn, 1) := by decide +kernel
theorem dX11_restore_23 : decode cX11_restore 23 = .ok (.aload_n 0, 1) := by decide +kernel
theorem dX11_restore_24 : decode cX11_restore 24 = .ok (.getfield 26, 3) := by decide +kernel
theorem dX11_restore_27 : decode cX11_restore 27 = .ok (.aload_n 2, 1) := by decide +kernel
theorem dX11_restore_28 : decode cX11_restore 28 = .ok (.invokevirtual 275, 3) := by decide +kernel
theorem dX11_restore_31 : decode cX11_restore 31 = .ok (.aload_n 0, 1) := by decide +kernel
theorem dX11_restore_32 : decode cX11_restore 32 = .ok (.invokevirtual 123, 3) := by decide +kernel
theorem dX11_restore_35 : decode cX11_restore 35 = .ok (.iconst 1, 1) := by decide +kernel
theorem dX11_restore_36 : decode cX11_restore 36 = .ok (.ireturn, 1) := by decide +kernel
theorem dX11_kind_0 : decode cX11_kind 0 = .ok (.aload_n 0, 1) := by decide +kernel
theorem dX11_kind_1 : decode cX11_kind 1 = .ok (.getfield 26, 3) := by decide +kernel
theorem dX11_kind_4 : decode cX11_kind 4 = .ok (.iload_n 1, 1) := by decide +kernel
theorem dX11_kind_5 : decode cX11_kind 5 = .ok (.invokevirtual 153, 3) := by decide +kernel
theorem dX11_kind_8 : decode cX11_kind 8 = .ok (.astore_n 2, 1) := by decide +kernel
theorem dX11_kind_9 : decode cX11_kind 9 = .ok (.aload_n 2, 1) := by decide +kernel
theorem dX11_kind_10 : decode cX11_kind 10 = .ok (.ifnonnull 8, 3) := by decide +kernel
theorem dX11_kind_13 : decode cX11_kind 13 = .ok (.ldc 59, 2) := by decide +kernel
theorem dX11_kind_15 : decode cX11_kind 15 = .ok (.goto 7, 3) := by decide +kernel
theorem dX11_kind_18 : decode cX11_kind 18 = .ok (.aload_n 2, 1) := by decide +kernel
theorem dX11_kind_19 : decode cX11_kind 19 = .ok (.invokevirtual 289, 3) := by decide +kernel
theorem dX11_kind_22 : decode cX11_kind 22 = .ok (.ireturn, 1) := by decide +kernel
theorem dX11_as_0 : decode cX11_as 0 = .ok (.aload_n 0, 1) := by decide +kernel
theorem dX11_as_1 : decode cX11_as 1 = .ok (.getfield 26, 3) := by decide +kernel
theorem dX11_as_4 : decode cX11_as 4 = .ok (.iload_n 1, 1) := by decide +kernel
theorem dX11_as_5 : decode cX11_as 5 = .ok (.invokevirtual 153, 3) := by decide +kernel
theorem dX11_as_8 : decode cX11_as 8 = .ok (.astore_n 3, 1) := by decide +kernel
theorem dX11_as_9 : decode cX11_as 9 = .ok (.aload_n 3, 1) := by decide +kernel
theorem dX11_as_10 : decode cX11_as 10 = .ok (.ifnull 12, 3) := by decide +kernel
theorem dX11_as_13 : decode cX11_as 13 = .ok (.iload_n 2, 1) := by decide +kernel
theorem dX11_as_14 : decode cX11_as 14 = .ok (.ifCond .lt 8, 3) := by decide +kernel
theorem dX11_as_17 : decode cX11_as 17 = .ok (.iload_n 2, 1) := by decide +kernel
theorem dX11_as_18 : decode cX11_as 18 = .ok (.iconst 5, 1) := by decide +kernel
theorem dX11_as_19 : decode cX11_as 19 = .ok (.if_icmp .le 6, 3) := by decide +kernel
theorem dX11_as_22 : decode cX11_as 22 = .ok (.ldc 59, 2) := by decide +kernel
theorem dX11_as_24 : decode cX11_as 24 = .ok (.ireturn, 1) := by decide +kernel
theorem dX11_as_25 : decode cX11_as 25 = .ok (.aload_n 3, 1) := by decide +kernel
theorem dX11_as_26 : decode cX11_as 26 = .ok (.iload_n 2, 1) := by decide +kernel
theorem dX11_as_27 : decode cX11_as 27 = .ok (.invokestatic 292, 3) := by decide +kernel
theorem dX11_as_30 : decode cX11_as 30 = .ok (.ifCond .eq 11, 3) := by decide +kernel
theorem dX11_as_33 : decode cX11_as 33 = .ok (.aload_n 0, 1) := by decide +kernel
theorem dX11_as_34 : decode cX11_as 34 = .ok (.iload_n 1, 1) := by decide +kernel
theorem dX11_as_35 : decode cX11_as 35 = .ok (.invokevirtual 68, 3) := by decide +kernel
theorem dX11_as_38 : decode cX11_as 38 = .ok (.goto 8, 3) := by decide +kernel
theorem dX11_as_41 : decode cX11_as 41 = .ok (.aload_n 0, 1) := by decide +kernel
theorem dX11_as_42 : decode cX11_as 42 = .ok (.iconst 3, 1) := by decide +kernel
theorem dX11_as_43 : decode cX11_as 43 = .ok (.invokevirtual 60, 3) := by decide +kernel
theorem dX11_as_46 : decode cX11_as 46 = .ok (.ireturn, 1) := by decide +kernel
theorem dX11_ask_0 : decode cX11_ask 0 = .ok (.aload_n 0, 1) := by decide +kernel
theorem dX11_ask_1 : decode cX11_ask 1 = .ok (.getfield 26, 3) := by decide +kernel
theorem dX11_ask_4 : decode cX11_ask 4 = .ok (.iload_n 1, 1) := by decide +kernel
theorem dX11_ask_5 : decode cX11_ask 5 = .ok (.invokevirtual 153, 3) := by decide +kernel
theorem dX11_ask_8 : decode cX11_ask 8 = .ok (.astore_n 3, 1) := by decide +kernel
theorem dX11_ask_9 : decode cX11_ask 9 = .ok (.aload_n 3, 1) := by decide +kernel
theorem dX11_ask_10 : decode cX11_ask 10 = .ok (.ifnull 12, 3) := by decide +kernel
theorem dX11_ask_13 : decode cX11_ask 13 = .ok (.iload_n 2, 1) := by decide +kernel
theorem dX11_ask_14 : decode cX11_ask 14 = .ok (.ifCond .lt 8, 3) := by decide +kernel
theorem dX11_ask_17 : decode cX11_ask 17 = .ok (.iload_n 2, 1) := by decide +kernel
theorem dX11_ask_18 : decode cX11_ask 18 = .ok (.iconst 1, 1) := by decide +kernel
theorem dX11_ask_19 : decode cX11_ask 19 = .ok (.if_icmp .le 6, 3) := by decide +kernel
theorem dX11_ask_22 : decode cX11_ask 22 = .ok (.ldc 59, 2) := by decide +kernel
theorem dX11_ask_24 : decode cX11_ask 24 = .ok (.ireturn, 1) := by decide +kernel
theorem dX11_ask_25 : decode cX11_ask 25 = .ok (.aload_n 0, 1) := by decide +kernel
theorem dX11_ask_26 : decode cX11_ask 26 = .ok (.getfield 47, 3) := by decide +kernel
theorem dX11_ask_29 : decode cX11_ask 29 = .ok (.aload_n 0, 1) := by decide +kernel
theorem dX11_ask_30 : decode cX11_ask 30 = .ok (.getfield 26, 3) := by decide +kernel
theorem dX11_ask_33 : decode cX11_ask 33 = .ok (.getfield 202, 3) := by decide +kernel
theorem dX11_ask_36 : decode cX11_ask 36 = .ok (.iload_n 1, 1) := by decide +kernel
theorem dX11_ask_37 : decode cX11_ask 37 = .ok (.iaload, 1) := by decide +kernel
theorem dX11_ask_38 : decode cX11_ask 38 = .ok (.aload_n 0, 1) := by decide +kernel
theorem dX11_ask_39 : decode cX11_ask 39 = .ok (.getfield 26, 3) := by decide +kernel
theorem dX11_ask_42 : decode cX11_ask 42 = .ok (.getfield 167, 3) := by decide +kernel
theorem dX11_ask_45 : decode cX11_ask 45 = .ok (.iload_n 1, 1) := by decide +kernel
theorem dX11_ask_46 : decode cX11_ask 46 = .ok (.iaload, 1) := by decide +kernel
theorem dX11_ask_47 : decode cX11_ask 47 = .ok (.invokevirtual 296, 3) := by decide +kernel
theorem dX11_ask_50 : decode cX11_ask 50 = .ok (.iload_n 2, 1) := by decide +kernel
theorem dX11_ask_51 : decode cX11_ask 51 = .ok (.ifCond .ne 14, 3) := by decide +kernel
theorem dX11_ask_54 : decode cX11_ask 54 = .ok (.aload_n 3, 1) := by decide +kernel
theorem dX11_ask_55 : decode cX11_ask 55 = .ok (.aload_n 0, 1) := by decide +kernel
theorem dX11_ask_56 : decode cX11_ask 56 = .ok (.getfield 47, 3) := by decide +kernel
theorem dX11_ask_59 : decode cX11_ask 59 = .ok (.invokevirtual 300, 3) := by decide +kernel
theorem dX11_ask_62 : decode cX11_ask 62 = .ok (.goto 11, 3) := by decide +kernel
theorem dX11_ask_65 : decode cX11_ask 65 = .ok (.aload_n 3, 1) := by decide +kernel
theorem dX11_ask_66 : decode cX11_ask 66 = .ok (.aload_n 0, 1) := by decide +kernel
theorem dX11_ask_67 : decode cX11_ask 67 = .ok (.getfield 47, 3) := by decide +kernel
theorem dX11_ask_70 : decode cX11_ask 70 = .ok (.invokevirtual 304, 3) := by decide +kernel
theorem dX11_ask_73 : decode cX11_ask 73 = .ok (.ireturn, 1) := by decide +kernel
theorem dX11_trace_0 : decode cX11_trace 0 = .ok (.aload_n 0, 1) := by decide +kernel
theorem dX11_trace_1 : decode cX11_trace 1 = .ok (.getfield 47, 3) := by decide +kernel
theorem dX11_trace_4 : decode cX11_trace 4 = .ok (.iload_n 1, 1) := by decide +kernel
theorem dX11_trace_5 : decode cX11_trace 5 = .ok (.invokevirtual 307, 3) := by decide +kernel
theorem dX11_trace_8 : decode cX11_trace 8 = .ok (.ireturn, 1) := by decide +kernel
theorem dX11_count_0 : decode cX11_count 0 = .ok (.iload_n 1, 1) := by decide +kernel
theorem dX11_count_1 : decode cX11_count 1 = .ok (.tableswitch 124 0 7 #[47, 55, 63, 71, 87, 95, 111, 116], 47) := by decide +kernel
theorem dX11_count_48 : decode cX11_count 48 = .ok (.aload_n 0, 1) := by decide +kernel
theorem dX11_count_49 : decode cX11_count 49 = .ok (.getfield 10, 3) := by decide +kernel
theorem dX11_count_52 : decode cX11_count 52 = .ok (.invokevirtual 310, 3) := by decide +kernel
theorem dX11_count_55 : decode cX11_count 55 = .ok (.ireturn, 1) := by decide +kernel
theorem dX11_count_56 : decode cX11_count 56 = .ok (.aload_n 0, 1) := by decide +kernel
theorem dX11_count_57 : decode cX11_count 57 = .ok (.getfield 26, 3) := by decide +kernel
theorem dX11_count_60 : decode cX11_count 60 = .ok (.getfield 241, 3) := by decide +kernel
theorem dX11_count_63 : decode cX11_count 63 = .ok (.ireturn, 1) := by decide +kernel
theorem dX11_count_64 : decode cX11_count 64 = .ok (.aload_n 0, 1) := by decide +kernel
theorem dX11_count_65 : decode cX11_count 65 = .ok (.getfield 26, 3) := by decide +kernel
theorem dX11_count_68 : decode cX11_count 68 = .ok (.getfield 147, 3) := by decide +kernel
theorem dX11_count_71 : decode cX11_count 71 = .ok (.ireturn, 1) := by decide +kernel
theorem dX11_count_72 : decode cX11_count 72 = .ok (.aload_n 0, 1) := by decide +kernel
theorem dX11_count_73 : decode cX11_count 73 = .ok (.getfield 26, 3) := by decide +kernel
theorem dX11_count_76 : decode cX11_count 76 = .ok (.getfield 144, 3) := by decide +kernel
theorem dX11_count_79 : decode cX11_count 79 = .ok (.aload_n 0, 1) := by decide +kernel
theorem dX11_count_80 : decode cX11_count 80 = .ok (.getfield 26, 3) := by decide +kernel
theorem dX11_count_83 : decode cX11_count 83 = .ok (.getfield 147, 3) := by decide +kernel
theorem dX11_count_86 : decode cX11_count 86 = .ok (.iaload, 1) := by decide +kernel
theorem dX11_count_87 : decode cX11_count 87 = .ok (.ireturn, 1) := by decide +kernel
theorem dX11_count_88 : decode cX11_count 88 = .ok (.aload_n 0, 1) := by decide +kernel
theorem dX11_count_89 : decode cX11_count 89 = .ok (.getfield 26, 3) := by decide +kernel
theorem dX11_count_92 : decode cX11_count 92 = .ok (.getfield 157, 3) := by decide +kernel
theorem dX11_count_95 : decode cX11_count 95 = .ok (.ireturn, 1) := by decide +kernel
theorem dX11_count_96 : decode cX11_count 96 = .ok (.aload_n 0, 1) := by decide +kernel
theorem dX11_count_97 : decode cX11_count 97 = .ok (.getfield 26, 3) := by decide +kernel
theorem dX11_count_100 : decode cX11_count 100 = .ok (.getfield 134, 3) := by decide +kernel
theorem dX11_count_103 : decode cX11_count 103 = .ok (.ifCond .eq 7, 3) := by decide +kernel
theorem dX11_count_106 : decode cX11_count 106 = .ok (.iconst 1, 1) := by decide +kernel
theorem dX11_count_107 : decode cX11_count 107 = .ok (.goto 4, 3) := by decide +kernel
theorem dX11_count_110 : decode cX11_count 110 = .ok (.iconst 0, 1) := by decide +kernel
theorem dX11_count_111 : decode cX11_count 111 = .ok (.ireturn, 1) := by decide +kernel
theorem dX11_count_112 : decode cX11_count 112 = .ok (.aload_n 0, 1) := by decide +kernel
theorem dX11_count_113 : decode cX11_count 113 = .ok (.getfield 181, 3) := by decide +kernel
theorem dX11_count_116 : decode cX11_count 116 = .ok (.ireturn, 1) := by decide +kernel
theorem dX11_count_117 : decode cX11_count 117 = .ok (.aload_n 0, 1) := by decide +kernel
theorem dX11_count_118 : decode cX11_count 118 = .ok (.getfield 19, 3) := by decide +kernel
theorem dX11_count_121 : decode cX11_count 121 = .ok (.getfield 96, 3) := by decide +kernel
theorem dX11_count_124 : decode cX11_count 124 = .ok (.ireturn, 1) := by decide +kernel
theorem dX11_count_125 : decode cX11_count 125 = .ok (.ldc 59, 2) := by decide +kernel
theorem dX11_count_127 : decode cX11_count 127 = .ok (.ireturn, 1) := by decide +kernel
theorem dX11_status_0 : decode cX11_status 0 = .ok (.aload_n 0, 1) := by decide +kernel
theorem dX11_status_1 : decode cX11_status 1 = .ok (.getfield 313, 3) := by decide +kernel
theorem dX11_status_4 : decode cX11_status 4 = .ok (.ireturn, 1) := by decide +kernel
theorem dX11_found_0 : decode cX11_found 0 = .ok (.aload_n 0, 1) := by decide +kernel
theorem dX11_found_1 : decode cX11_found 1 = .ok (.iload_n 1, 1) := by decide +kernel
theorem dX11_found_2 : decode cX11_found 2 = .ok (.putfield 313, 3) := by decide +kernel
theorem dX11_found_5 : decode cX11_found 5 = .ok (.ldc_w 316, 3) := by decide +kernel
theorem dX11_found_8 : decode cX11_found 8 = .ok (.iload_n 1, 1) := by decide +kernel
theorem dX11_found_9 : decode cX11_found 9 = .ok (.isub, 1) := by decide +kernel
theorem dX11_found_10 : decode cX11_found 10 = .ok (.ireturn, 1) := by decide +kernel
theorem dX11_answered_0 : decode cX11_answered 0 = .ok (.aload_n 0, 1) := by decide +kernel
theorem dX11_answered_1 : decode cX11_answered 1 = .ok (.iconst 0, 1) := by decide +kernel
theorem dX11_answered_2 : decode cX11_answered 2 = .ok (.putfield 313, 3) := by decide +kernel
theorem dX11_answered_5 : decode cX11_answered 5 = .ok (.iload_n 1, 1) := by decide +kernel
theorem dX11_answered_6 : decode cX11_answered 6 = .ok (.ireturn, 1) := by decide +kernel
theorem dX11_keepAct_0 : decode cX11_keepAct 0 = .ok (.aload_n 0, 1) := by decide +kernel
theorem dX11_keepAct_1 : decode cX11_keepAct 1 = .ok (.getfield 26, 3) := by decide +kernel
theorem dX11_keepAct_4 : decode cX11_keepAct 4 = .ok (.aload_n 0, 1) := by decide +kernel
theorem dX11_keepAct_5 : decode cX11_keepAct 5 = .ok (.getfield 51, 3) := by decide +kernel
theorem dX11_keepAct_8 : decode cX11_keepAct 8 = .ok (.aload_n 0, 1) := by decide +kernel
theorem dX11_keepAct_9 : decode cX11_keepAct 9 = .ok (.getfield 184, 3) := by decide +kernel
theorem dX11_keepAct_12 : decode cX11_keepAct 12 = .ok (.bipush 11, 2) := by decide +kernel
theorem dX11_keepAct_14 : decode cX11_keepAct 14 = .ok (.imul, 1) := by decide +kernel
theorem dX11_keepAct_15 : decode cX11_keepAct 15 = .ok (.invokevirtual 317, 3) := by decide +kernel
theorem dX11_keepAct_18 : decode cX11_keepAct 18 = .ok (.aload_n 0, 1) := by decide +kernel
theorem dX11_keepAct_19 : decode cX11_keepAct 19 = .ok (.aload_n 0, 1) := by decide +kernel
theorem dX11_keepAct_20 : decode cX11_keepAct 20 = .ok (.getfield 184, 3) := by decide +kernel
theorem dX11_keepAct_23 : decode cX11_keepAct 23 = .ok (.iconst 1, 1) := by decide +kernel
theorem dX11_keepAct_24 : decode cX11_keepAct 24 = .ok (.iadd, 1) := by decide +kernel
theorem dX11_keepAct_25 : decode cX11_keepAct 25 = .ok (.bipush 24, 2) := by decide +kernel
theorem dX11_keepAct_27 : decode cX11_keepAct 27 = .ok (.irem, 1) := by decide +kernel
theorem dX11_keepAct_28 : decode cX11_keepAct 28 = .ok (.putfield 184, 3) := by decide +kernel
theorem dX11_keepAct_31 : decode cX11_keepAct 31 = .ok (.aload_n 0, 1) := by decide +kernel
theorem dX11_keepAct_32 : decode cX11_keepAct 32 = .ok (.bipush 24, 2) := by decide +kernel
theorem dX11_keepAct_34 : decode cX11_keepAct 34 = .ok (.aload_n 0, 1) := by decide +kernel
theorem dX11_keepAct_35 : decode cX11_keepAct 35 = .ok (.getfield 181, 3) := by decide +kernel
theorem dX11_keepAct_38 : decode cX11_keepAct 38 = .ok (.iconst 1, 1) := by decide +kernel
theorem dX11_keepAct_39 : decode cX11_keepAct 39 = .ok (.iadd, 1) := by decide +kernel
theorem dX11_keepAct_40 : decode cX11_keepAct 40 = .ok (.invokestatic 320, 3) := by decide +kernel
theorem dX11_keepAct_43 : decode cX11_keepAct 43 = .ok (.putfield 181, 3) := by decide +kernel
theorem dX11_keepAct_46 : decode cX11_keepAct 46 = .ok (.return_, 1) := by decide +kernel
theorem dX11_forgetActs_0 : decode cX11_forgetActs 0 = .ok (.aload_n 0, 1) := by decide +kernel
theorem dX11_forgetActs_1 : decode cX11_forgetActs 1 = .ok (.iconst 0, 1) := by decide +kernel
theorem dX11_forgetActs_2 : decode cX11_forgetActs 2 = .ok (.putfield 181, 3) := by decide +kernel
theorem dX11_forgetActs_5 : decode cX11_forgetActs 5 = .ok (.return_, 1) := by decide +kernel
theorem dX11_imageAt_0 : decode cX11_imageAt 0 = .ok (.iload_n 1, 1) := by decide +kernel
theorem dX11_imageAt_1 : decode cX11_imageAt 1 = .ok (.ifCond .lt 8, 3) := by decide +kernel
theorem dX11_imageAt_4 : decode cX11_imageAt 4 = .ok (.iload_n 1, 1) := by decide +kernel
theorem dX11_imageAt_5 : decode cX11_imageAt 5 = .ok (.iconst 2, 1) := by decide +kernel
theorem dX11_imageAt_6 : decode cX11_imageAt 6 = .ok (.if_icmp .lt 7, 3) := by decide +kernel
theorem dX11_imageAt_9 : decode cX11_imageAt 9 = .ok (.aconst_null, 1) := by decide +kernel
theorem dX11_imageAt_10 : decode cX11_imageAt 10 = .ok (.goto 9, 3) := by decide +kernel
theorem dX11_imageAt_13 : decode cX11_imageAt 13 = .ok (.aload_n 0, 1) := by decide +kernel
theorem dX11_imageAt_14 : decode cX11_imageAt 14 = .ok (.getfield 33, 3) := by decide +kernel
theorem dX11_imageAt_17 : decode cX11_imageAt 17 = .ok (.iload_n 1, 1) := by decide +kernel
theorem dX11_imageAt_18 : decode cX11_imageAt 18 = .ok (.aaload, 1) := by decide +kernel
theorem dX11_imageAt_19 : decode cX11_imageAt 19 = .ok (.areturn, 1) := by decide +kernel
theorem dX11_habitsOfPerson_0 : decode cX11_habitsOfPerson 0 = .ok (.aload_n 0, 1) := by decide +kernel
theorem dX11_habitsOfPerson_1 : decode cX11_habitsOfPerson 1 = .ok (.getfield 26, 3) := by decide +kernel
theorem dX11_habitsOfPerson_4 : decode cX11_habitsOfPerson 4 = .ok (.getfield 126, 3) := by decide +kernel
theorem dX11_habitsOfPerson_7 : decode cX11_habitsOfPerson 7 = .ok (.ifCond .ne 6, 3) := by decide +kernel
theorem dX11_habitsOfPerson_10 : decode cX11_habitsOfPerson 10 = .ok (.ldc 130, 2) := by decide +kernel
theorem dX11_habitsOfPerson_12 : decode cX11_habitsOfPerson 12 = .ok (.ireturn, 1) := by decide +kernel
theorem dX11_habitsOfPerson_13 : decode cX11_habitsOfPerson 13 = .ok (.iload_n 1, 1) := by decide +kernel
theorem dX11_habitsOfPerson_14 : decode cX11_habitsOfPerson 14 = .ok (.invokestatic 55, 3) := by decide +kernel
theorem dX11_habitsOfPerson_17 : decode cX11_habitsOfPerson 17 = .ok (.ifCond .eq 14, 3) := by decide +kernel
theorem dX11_habitsOfPerson_20 : decode cX11_habitsOfPerson 20 = .ok (.aload_n 0, 1) := by decide +kernel
theorem dX11_habitsOfPerson_21 : decode cX11_habitsOfPerson 21 = .ok (.getfield 26, 3) := by decide +kernel
theorem dX11_habitsOfPerson_24 : decode cX11_habitsOfPerson 24 = .ok (.iload_n 2, 1) := by decide +kernel
theorem dX11_habitsOfPerson_25 : decode cX11_habitsOfPerson 25 = .ok (.invokevirtual 153, 3) := by decide +kernel
theorem dX11_habitsOfPerson_28 : decode cX11_habitsOfPerson 28 = .ok (.ifnonnull 6, 3) := by decide +kernel
theorem dX11_habitsOfPerson_31 : decode cX11_habitsOfPerson 31 = .ok (.ldc 59, 2) := by decide +kernel
theorem dX11_habitsOfPerson_33 : decode cX11_habitsOfPerson 33 = .ok (.ireturn, 1) := by decide +kernel
theorem dX11_habitsOfPerson_34 : decode cX11_habitsOfPerson 34 = .ok (.aload_n 0, 1) := by decide +kernel
theorem dX11_habitsOfPerson_35 : decode cX11_habitsOfPerson 35 = .ok (.iload_n 1, 1) := by decide +kernel
theorem dX11_habitsOfPerson_36 : decode cX11_habitsOfPerson 36 = .ok (.invokevirtual 213, 3) := by decide +kernel
theorem dX11_habitsOfPerson_39 : decode cX11_habitsOfPerson 39 = .ok (.ireturn, 1) := by decide +kernel
theorem dX11_takeHabits_0 : decode cX11_takeHabits 0 = .ok (.aload_n 0, 1) := by decide +kernel
theorem dX11_takeHabits_1 : decode cX11_takeHabits 1 = .ok (.getfield 10, 3) := by decide +kernel
theorem dX11_takeHabits_4 : decode cX11_takeHabits 4 = .ok (.iload_n 1, 1) := by decide +kernel
theorem dX11_takeHabits_5 : decode cX11_takeHabits 5 = .ok (.invokevirtual 71, 3) := by decide +kernel
theorem dX11_takeHabits_8 : decode cX11_takeHabits 8 = .ok (.ifCond .eq 9, 3) := by decide +kernel
theorem dX11_takeHabits_11 : decode cX11_takeHabits 11 = .ok (.aload_n 0, 1) := by decide +kernel
theorem dX11_takeHabits_12 : decode cX11_takeHabits 12 = .ok (.iconst 1, 1) := by decide +kernel
theorem dX11_takeHabits_13 : decode cX11_takeHabits 13 = .ok (.invokevirtual 60, 3) := by decide +kernel
theorem dX11_takeHabits_16 : decode cX11_takeHabits 16 = .ok (.ireturn, 1) := by decide +kernel
theorem dX11_takeHabits_17 : decode cX11_takeHabits 17 = .ok (.aload_n 0, 1) := by decide +kernel
theorem dX11_takeHabits_18 : decode cX11_takeHabits 18 = .ok (.getfield 10, 3) := by decide +kernel
theorem dX11_takeHabits_21 : decode cX11_takeHabits 21 = .ok (.iload_n 1, 1) := by decide +kernel
theorem dX11_takeHabits_22 : decode cX11_takeHabits 22 = .ok (.iconst 0, 1) := by decide +kernel
theorem dX11_takeHabits_23 : decode cX11_takeHabits 23 = .ok (.aload_n 0, 1) := by decide +kernel
theorem dX11_takeHabits_24 : decode cX11_takeHabits 24 = .ok (.getfield 26, 3) := by decide +kernel
theorem dX11_takeHabits_27 : decode cX11_takeHabits 27 = .ok (.getfield 241, 3) := by decide +kernel
theorem dX11_takeHabits_30 : decode cX11_takeHabits 30 = .ok (.invokevirtual 74, 3) := by decide +kernel
theorem dX11_takeHabits_33 : decode cX11_takeHabits 33 = .ok (.ifCond .ne 9, 3) := by decide +kernel
theorem dX11_takeHabits_36 : decode cX11_takeHabits 36 = .ok (.aload_n 0, 1) := by decide +kernel
theorem dX11_takeHabits_37 : decode cX11_takeHabits 37 = .ok (.iconst 2, 1) := by decide +kernel
theorem dX11_takeHabits_38 : decode cX11_takeHabits 38 = .ok (.invokevirtual 60, 3) := by decide +kernel
theorem dX11_takeHabits_41 : decode cX11_takeHabits 41 = .ok (.ireturn, 1) := by decide +kernel
theorem dX11_takeHabits_42 : decode cX11_takeHabits 42 = .ok (.iconst 0, 1) := by decide +kernel
theorem dX11_takeHabits_43 : decode cX11_takeHabits 43 = .ok (.istore_n 2, 1) := by decide +kernel
theorem dX11_takeHabits_44 : decode cX11_takeHabits 44 = .ok (.iload_n 2, 1) := by decide +kernel
theorem dX11_takeHabits_45 : decode cX11_takeHabits 45 = .ok (.aload_n 0, 1) := by decide +kernel
theorem dX11_takeHabits_46 : decode cX11_takeHabits 46 = .ok (.getfield 26, 3) := by decide +kernel
theorem dX11_takeHabits_49 : decode cX11_takeHabits 49 = .ok (.getfield 241, 3) := by decide +kernel
theorem dX11_takeHabits_52 : decode cX11_takeHabits 52 = .ok (.if_icmp .ge 41, 3) := by decide +kernel
theorem dX11_takeHabits_55 : decode cX11_takeHabits 55 = .ok (.aload_n 0, 1) := by decide +kernel
theorem dX11_takeHabits_56 : decode cX11_takeHabits 56 = .ok (.getfield 10, 3) := by decide +kernel
theorem dX11_takeHabits_59 : decode cX11_takeHabits 59 = .ok (.iload_n 1, 1) := by decide +kernel
theorem dX11_takeHabits_60 : decode cX11_takeHabits 60 = .ok (.iload_n 2, 1) := by decide +kernel
theorem dX11_takeHabits_61 : decode cX11_takeHabits 61 = .ok (.invokevirtual 266, 3) := by decide +kernel
theorem dX11_takeHabits_64 : decode cX11_takeHabits 64 = .ok (.istore_n 3, 1) := by decide +kernel
theorem dX11_takeHabits_65 : decode cX11_takeHabits 65 = .ok (.iload_n 3, 1) := by decide +kernel
theorem dX11_takeHabits_66 : decode cX11_takeHabits 66 = .ok (.ifCond .lt 8, 3) := by decide +kernel
theorem dX11_takeHabits_69 : decode cX11_takeHabits 69 = .ok (.iload_n 3, 1) := by decide +kernel
theorem dX11_takeHabits_70 : decode cX11_takeHabits 70 = .ok (.iconst 3, 1) := by decide +kernel
theorem dX11_takeHabits_71 : decode cX11_takeHabits 71 = .ok (.if_icmp .lt 6, 3) := by decide +kernel
theorem dX11_takeHabits_74 : decode cX11_takeHabits 74 = .ok (.ldc 59, 2) := by decide +kernel
theorem dX11_takeHabits_76 : decode cX11_takeHabits 76 = .ok (.ireturn, 1) := by decide +kernel
theorem dX11_takeHabits_77 : decode cX11_takeHabits 77 = .ok (.aload_n 0, 1) := by decide +kernel
theorem dX11_takeHabits_78 : decode cX11_takeHabits 78 = .ok (.getfield 40, 3) := by decide +kernel
theorem dX11_takeHabits_81 : decode cX11_takeHabits 81 = .ok (.getfield 278, 3) := by decide +kernel
theorem dX11_takeHabits_84 : decode cX11_takeHabits 84 = .ok (.iload_n 2, 1) := by decide +kernel
theorem dX11_takeHabits_85 : decode cX11_takeHabits 85 = .ok (.iload_n 3, 1) := by decide +kernel
theorem dX11_takeHabits_86 : decode cX11_takeHabits 86 = .ok (.iastore, 1) := by decide +kernel
theorem dX11_takeHabits_87 : decode cX11_takeHabits 87 = .ok (.iinc 2 1, 3) := by decide +kernel
theorem dX11_takeHabits_90 : decode cX11_takeHabits 90 = .ok (.goto (-46), 3) := by decide +kernel
theorem dX11_takeHabits_93 : decode cX11_takeHabits 93 = .ok (.aload_n 0, 1) := by decide +kernel
theorem dX11_takeHabits_94 : decode cX11_takeHabits 94 = .ok (.iconst 0, 1) := by decide +kernel
theorem dX11_takeHabits_95 : decode cX11_takeHabits 95 = .ok (.invokevirtual 68, 3) := by decide +kernel
theorem dX11_takeHabits_98 : decode cX11_takeHabits 98 = .ok (.ireturn, 1) := by decide +kernel
theorem dX11_isSeed_0 : decode cX11_isSeed 0 = .ok (.iload_n 0, 1) := by decide +kernel
theorem dX11_isSeed_1 : decode cX11_isSeed 1 = .ok (.iconst 1, 1) := by decide +kernel
theorem dX11_isSeed_2 : decode cX11_isSeed 2 = .ok (.if_icmp .lt 14, 3) := by decide +kernel
theorem dX11_isSeed_5 : decode cX11_isSeed 5 = .ok (.iload_n 0, 1) := by decide +kernel
theorem dX11_isSeed_6 : decode cX11_isSeed 6 = .ok (.ldc_w 325, 3) := by decide +kernel
theorem dX11_isSeed_9 : decode cX11_isSeed 9 = .ok (.if_icmp .gt 7, 3) := by decide +kernel
theorem dX11_isSeed_12 : decode cX11_isSeed 12 = .ok (.iconst 1, 1) := by decide +kernel
theorem dX11_isSeed_13 : decode cX11_isSeed 13 = .ok (.goto 4, 3) := by decide +kernel
theorem dX11_isSeed_16 : decode cX11_isSeed 16 = .ok (.iconst 0, 1) := by decide +kernel
theorem dX11_isSeed_17 : decode cX11_isSeed 17 = .ok (.ireturn, 1) := by decide +kernel
theorem dX11_isOfKind_0 : decode cX11_isOfKind 0 = .ok (.iload_n 1, 1) := by decide +kernel
theorem dX11_isOfKind_1 : decode cX11_isOfKind 1 = .ok (.tableswitch 57 0 4 #[35, 37, 42, 47, 52], 35) := by decide +kernel
theorem dX11_isOfKind_36 : decode cX11_isOfKind 36 = .ok (.iconst 1, 1) := by decide +kernel
theorem dX11_isOfKind_37 : decode cX11_isOfKind 37 = .ok (.ireturn, 1) := by decide +kernel
theorem dX11_isOfKind_38 : decode cX11_isOfKind 38 = .ok (.aload_n 0, 1) := by decide +kernel
theorem dX11_isOfKind_39 : decode cX11_isOfKind 39 = .ok (.instanceof 326, 3) := by decide +kernel
theorem dX11_isOfKind_42 : decode cX11_isOfKind 42 = .ok (.ireturn, 1) := by decide +kernel
theorem dX11_isOfKind_43 : decode cX11_isOfKind 43 = .ok (.aload_n 0, 1) := by decide +kernel
theorem dX11_isOfKind_44 : decode cX11_isOfKind 44 = .ok (.instanceof 328, 3) := by decide +kernel
theorem dX11_isOfKind_47 : decode cX11_isOfKind 47 = .ok (.ireturn, 1) := by decide +kernel
theorem dX11_isOfKind_48 : decode cX11_isOfKind 48 = .ok (.aload_n 0, 1) := by decide +kernel
theorem dX11_isOfKind_49 : decode cX11_isOfKind 49 = .ok (.instanceof 330, 3) := by decide +kernel
theorem dX11_isOfKind_52 : decode cX11_isOfKind 52 = .ok (.ireturn, 1) := by decide +kernel
theorem dX11_isOfKind_53 : decode cX11_isOfKind 53 = .ok (.aload_n 0, 1) := by decide +kernel
theorem dX11_isOfKind_54 : decode cX11_isOfKind 54 = .ok (.instanceof 332, 3) := by decide +kernel
theorem dX11_isOfKind_57 : decode cX11_isOfKind 57 = .ok (.ireturn, 1) := by decide +kernel
theorem dX11_isOfKind_58 : decode cX11_isOfKind 58 = .ok (.aload_n 0, 1) := by decide +kernel
theorem dX11_isOfKind_59 : decode cX11_isOfKind 59 = .ok (.instanceof 334, 3) := by decide +kernel
theorem dX11_isOfKind_62 : decode cX11_isOfKind 62 = .ok (.ireturn, 1) := by decide +kernel
theorem dX11_orders_0 : decode cX11_orders 0 = .ok (.iconst 1, 1) := by decide +kernel
theorem dX11_orders_1 : decode cX11_orders 1 = .ok (.istore_n 2, 1) := by decide +kernel
theorem dX11_orders_2 : decode cX11_orders 2 = .ok (.iconst 0, 1) := by decide +kernel
theorem dX11_orders_3 : decode cX11_orders 3 = .ok (.istore_n 3, 1) := by decide +kernel
theorem dX11_orders_4 : decode cX11_orders 4 = .ok (.iload_n 3, 1) := by decide +kernel
theorem dX11_orders_5 : decode cX11_orders 5 = .ok (.iload_n 1, 1) := by decide +kernel
theorem dX11_orders_6 : decode cX11_orders 6 = .ok (.if_icmp .ge 19, 3) := by decide +kernel
theorem dX11_orders_9 : decode cX11_orders 9 = .ok (.iload_n 2, 1) := by decide +kernel
theorem dX11_orders_10 : decode cX11_orders 10 = .ok (.ifCond .le 15, 3) := by decide +kernel
theorem dX11_orders_13 : decode cX11_orders 13 = .ok (.iload_n 2, 1) := by decide +kernel
theorem dX11_orders_14 : decode cX11_orders 14 = .ok (.iload_n 0, 1) := by decide +kernel
theorem dX11_orders_15 : decode cX11_orders 15 = .ok (.iload_n 3, 1) := by decide +kernel
theorem dX11_orders_16 : decode cX11_orders 16 = .ok (.isub, 1) := by decide +kernel
theorem dX11_orders_17 : decode cX11_orders 17 = .ok (.imul, 1) := by decide +kernel
theorem dX11_orders_18 : decode cX11_orders 18 = .ok (.istore_n 2, 1) := by decide +kernel
theorem dX11_orders_19 : decode cX11_orders 19 = .ok (.iinc 3 1, 3) := by decide +kernel
theorem dX11_orders_22 : decode cX11_orders 22 = .ok (.goto (-18), 3) := by decide +kernel
theorem dX11_orders_25 : decode cX11_orders 25 = .ok (.iload_n 2, 1) := by decide +kernel
theorem dX11_orders_26 : decode cX11_orders 26 = .ok (.ireturn, 1) := by decide +kernel
theorem dX11_part_0 : decode cX11_part 0 = .ok (.lload_n 0, 1) := by decide +kernel
theorem dX11_part_1 : decode cX11_part 1 = .ok (.invokestatic 336, 3) := by decide +kernel
theorem dX11_part_4 : decode cX11_part 4 = .ok (.lload_n 2, 1) := by decide +kernel
theorem dX11_part_5 : decode cX11_part 5 = .ok (.invokestatic 339, 3) := by decide +kernel
theorem dX11_part_8 : decode cX11_part 8 = .ok (.lstore 5, 2) := by decide +kernel
theorem dX11_part_10 : decode cX11_part 10 = .ok (.lload 5, 2) := by decide +kernel
theorem dX11_part_12 : decode cX11_part 12 = .ok (.lconst 1, 1) := by decide +kernel
theorem dX11_part_13 : decode cX11_part 13 = .ok (.lcmp, 1) := by decide +kernel
theorem dX11_part_14 : decode cX11_part 14 = .ok (.ifCond .ge 5, 3) := by decide +kernel
theorem dX11_part_17 : decode cX11_part 17 = .ok (.lconst 0, 1) := by decide +kernel
theorem dX11_part_18 : decode cX11_part 18 = .ok (.lreturn, 1) := by decide +kernel
theorem dX11_part_19 : decode cX11_part 19 = .ok (.iload 4, 2) := by decide +kernel
theorem dX11_part_21 : decode cX11_part 21 = .ok (.ifCond .eq 10, 3) := by decide +kernel
theorem dX11_part_24 : decode cX11_part 24 = .ok (.lload_n 0, 1) := by decide +kernel
theorem dX11_part_25 : decode cX11_part 25 = .ok (.lload 5, 2) := by decide +kernel
theorem dX11_part_27 : decode cX11_part 27 = .ok (.ldiv, 1) := by decide +kernel
theorem dX11_part_28 : decode cX11_part 28 = .ok (.goto 7, 3) := by decide +kernel
theorem dX11_part_31 : decode cX11_part 31 = .ok (.lload_n 2, 1) := by decide +kernel
theorem dX11_part_32 : decode cX11_part 32 = .ok (.lload 5, 2) := by decide +kernel
theorem dX11_part_34 : decode cX11_part 34 = .ok (.ldiv, 1) := by decide +kernel
theorem dX11_part_35 : decode cX11_part 35 = .ok (.lreturn, 1) := by decide +kernel
theorem dX11_commonDivisor_0 : decode cX11_commonDivisor 0 = .ok (.iconst 0, 1) := by decide +kernel
theorem dX11_commonDivisor_1 : decode cX11_commonDivisor 1 = .ok (.istore 4, 2) := by decide +kernel
theorem dX11_commonDivisor_3 : decode cX11_commonDivisor 3 = .ok (.iload 4, 2) := by decide +kernel
theorem dX11_commonDivisor_5 : decode cX11_commonDivisor 5 = .ok (.bipush 100, 2) := by decide +kernel
theorem dX11_commonDivisor_7 : decode cX11_commonDivisor 7 = .ok (.if_icmp .ge 25, 3) := by decide +kernel
theorem dX11_commonDivisor_10 : decode cX11_commonDivisor 10 = .ok (.lload_n 2, 1) := by decide +kernel
theorem dX11_commonDivisor_11 : decode cX11_commonDivisor 11 = .ok (.lconst 0, 1) := by decide +kernel
theorem dX11_commonDivisor_12 : decode cX11_commonDivisor 12 = .ok (.lcmp, 1) := by decide +kernel
theorem dX11_commonDivisor_13 : decode cX11_commonDivisor 13 = .ok (.ifCond .eq 19, 3) := by decide +kernel
theorem dX11_commonDivisor_16 : decode cX11_commonDivisor 16 = .ok (.lload_n 0, 1) := by decide +kernel
theorem dX11_commonDivisor_17 : decode cX11_commonDivisor 17 = .ok (.lload_n 2, 1) := by decide +kernel
theorem dX11_commonDivisor_18 : decode cX11_commonDivisor 18 = .ok (.lrem, 1) := by decide +kernel
theorem dX11_commonDivisor_19 : decode cX11_commonDivisor 19 = .ok (.lstore 5, 2) := by decide +kernel
theorem dX11_commonDivisor_21 : decode cX11_commonDivisor 21 = .ok (.lload_n 2, 1) := by decide +kernel
theorem dX11_commonDivisor_22 : decode cX11_commonDivisor 22 = .ok (.lstore_n 0, 1) := by decide +kernel
theorem dX11_commonDivisor_23 : decode cX11_commonDivisor 23 = .ok (.lload 5, 2) := by decide +kernel
theorem dX11_commonDivisor_25 : decode cX11_commonDivisor 25 = .ok (.lstore_n 2, 1) := by decide +kernel
theorem dX11_commonDivisor_26 : decode cX11_commonDivisor 26 = .ok (.iinc 4 1, 3) := by decide +kernel
theorem dX11_commonDivisor_29 : decode cX11_commonDivisor 29 = .ok (.goto (-26), 3) := by decide +kernel
theorem dX11_commonDivisor_32 : decode cX11_commonDivisor 32 = .ok (.lload_n 0, 1) := by decide +kernel
theorem dX11_commonDivisor_33 : decode cX11_commonDivisor 33 = .ok (.lreturn, 1) := by decide +kernel
theorem dX12_init_0 : decode cX12_init 0 = .ok (.aload_n 0, 1) := by decide +kernel
theorem dX12_init_1 : decode cX12_init 1 = .ok (.invokespecial 1, 3) := by decide +kernel
theorem dX12_init_4 : decode cX12_init 4 = .ok (.aload_n 0, 1) := by decide +kernel
theorem dX12_init_5 : decode cX12_init 5 = .ok (.bipush 8, 2) := by decide +kernel
theorem dX12_init_7 : decode cX12_init 7 = .ok (.newarray .int, 2) := by decide +kernel
theorem dX12_init_9 : decode cX12_init 9 = .ok (.putfield 7, 3) := by decide +kernel
theorem dX12_init_12 : decode cX12_init 12 = .ok (.aload_n 0, 1) := by decide +kernel
theorem dX12_init_13 : decode cX12_init 13 = .ok (.bipush 8, 2) := by decide +kernel
theorem dX12_init_15 : decode cX12_init 15 = .ok (.newarray .int, 2) := by decide +kernel
theorem dX12_init_17 : decode cX12_init 17 = .ok (.putfield 13, 3) := by decide +kernel
theorem dX12_init_20 : decode cX12_init 20 = .ok (.aload_n 0, 1) := by decide +kernel
theorem dX12_init_21 : decode cX12_init 21 = .ok (.sipush 320, 3) := by decide +kernel
theorem dX12_init_24 : decode cX12_init 24 = .ok (.newarray .int, 2) := by decide +kernel
theorem dX12_init_26 : decode cX12_init 26 = .ok (.putfield 16, 3) := by decide +kernel
theorem dX12_init_29 : decode cX12_init 29 = .ok (.aload_n 0, 1) := by decide +kernel
theorem dX12_init_30 : decode cX12_init 30 = .ok (.bipush 40, 2) := by decide +kernel
theorem dX12_init_32 : decode cX12_init 32 = .ok (.newarray .int, 2) := by decide +kernel
theorem dX12_init_34 : decode cX12_init 34 = .ok (.putfield 19, 3) := by decide +kernel
theorem dX12_init_37 : decode cX12_init 37 = .ok (.aload_n 0, 1) := by decide +kernel
theorem dX12_init_38 : decode cX12_init 38 = .ok (.bipush 60, 2) := by decide +kernel
theorem dX12_init_40 : decode cX12_init 40 = .ok (.newarray .int, 2) := by decide +kernel
theorem dX12_init_42 : decode cX12_init 42 = .ok (.putfield 22, 3) := by decide +kernel
theorem dX12_init_45 : decode cX12_init 45 = .ok (.aload_n 0, 1) := by decide +kernel
theorem dX12_init_46 : decode cX12_init 46 = .ok (.bipush 124, 2) := by decide +kernel
theorem dX12_init_48 : decode cX12_init 48 = .ok (.newarray .int, 2) := by decide +kernel
theorem dX12_init_50 : decode cX12_init 50 = .ok (.putfield 25, 3) := by decide +kernel
theorem dX12_init_53 : decode cX12_init 53 = .ok (.aload_n 0, 1) := by decide +kernel
theorem dX12_init_54 : decode cX12_init 54 = .ok (.bipush 124, 2) := by decide +kernel
theorem dX12_init_56 : decode cX12_init 56 = .ok (.newarray .int, 2) := by decide +kernel
theorem dX12_init_58 : decode cX12_init 58 = .ok (.putfield 28, 3) := by decide +kernel
theorem dX12_init_61 : decode cX12_init 61 = .ok (.aload_n 0, 1) := by decide +kernel
theorem dX12_init_62 : decode cX12_init 62 = .ok (.bipush 124, 2) := by decide +kernel
theorem dX12_init_64 : decode cX12_init 64 = .ok (.newarray .int, 2) := by decide +kernel
theorem dX12_init_66 : decode cX12_init 66 = .ok (.putfield 31, 3) := by decide +kernel
theorem dX12_init_69 : decode cX12_init 69 = .ok (.aload_n 0, 1) := by decide +kernel
theorem dX12_init_70 : decode cX12_init 70 = .ok (.sipush 264, 3) := by decide +kernel
theorem dX12_init_73 : decode cX12_init 73 = .ok (.newarray .int, 2) := by decide +kernel
theorem dX12_init_75 : decode cX12_init 75 = .ok (.putfield 34, 3) := by decide +kernel
theorem dX12_init_78 : decode cX12_init 78 = .ok (.aload_n 0, 1) := by decide +kernel
theorem dX12_init_79 : decode cX12_init 79 = .ok (.sipush 248, 3) := by decide +kernel
theorem dX12_init_82 : decode cX12_init 82 = .ok (.newarray .int, 2) := by decide +kernel
theorem dX12_init_84 : decode cX12_init 84 = .ok (.putfield 37, 3) := by decide +kernel
theorem dX12_init_87 : decode cX12_init 87 = .ok (.aload_n 0, 1) := by decide +kernel
theorem dX12_init_88 : decode cX12_init 88 = .ok (.iconst 2, 1) := by decide +kernel
theorem dX12_init_89 : decode cX12_init 89 = .ok (.newarray .boolean, 2) := by decide +kernel
theorem dX12_init_91 : decode cX12_init 91 = .ok (.putfield 40, 3) := by decide +kernel
theorem dX12_init_94 : decode cX12_init 94 = .ok (.aload_n 0, 1) := by decide +kernel
theorem dX12_init_95 : decode cX12_init 95 = .ok (.bipush 16, 2) := by decide +kernel
theorem dX12_init_97 : decode cX12_init 97 = .ok (.newarray .int, 2) := by decide +kernel
theorem dX12_init_99 : decode cX12_init 99 = .ok (.putfield 44, 3) := by decide +kernel
theorem dX12_init_102 : decode cX12_init 102 = .ok (.aload_n 0, 1) := by decide +kernel
theorem dX12_init_103 : decode cX12_init 103 = .ok (.bipush 8, 2) := by decide +kernel
theorem dX12_init_105 : decode cX12_init 105 = .ok (.newarray .long, 2) := by decide +kernel
theorem dX12_init_107 : decode cX12_init 107 = .ok (.putfield 47, 3) := by decide +kernel
theorem dX12_init_110 : decode cX12_init 110 = .ok (.aload_n 0, 1) := by decide +kernel
theorem dX12_init_111 : decode cX12_init 111 = .ok (.bipush 8, 2) := by decide +kernel
theorem dX12_init_113 : decode cX12_init 113 = .ok (.newarray .long, 2) := by decide +kernel
theorem dX12_init_115 : decode cX12_init 115 = .ok (.putfield 51, 3) := by decide +kernel
theorem dX12_init_118 : decode cX12_init 118 = .ok (.aload_n 0, 1) := by decide +kernel
theorem dX12_init_119 : decode cX12_init 119 = .ok (.bipush 24, 2) := by decide +kernel
theorem dX12_init_121 : decode cX12_init 121 = .ok (.newarray .long, 2) := by decide +kernel
theorem dX12_init_123 : decode cX12_init 123 = .ok (.putfield 54, 3) := by decide +kernel
theorem dX12_init_126 : decode cX12_init 126 = .ok (.aload_n 0, 1) := by decide +kernel
theorem dX12_init_127 : decode cX12_init 127 = .ok (.iconst 3, 1) := by decide +kernel
theorem dX12_init_128 : decode cX12_init 128 = .ok (.newarray .int, 2) := by decide +kernel
theorem dX12_init_130 : decode cX12_init 130 = .ok (.putfield 57, 3) := by decide +kernel
theorem dX12_init_133 : decode cX12_init 133 = .ok (.iconst 0, 1) := by decide +kernel
theorem dX12_init_134 : decode cX12_init 134 = .ok (.istore_n 1, 1) := by decide +kernel
theorem dX12_init_135 : decode cX12_init 135 = .ok (.iload_n 1, 1) := by decide +kernel
theorem dX12_init_136 : decode cX12_init 136 = .ok (.bipush 8, 2) := by decide +kernel
theorem dX12_init_138 : decode cX12_init 138 = .ok (.if_icmp .ge 17, 3) := by decide +kernel
theorem dX12_init_141 : decode cX12_init 141 = .ok (.aload_n 0, 1) := by decide +kernel
theorem dX12_init_142 : decode cX12_init 142 = .ok (.getfield 7, 3) := by decide +kernel
theorem dX12_init_145 : decode cX12_init 145 = .ok (.iload_n 1, 1) := by decide +kernel
theorem dX12_init_146 : decode cX12_init 146 = .ok (.ldc 60, 2) := by decide +kernel
theorem dX12_init_148 : decode cX12_init 148 = .ok (.iastore, 1) := by decide +kernel
theorem dX12_init_149 : decode cX12_init 149 = .ok (.iinc 1 1, 3) := by decide +kernel
theorem dX12_init_152 : decode cX12_init 152 = .ok (.goto (-17), 3) := by decide +kernel
theorem dX12_init_155 : decode cX12_init 155 = .ok (.return_, 1) := by decide +kernel
theorem dX12_in_0 : decode cX12_in 0 = .ok (.iload_n 0, 1) := by decide +kernel
theorem dX12_in_1 : decode cX12_in 1 = .ok (.iload_n 1, 1) := by decide +kernel
theorem dX12_in_2 : decode cX12_in 2 = .ok (.if_icmp .lt 12, 3) := by decide +kernel
theorem dX12_in_5 : decode cX12_in 5 = .ok (.iload_n 0, 1) := by decide +kernel
theorem dX12_in_6 : decode cX12_in 6 = .ok (.iload_n 2, 1) := by decide +kernel
theorem dX12_in_7 : decode cX12_in 7 = .ok (.if_icmp .gt 7, 3) := by decide +kernel
theorem dX12_in_10 : decode cX12_in 10 = .ok (.iconst 1, 1) := by decide +kernel
theorem dX12_in_11 : decode cX12_in 11 = .ok (.goto 4, 3) := by decide +kernel
theorem dX12_in_14 : decode cX12_in 14 = .ok (.iconst 0, 1) := by decide +kernel
theorem dX12_in_15 : decode cX12_in 15 = .ok (.ireturn, 1) := by decide +kernel
theorem dX12_found_0 : decode cX12_found 0 = .ok (.aload_n 0, 1) := by decide +kernel
theorem dX12_found_1 : decode cX12_found 1 = .ok (.iload_n 1, 1) := by decide +kernel
theorem dX12_found_2 : decode cX12_found 2 = .ok (.putfield 61, 3) := by decide +kernel
theorem dX12_found_5 : decode cX12_found 5 = .ok (.ldc 65, 2) := by decide +kernel
theorem dX12_found_7 : decode cX12_found 7 = .ok (.iload_n 1, 1) := by decide +kernel
theorem dX12_found_8 : decode cX12_found 8 = .ok (.isub, 1) := by decide +kernel
theorem dX12_found_9 : decode cX12_found 9 = .ok (.ireturn, 1) := by decide +kernel
theorem dX12_well_0 : decode cX12_well 0 = .ok (.aload_n 0, 1) := by decide +kernel
theorem dX12_well_1 : decode cX12_well 1 = .ok (.iconst 0, 1) := by decide +kernel
theorem dX12_well_2 : decode cX12_well 2 = .ok (.putfield 61, 3) := by decide +kernel
theorem dX12_well_5 : decode cX12_well 5 = .ok (.iload_n 1, 1) := by decide +kernel
theorem dX12_well_6 : decode cX12_well 6 = .ok (.ireturn, 1) := by decide +kernel
theorem dX12_isRow_0 : decode cX12_isRow 0 = .ok (.iload_n 0, 1) := by decide +kernel
theorem dX12_isRow_1 : decode cX12_isRow 1 = .ok (.iconst 0, 1) := by decide +kernel
theorem dX12_isRow_2 : decode cX12_isRow 2 = .ok (.bipush 7, 2) := by decide +kernel
theorem dX12_isRow_4 : decode cX12_isRow 4 = .ok (.invokestatic 66, 3) := by decide +kernel
theorem dX12_isRow_7 : decode cX12_isRow 7 = .ok (.ireturn, 1) := by decide +kernel
theorem dX12_isMissing_0 : decode cX12_isMissing 0 = .ok (.aload_n 0, 1) := by decide +kernel
theorem dX12_isMissing_1 : decode cX12_isMissing 1 = .ok (.getfield 7, 3) := by decide +kernel
theorem dX12_isMissing_4 : decode cX12_isMissing 4 = .ok (.iload_n 1, 1) := by decide +kernel
theorem dX12_isMissing_5 : decode cX12_isMissing 5 = .ok (.iaload, 1) := by decide +kernel
theorem dX12_isMissing_6 : decode cX12_isMissing 6 = .ok (.ldc 60, 2) := by decide +kernel
theorem dX12_isMissing_8 : decode cX12_isMissing 8 = .ok (.if_icmp .ne 7, 3) := by decide +kernel
theorem dX12_isMissing_11 : decode cX12_isMissing 11 = .ok (.iconst 1, 1) := by decide +kernel
theorem dX12_isMissing_12 : decode cX12_isMissing 12 = .ok (.goto 4, 3) := by decide +kernel
theorem dX12_isMissing_15 : decode cX12_isMissing 15 = .ok (.iconst 0, 1) := by decide +kernel
theorem dX12_isMissing_16 : decode cX12_isMissing 16 = .ok (.ireturn, 1) := by decide +kernel
theorem dX12_cut_0 : decode cX12_cut 0 = .ok (.iload_n 0, 1) := by decide +kernel
theorem dX12_cut_1 : decode cX12_cut 1 = .ok (.ifCond .ne 13, 3) := by decide +kernel
theorem dX12_cut_4 : decode cX12_cut 4 = .ok (.iload_n 1, 1) := by decide +kernel
theorem dX12_cut_5 : decode cX12_cut 5 = .ok (.bipush 24, 2) := by decide +kernel
theorem dX12_cut_7 : decode cX12_cut 7 = .ok (.ishl, 1) := by decide +kernel
theorem dX12_cut_8 : decode cX12_cut 8 = .ok (.bipush 24, 2) := by decide +kernel
theorem dX12_cut_10 : decode cX12_cut 10 = .ok (.ishr, 1) := by decide +kernel
theorem dX12_cut_11 : decode cX12_cut 11 = .ok (.goto 19, 3) := by decide +kernel
theorem dX12_cut_14 : decode cX12_cut 14 = .ok (.iload_n 0, 1) := by decide +kernel
theorem dX12_cut_15 : decode cX12_cut 15 = .ok (.iconst 1, 1) := by decide +kernel
theorem dX12_cut_16 : decode cX12_cut 16 = .ok (.if_icmp .ne 13, 3) := by decide +kernel
theorem dX12_cut_19 : decode cX12_cut 19 = .ok (.iload_n 1, 1) := by decide +kernel
theorem dX12_cut_20 : decode cX12_cut 20 = .ok (.bipush 16, 2) := by decide +kernel
theorem dX12_cut_22 : decode cX12_cut 22 = .ok (.ishl, 1) := by decide +kernel
theorem dX12_cut_23 : decode cX12_cut 23 = .ok (.bipush 16, 2) := by decide +kernel
theorem dX12_cut_25 : decode cX12_cut 25 = .ok (.ishr, 1) := by decide +kernel
theorem dX12_cut_26 : decode cX12_cut 26 = .ok (.goto 4, 3) := by decide +kernel
theorem dX12_cut_29 : decode cX12_cut 29 = .ok (.iload_n 1, 1) := by decide +kernel
theorem dX12_cut_30 : decode cX12_cut 30 = .ok (.ireturn, 1) := by decide +kernel
theorem dX12_row_0 : decode cX12_row 0 = .ok (.iload_n 1, 1) := by decide +kernel
theorem dX12_row_1 : decode cX12_row 1 = .ok (.invokestatic 70, 3) := by decide +kernel
theorem dX12_row_4 : decode cX12_row 4 = .ok (.ifCond .eq 18, 3) := by decide +kernel
theorem dX12_row_7 : decode cX12_row 7 = .ok (.iload_n 2, 1) := by decide +kernel
theorem dX12_row_8 : decode cX12_row 8 = .ok (.iconst 0, 1) := by decide +kernel
theorem dX12_row_9 : decode cX12_row 9 = .ok (.iconst 2, 1) := by decide +kernel
theorem dX12_row_10 : decode cX12_row 10 = .ok (.invokestatic 66, 3) := by decide +kernel
theorem dX12_row_13 : decode cX12_row 13 = .ok (.ifCond .eq 9, 3) := by decide +kernel
theorem dX12_row_16 : decode cX12_row 16 = .ok (.iload_n 3, 1) := by decide +kernel
theorem dX12_row_17 : decode cX12_row 17 = .ok (.bipush 40, 2) := by decide +kernel
theorem dX12_row_19 : decode cX12_row 19 = .ok (.if_icmp .le 6, 3) := by decide +kernel
theorem dX12_row_22 : decode cX12_row 22 = .ok (.ldc 74, 2) := by decide +kernel
theorem dX12_row_24 : decode cX12_row 24 = .ok (.ireturn, 1) := by decide +kernel
theorem dX12_row_25 : decode cX12_row 25 = .ok (.iload_n 3, 1) := by decide +kernel
theorem dX12_row_26 : decode cX12_row 26 = .ok (.ifCond .ge 9, 3) := by decide +kernel
theorem dX12_row_29 : decode cX12_row 29 = .ok (.aload_n 0, 1) := by decide +kernel
theorem dX12_row_30 : decode cX12_row 30 = .ok (.iconst 4, 1) := by decide +kernel
theorem dX12_row_31 : decode cX12_row 31 = .ok (.invokevirtual 75, 3) := by decide +kernel
theorem dX12_row_34 : decode cX12_row 34 = .ok (.ireturn, 1) := by decide +kernel
theorem dX12_row_35 : decode cX12_row 35 = .ok (.aload_n 0, 1) := by decide +kernel
theorem dX12_row_36 : decode cX12_row 36 = .ok (.getfield 7, 3) := by decide +kernel
theorem dX12_row_39 : decode cX12_row 39 = .ok (.iload_n 1, 1) := by decide +kernel
theorem dX12_row_40 : decode cX12_row 40 = .ok (.iload_n 2, 1) := by decide +kernel
theorem dX12_row_41 : decode cX12_row 41 = .ok (.iastore, 1) := by decide +kernel
theorem dX12_row_42 : decode cX12_row 42 = .ok (.aload_n 0, 1) := by decide +kernel
theorem dX12_row_43 : decode cX12_row 43 = .ok (.getfield 13, 3) := by decide +kernel
theorem dX12_row_46 : decode cX12_row 46 = .ok (.iload_n 1, 1) := by decide +kernel
theorem dX12_row_47 : decode cX12_row 47 = .ok (.iload_n 3, 1) := by decide +kernel
theorem dX12_row_48 : decode cX12_row 48 = .ok (.iastore, 1) := by decide +kernel
theorem dX12_row_49 : decode cX12_row 49 = .ok (.iconst 0, 1) := by decide +kernel
theorem dX12_row_50 : decode cX12_row 50 = .ok (.istore 4, 2) := by decide +kernel
theorem dX12_row_52 : decode cX12_row 52 = .ok (.iload 4, 2) := by decide +kernel
theorem dX12_row_54 : decode cX12_row 54 = .ok (.bipush 40, 2) := by decide +kernel
theorem dX12_row_56 : decode cX12_row 56 = .ok (.if_icmp .ge 22, 3) := by decide +kernel
theorem dX12_row_59 : decode cX12_row 59 = .ok (.aload_n 0, 1) := by decide +kernel
theorem dX12_row_60 : decode cX12_row 60 = .ok (.getfield 16, 3) := by decide +kernel
theorem dX12_row_63 : decode cX12_row 63 = .ok (.bipush 40, 2) := by decide +kernel
theorem dX12_row_65 : decode cX12_row 65 = .ok (.iload_n 1, 1) := by decide +kernel
theorem dX12_row_66 : decode cX12_row 66 = .ok (.imul, 1) := by decide +kernel
theorem dX12_row_67 : decode cX12_row 67 = .ok (.iload 4, 2) := by decide +kernel
theorem dX12_row_69 : decode cX12_row 69 = .ok (.iadd, 1) := by decide +kernel
theorem dX12_row_70 : decode cX12_row 70 = .ok (.iconst 0, 1) := by decide +kernel
theorem dX12_row_71 : decode cX12_row 71 = .ok (.iastore, 1) := by decide +kernel
theorem dX12_row_72 : decode cX12_row 72 = .ok (.iinc 4 1, 3) := by decide +kernel
theorem dX12_row_75 : decode cX12_row 75 = .ok (.goto (-23), 3) := by decide +kernel
theorem dX12_row_78 : decode cX12_row 78 = .ok (.aload_n 0, 1) := by decide +kernel
theorem dX12_row_79 : decode cX12_row 79 = .ok (.iload_n 3, 1) := by decide +kernel
theorem dX12_row_80 : decode cX12_row 80 = .ok (.invokevirtual 79, 3) := by decide +kernel
theorem dX12_row_83 : decode cX12_row 83 = .ok (.ireturn, 1) := by decide +kernel
theorem dX12_set_0 : decode cX12_set 0 = .ok (.iload_n 1, 1) := by decide +kernel
theorem dX12_set_1 : decode cX12_set 1 = .ok (.invokestatic 70, 3) := by decide +kernel
theorem dX12_set_4 : decode cX12_set 4 = .ok (.ifCond .ne 6, 3) := by decide +kernel
theorem dX12_set_7 : decode cX12_set 7 = .ok (.ldc 74, 2) := by decide +kernel
theorem dX12_set_9 : decode cX12_set 9 = .ok (.ireturn, 1) := by decide +kernel
theorem dX12_set_10 : decode cX12_set 10 = .ok (.aload_n 0, 1) := by decide +kernel
theorem dX12_set_11 : decode cX12_set 11 = .ok (.iload_n 1, 1) := by decide +kernel
theorem dX12_set_12 : decode cX12_set 12 = .ok (.invokevirtual 82, 3) := by decide +kernel
theorem dX12_set_15 : decode cX12_set 15 = .ok (.ifCond .eq 9, 3) := by decide +kernel
theorem dX12_set_18 : decode cX12_set 18 = .ok (.aload_n 0, 1) := by decide +kernel
theorem dX12_set_19 : decode cX12_set 19 = .ok (.iconst 1, 1) := by decide +kernel
theorem dX12_set_20 : decode cX12_set 20 = .ok (.invokevirtual 75, 3) := by decide +kernel
theorem dX12_set_23 : decode cX12_set 23 = .ok (.ireturn, 1) := by decide +kernel
theorem dX12_set_24 : decode cX12_set 24 = .ok (.iload_n 2, 1) := by decide +kernel
theorem dX12_set_25 : decode cX12_set 25 = .ok (.iconst 0, 1) := by decide +kernel
theorem dX12_set_26 : decode cX12_set 26 = .ok (.aload_n 0, 1) := by decide +kernel
theorem dX12_set_27 : decode cX12_set 27 = .ok (.getfield 13, 3) := by decide +kernel
theorem dX12_set_30 : decode cX12_set 30 = .ok (.iload_n 1, 1) := by decide +kernel
theorem dX12_set_31 : decode cX12_set 31 = .ok (.iaload, 1) := by decide +kernel
theorem dX12_set_32 : decode cX12_set 32 = .ok (.iconst 1, 1) := by decide +kernel
theorem dX12_set_33 : decode cX12_set 33 = .ok (.isub, 1) := by decide +kernel
theorem dX12_set_34 : decode cX12_set 34 = .ok (.invokestatic 66, 3) := by decide +kernel
theorem dX12_set_37 : decode cX12_set 37 = .ok (.ifCond .ne 9, 3) := by decide +kernel
theorem dX12_set_40 : decode cX12_set 40 = .ok (.aload_n 0, 1) := by decide +kernel
theorem dX12_set_41 : decode cX12_set 41 = .ok (.iconst 2, 1) := by decide +kernel
theorem dX12_set_42 : decode cX12_set 42 = .ok (.invokevirtual 75, 3) := by decide +kernel
theorem dX12_set_45 : decode cX12_set 45 = .ok (.ireturn, 1) := by decide +kernel
theorem dX12_set_46 : decode cX12_set 46 = .ok (.aload_n 0, 1) := by decide +kernel
theorem dX12_set_47 : decode cX12_set 47 = .ok (.getfield 16, 3) := by decide +kernel
theorem dX12_set_50 : decode cX12_set 50 = .ok (.bipush 40, 2) := by decide +kernel
theorem dX12_set_52 : decode cX12_set 52 = .ok (.iload_n 1, 1) := by decide +kernel
theorem dX12_set_53 : decode cX12_set 53 = .ok (.imul, 1) := by decide +kernel
theorem dX12_set_54 : decode cX12_set 54 = .ok (.iload_n 2, 1) := by decide +kernel
theorem dX12_set_55 : decode cX12_set 55 = .ok (.iadd, 1) := by decide +kernel
theorem dX12_set_56 : decode cX12_set 56 = .ok (.aload_n 0, 1) := by decide +kernel
theorem dX12_set_57 : decode cX12_set 57 = .ok (.getfield 7, 3) := by decide +kernel
theorem dX12_set_60 : decode cX12_set 60 = .ok (.iload_n 1, 1) := by decide +kernel
theorem dX12_set_61 : decode cX12_set 61 = .ok (.iaload, 1) := by decide +kernel
theorem dX12_set_62 : decode cX12_set 62 = .ok (.iload_n 3, 1) := by decide +kernel
theorem dX12_set_63 : decode cX12_set 63 = .ok (.invokestatic 85, 3) := by decide +kernel
theorem dX12_set_66 : decode cX12_set 66 = .ok (.iastore, 1) := by decide +kernel
theorem dX12_set_67 : decode cX12_set 67 = .ok (.aload_n 0, 1) := by decide +kernel
theorem dX12_set_68 : decode cX12_set 68 = .ok (.aload_n 0, 1) := by decide +kernel
theorem dX12_set_69 : decode cX12_set 69 = .ok (.getfield 16, 3) := by decide +kernel
theorem dX12_set_72 : decode cX12_set 72 = .ok (.bipush 40, 2) := by decide +kernel
theorem dX12_set_74 : decode cX12_set 74 = .ok (.iload_n 1, 1) := by decide +kernel
theorem dX12_set_75 : decode cX12_set 75 = .ok (.imul, 1) := by decide +kernel
theorem dX12_set_76 : decode cX12_set 76 = .ok (.iload_n 2, 1) := by decide +kernel
theorem dX12_set_77 : decode cX12_set 77 = .ok (.iadd, 1) := by decide +kernel
theorem dX12_set_78 : decode cX12_set 78 = .ok (.iaload, 1) := by decide +kernel
theorem dX12_set_79 : decode cX12_set 79 = .ok (.invokevirtual 79, 3) := by decide +kernel
theorem dX12_set_82 : decode cX12_set 82 = .ok (.ireturn, 1) := by decide +kernel
theorem dX12_isPart_0 : decode cX12_isPart 0 = .ok (.iload_n 2, 1) := by decide +kernel
theorem dX12_isPart_1 : decode cX12_isPart 1 = .ok (.ifCond .lt 33, 3) := by decide +kernel
theorem dX12_isPart_4 : decode cX12_isPart 4 = .ok (.iload_n 3, 1) := by decide +kernel
theorem dX12_isPart_5 : decode cX12_isPart 5 = .ok (.ifCond .lt 29, 3) := by decide +kernel
theorem dX12_isPart_8 : decode cX12_isPart 8 = .ok (.iload_n 2, 1) := by decide +kernel
theorem dX12_isPart_9 : decode cX12_isPart 9 = .ok (.aload_n 0, 1) := by decide +kernel
theorem dX12_isPart_10 : decode cX12_isPart 10 = .ok (.getfield 13, 3) := by decide +kernel
theorem dX12_isPart_13 : decode cX12_isPart 13 = .ok (.iload_n 1, 1) := by decide +kernel
theorem dX12_isPart_14 : decode cX12_isPart 14 = .ok (.iaload, 1) := by decide +kernel
theorem dX12_isPart_15 : decode cX12_isPart 15 = .ok (.if_icmp .gt 19, 3) := by decide +kernel
theorem dX12_isPart_18 : decode cX12_isPart 18 = .ok (.iload_n 3, 1) := by decide +kernel
theorem dX12_isPart_19 : decode cX12_isPart 19 = .ok (.aload_n 0, 1) := by decide +kernel
theorem dX12_isPart_20 : decode cX12_isPart 20 = .ok (.getfield 13, 3) := by decide +kernel
theorem dX12_isPart_23 : decode cX12_isPart 23 = .ok (.iload_n 1, 1) := by decide +kernel
theorem dX12_isPart_24 : decode cX12_isPart 24 = .ok (.iaload, 1) := by decide +kernel
theorem dX12_isPart_25 : decode cX12_isPart 25 = .ok (.iload_n 2, 1) := by decide +kernel
theorem dX12_isPart_26 : decode cX12_isPart 26 = .ok (.isub, 1) := by decide +kernel
theorem dX12_isPart_27 : decode cX12_isPart 27 = .ok (.if_icmp .gt 7, 3) := by decide +kernel
theorem dX12_isPart_30 : decode cX12_isPart 30 = .ok (.iconst 1, 1) := by decide +kernel
theorem dX12_isPart_31 : decode cX12_isPart 31 = .ok (.goto 4, 3) := by decide +kernel
theorem dX12_isPart_34 : decode cX12_isPart 34 = .ok (.iconst 0, 1) := by decide +kernel
theorem dX12_isPart_35 : decode cX12_isPart 35 = .ok (.ireturn, 1) := by decide +kernel
theorem dX12_copy_0 : decode cX12_copy 0 = .ok (.iload_n 1, 1) := by decide +kernel
theorem dX12_copy_1 : decode cX12_copy 1 = .ok (.invokestatic 70, 3) := by decide +kernel
theorem dX12_copy_4 : decode cX12_copy 4 = .ok (.ifCond .eq 10, 3) := by decide +kernel
theorem dX12_copy_7 : decode cX12_copy 7 = .ok (.iload_n 3, 1) := by decide +kernel
theorem dX12_copy_8 : decode cX12_copy 8 = .ok (.invokestatic 70, 3) := by decide +kernel
theorem dX12_copy_11 : decode cX12_copy 11 = .ok (.ifCond .ne 6, 3) := by decide +kernel
theorem dX12_copy_14 : decode cX12_copy 14 = .ok (.ldc 74, 2) := by decide +kernel
theorem dX12_copy_16 : decode cX12_copy 16 = .ok (.ireturn, 1) := by decide +kernel
theorem dX12_copy_17 : decode cX12_copy 17 = .ok (.aload_n 0, 1) := by decide +kernel
theorem dX12_copy_18 : decode cX12_copy 18 = .ok (.iload_n 1, 1) := by decide +kernel
theorem dX12_copy_19 : decode cX12_copy 19 = .ok (.invokevirtual 82, 3) := by decide +kernel
theorem dX12_copy_22 : decode cX12_copy 22 = .ok (.ifCond .ne 11, 3) := by decide +kernel
theorem dX12_copy_25 : decode cX12_copy 25 = .ok (.aload_n 0, 1) := by decide +kernel
theorem dX12_copy_26 : decode cX12_copy 26 = .ok (.iload_n 3, 1) := by decide +kernel
theorem dX12_copy_27 : decode cX12_copy 27 = .ok (.invokevirtual 82, 3) := by decide +kernel
theorem dX12_copy_30 : decode cX12_copy 30 = .ok (.ifCond .eq 9, 3) := by decide +kernel
theorem dX12_copy_33 : decode cX12_copy 33 = .ok (.aload_n 0, 1) := by decide +kernel
theorem dX12_copy_34 : decode cX12_copy 34 = .ok (.iconst 1, 1) := by decide +kernel
theorem dX12_copy_35 : decode cX12_copy 35 = .ok (.invokevirtual 75, 3) := by decide +kernel
theorem dX12_copy_38 : decode cX12_copy 38 = .ok (.ireturn, 1) := by decide +kernel
theorem dX12_copy_39 : decode cX12_copy 39 = .ok (.aload_n 0, 1) := by decide +kernel
theorem dX12_copy_40 : decode cX12_copy 40 = .ok (.getfield 7, 3) := by decide +kernel
theorem dX12_copy_43 : decode cX12_copy 43 = .ok (.iload_n 1, 1) := by decide +kernel
theorem dX12_copy_44 : decode cX12_copy 44 = .ok (.iaload, 1) := by decide +kernel
theorem dX12_copy_45 : decode cX12_copy 45 = .ok (.aload_n 0, 1) := by decide +kernel
theorem dX12_copy_46 : decode cX12_copy 46 = .ok (.getfield 7, 3) := by decide +kernel
theorem dX12_copy_49 : decode cX12_copy 49 = .ok (.iload_n 3, 1) := by decide +kernel
theorem dX12_copy_50 : decode cX12_copy 50 = .ok (.iaload, 1) := by decide +kernel
theorem dX12_copy_51 : decode cX12_copy 51 = .ok (.if_icmp .eq 9, 3) := by decide +kernel
theorem dX12_copy_54 : decode cX12_copy 54 = .ok (.aload_n 0, 1) := by decide +kernel
theorem dX12_copy_55 : decode cX12_copy 55 = .ok (.iconst 5, 1) := by decide +kernel
theorem dX12_copy_56 : decode cX12_copy 56 = .ok (.invokevirtual 75, 3) := by decide +kernel
theorem dX12_copy_59 : decode cX12_copy 59 = .ok (.ireturn, 1) := by decide +kernel
theorem dX12_copy_60 : decode cX12_copy 60 = .ok (.aload_n 0, 1) := by decide +kernel
theorem dX12_copy_61 : decode cX12_copy 61 = .ok (.iload_n 1, 1) := by decide +kernel
theorem dX12_copy_62 : decode cX12_copy 62 = .ok (.iload_n 2, 1) := by decide +kernel
theorem dX12_copy_63 : decode cX12_copy 63 = .ok (.iload 5, 2) := by decide +kernel
theorem dX12_copy_65 : decode cX12_copy 65 = .ok (.invokevirtual 89, 3) := by decide +kernel
theorem dX12_copy_68 : decode cX12_copy 68 = .ok (.ifCond .eq 15, 3) := by decide +kernel
theorem dX12_copy_71 : decode cX12_copy 71 = .ok (.aload_n 0, 1) := by decide +kernel
theorem dX12_copy_72 : decode cX12_copy 72 = .ok (.iload_n 3, 1) := by decide +kernel
theorem dX12_copy_73 : decode cX12_copy 73 = .ok (.iload 4, 2) := by decide +kernel
theorem dX12_copy_75 : decode cX12_copy 75 = .ok (.iload 5, 2) := by decide +kernel
theorem dX12_copy_77 : decode cX12_copy 77 = .ok (.invokevirtual 89, 3) := by decide +kernel
theorem dX12_copy_80 : decode cX12_copy 80 = .ok (.ifCond .ne 9, 3) := by decide +kernel
theorem dX12_copy_83 : decode cX12_copy 83 = .ok (.aload_n 0, 1) := by decide +kernel
theorem dX12_copy_84 : decode cX12_copy 84 = .ok (.iconst 2, 1) := by decide +kernel
theorem dX12_copy_85 : decode cX12_copy 85 = .ok (.invokevirtual 75, 3) := by decide +kernel
theorem dX12_copy_88 : decode cX12_copy 88 = .ok (.ireturn, 1) := by decide +kernel
theorem dX12_copy_89 : decode cX12_copy 89 = .ok (.iconst 0, 1) := by decide +kernel
theorem dX12_copy_90 : decode cX12_copy 90 = .ok (.istore 6, 2) := by decide +kernel
theorem dX12_copy_92 : decode cX12_copy 92 = .ok (.iload 6, 2) := by decide +kernel
theorem dX12_copy_94 : decode cX12_copy 94 = .ok (.iload 5, 2) := by decide +kernel
theorem dX12_copy_96 : decode cX12_copy 96 = .ok (.if_icmp .ge 30, 3) := by decide +kernel
theorem dX12_copy_99 : decode cX12_copy 99 = .ok (.aload_n 0, 1) := by decide +kernel
theorem dX12_copy_100 : decode cX12_copy 100 = .ok (.getfield 19, 3) := by decide +kernel
theorem dX12_copy_103 : decode cX12_copy 103 = .ok (.iload 6, 2) := by decide +kernel
theorem dX12_copy_105 : decode cX12_copy 105 = .ok (.aload_n 0, 1) := by decide +kernel
theorem dX12_copy_106 : decode cX12_copy 106 = .ok (.getfield 16, 3) := by decide +kernel
theorem dX12_copy_109 : decode cX12_copy 109 = .ok (.bipush 40, 2) := by decide +kernel
theorem dX12_copy_111 : decode cX12_copy 111 = .ok (.iload_n 1, 1) := by decide +kernel
theorem dX12_copy_112 : decode cX12_copy 112 = .ok (.imul, 1) := by decide +kernel
theorem dX12_copy_113 : decode cX12_copy 113 = .ok (.iload_n 2, 1) := by decide +kernel
theorem dX12_copy_114 : decode cX12_copy 114 = .ok (.iadd, 1) := by decide +kernel
theorem dX12_copy_115 : decode cX12_copy 115 = .ok (.iload 6, 2) := by decide +kernel
theorem dX12_copy_117 : decode cX12_copy 117 = .ok (.iadd, 1) := by decide +kernel
theorem dX12_copy_118 : decode cX12_copy 118 = .ok (.iaload, 1) := by decide +kernel
theorem dX12_copy_119 : decode cX12_copy 119 = .ok (.iastore, 1) := by decide +kernel
theorem dX12_copy_120 : decode cX12_copy 120 = .ok (.iinc 6 1, 3) := by decide +kernel
theorem dX12_copy_123 : decode cX12_copy 123 = .ok (.goto (-31), 3) := by decide +kernel
theorem dX12_copy_126 : decode cX12_copy 126 = .ok (.iconst 0, 1) := by decide +kernel
theorem dX12_copy_127 : decode cX12_copy 127 = .ok (.istore 6, 2) := by decide +kernel
theorem dX12_copy_129 : decode cX12_copy 129 = .ok (.iload 6, 2) := by decide +kernel
theorem dX12_copy_131 : decode cX12_copy 131 = .ok (.iload 5, 2) := by decide +kernel
theorem dX12_copy_133 : decode cX12_copy 133 = .ok (.if_icmp .ge 31, 3) := by decide +kernel
theorem dX12_copy_136 : decode cX12_copy 136 = .ok (.aload_n 0, 1) := by decide +kernel
theorem dX12_copy_137 : decode cX12_copy 137 = .ok (.getfield 16, 3) := by decide +kernel
theorem dX12_copy_140 : decode cX12_copy 140 = .ok (.bipush 40, 2) := by decide +kernel
theorem dX12_copy_142 : decode cX12_copy 142 = .ok (.iload_n 3, 1) := by decide +kernel
theorem dX12_copy_143 : decode cX12_copy 143 = .ok (.imul, 1) := by decide +kernel
theorem dX12_copy_144 : decode cX12_copy 144 = .ok (.iload 4, 2) := by decide +kernel
theorem dX12_copy_146 : decode cX12_copy 146 = .ok (.iadd, 1) := by decide +kernel
theorem dX12_copy_147 : decode cX12_copy 147 = .ok (.iload 6, 2) := by decide +kernel
theorem dX12_copy_149 : decode cX12_copy 149 = .ok (.iadd, 1) := by decide +kernel
theorem dX12_copy_150 : decode cX12_copy 150 = .ok (.aload_n 0, 1) := by decide +kernel
theorem dX12_copy_151 : decode cX12_copy 151 = .ok (.getfield 19, 3) := by decide +kernel
theorem dX12_copy_154 : decode cX12_copy 154 = .ok (.iload 6, 2) := by decide +kernel
theorem dX12_copy_156 : decode cX12_copy 156 = .ok (.iaload, 1) := by decide +kernel
theorem dX12_copy_157 : decode cX12_copy 157 = .ok (.iastore, 1) := by decide +kernel
theorem dX12_copy_158 : decode cX12_copy 158 = .ok (.iinc 6 1, 3) := by decide +kernel
theorem dX12_copy_161 : decode cX12_copy 161 = .ok (.goto (-32), 3) := by decide +kernel
theorem dX12_copy_164 : decode cX12_copy 164 = .ok (.aload_n 0, 1) := by decide +kernel
theorem dX12_copy_165 : decode cX12_copy 165 = .ok (.iload 5, 2) := by decide +kernel
theorem dX12_copy_167 : decode cX12_copy 167 = .ok (.invokevirtual 79, 3) := by decide +kernel
theorem dX12_copy_170 : decode cX12_copy 170 = .ok (.ireturn, 1) := by decide +kernel
theorem dX12_drop_0 : decode cX12_drop 0 = .ok (.iload_n 1, 1) := by decide +kernel
theorem dX12_drop_1 : decode cX12_drop 1 = .ok (.invokestatic 70, 3) := by decide +kernel
theorem dX12_drop_4 : decode cX12_drop 4 = .ok (.ifCond .ne 6, 3) := by decide +kernel
theorem dX12_drop_7 : decode cX12_drop 7 = .ok (.ldc 74, 2) := by decide +kernel
theorem dX12_drop_9 : decode cX12_drop 9 = .ok (.ireturn, 1) := by decide +kernel
theorem dX12_drop_10 : decode cX12_drop 10 = .ok (.aload_n 0, 1) := by decide +kernel
theorem dX12_drop_11 : decode cX12_drop 11 = .ok (.iload_n 1, 1) := by decide +kernel
theorem dX12_drop_12 : decode cX12_drop 12 = .ok (.invokevirtual 82, 3) := by decide +kernel
theorem dX12_drop_15 : decode cX12_drop 15 = .ok (.ifCond .eq 9, 3) := by decide +kernel
theorem dX12_drop_18 : decode cX12_drop 18 = .ok (.aload_n 0, 1) := by decide +kernel
theorem dX12_drop_19 : decode cX12_drop 19 = .ok (.iconst 1, 1) := by decide +kernel
theorem dX12_drop_20 : decode cX12_drop 20 = .ok (.invokevirtual 75, 3) := by decide +kernel
theorem dX12_drop_23 : decode cX12_drop 23 = .ok (.ireturn, 1) := by decide +kernel
theorem dX12_drop_24 : decode cX12_drop 24 = .ok (.aload_n 0, 1) := by decide +kernel
theorem dX12_drop_25 : decode cX12_drop 25 = .ok (.getfield 7, 3) := by decide +kernel
theorem dX12_drop_28 : decode cX12_drop 28 = .ok (.iload_n 1, 1) := by decide +kernel
theorem dX12_drop_29 : decode cX12_drop 29 = .ok (.ldc 60, 2) := by decide +kernel
theorem dX12_drop_31 : decode cX12_drop 31 = .ok (.iastore, 1) := by decide +kernel
theorem dX12_drop_32 : decode cX12_drop 32 = .ok (.aload_n 0, 1) := by decide +kernel
theorem dX12_drop_33 : decode cX12_drop 33 = .ok (.aload_n 0, 1) := by decide +kernel
theorem dX12_drop_34 : decode cX12_drop 34 = .ok (.getfield 13, 3) := by decide +kernel
theorem dX12_drop_37 : decode cX12_drop 37 = .ok (.iload_n 1, 1) := by decide +kernel
theorem dX12_drop_38 : decode cX12_drop 38 = .ok (.iaload, 1) := by decide +kernel
theorem dX12_drop_39 : decode cX12_drop 39 = .ok (.invokevirtual 79, 3) := by decide +kernel
theorem dX12_drop_42 : decode cX12_drop 42 = .ok (.ireturn, 1) := by decide +kernel
theorem dX12_feed_0 : decode cX12_feed 0 = .ok (.iload_n 1, 1) := by decide +kernel
theorem dX12_feed_1 : decode cX12_feed 1 = .ok (.iconst 0, 1) := by decide +kernel
theorem dX12_feed_2 : decode cX12_feed 2 = .ok (.sipush 255, 3) := by decide +kernel
theorem dX12_feed_5 : decode cX12_feed 5 = .ok (.invokestatic 66, 3) := by decide +kernel
theorem dX12_feed_8 : decode cX12_feed 8 = .ok (.ifCond .ne 6, 3) := by decide +kernel
theorem dX12_feed_11 : decode cX12_feed 11 = .ok (.ldc 74, 2) := by decide +kernel
theorem dX12_feed_13 : decode cX12_feed 13 = .ok (.ireturn, 1) := by decide +kernel
theorem dX12_feed_14 : decode cX12_feed 14 = .ok (.aload_n 0, 1) := by decide +kernel
theorem dX12_feed_15 : decode cX12_feed 15 = .ok (.getfield 92, 3) := by decide +kernel
theorem dX12_feed_18 : decode cX12_feed 18 = .ok (.bipush 60, 2) := by decide +kernel
theorem dX12_feed_20 : decode cX12_feed 20 = .ok (.if_icmp .ne 6, 3) := by decide +kernel
theorem dX12_feed_23 : decode cX12_feed 23 = .ok (.ldc 95, 2) := by decide +kernel
theorem dX12_feed_25 : decode cX12_feed 25 = .ok (.ireturn, 1) := by decide +kernel
theorem dX12_feed_26 : decode cX12_feed 26 = .ok (.aload_n 0, 1) := by decide +kernel
theorem dX12_feed_27 : decode cX12_feed 27 = .ok (.getfield 22, 3) := by decide +kernel
theorem dX12_feed_30 : decode cX12_feed 30 = .ok (.aload_n 0, 1) := by decide +kernel
theorem dX12_feed_31 : decode cX12_feed 31 = .ok (.getfield 92, 3) := by decide +kernel
theorem dX12_feed_34 : decode cX12_feed 34 = .ok (.iload_n 1, 1) := by decide +kernel
theorem dX12_feed_35 : decode cX12_feed 35 = .ok (.iastore, 1) := by decide +kernel
theorem dX12_feed_36 : decode cX12_feed 36 = .ok (.aload_n 0, 1) := by decide +kernel
theorem dX12_feed_37 : decode cX12_feed 37 = .ok (.dup, 1) := by decide +kernel
theorem dX12_feed_38 : decode cX12_feed 38 = .ok (.getfield 92, 3) := by decide +kernel
theorem dX12_feed_41 : decode cX12_feed 41 = .ok (.iconst 1, 1) := by decide +kernel
theorem dX12_feed_42 : decode cX12_feed 42 = .ok (.iadd, 1) := by decide +kernel
theorem dX12_feed_43 : decode cX12_feed 43 = .ok (.putfield 92, 3) := by decide +kernel
theorem dX12_feed_46 : decode cX12_feed 46 = .ok (.aload_n 0, 1) := by decide +kernel
theorem dX12_feed_47 : decode cX12_feed 47 = .ok (.getfield 92, 3) := by decide +kernel
theorem dX12_feed_50 : decode cX12_feed 50 = .ok (.ireturn, 1) := by decide +kernel
theorem dX12_byteAt_0 : decode cX12_byteAt 0 = .ok (.iload_n 1, 1) := by decide +kernel
theorem dX12_byteAt_1 : decode cX12_byteAt 1 = .ok (.aload_n 0, 1) := by decide +kernel
theorem dX12_byteAt_2 : decode cX12_byteAt 2 = .ok (.getfield 92, 3) := by decide +kernel
theorem dX12_byteAt_5 : decode cX12_byteAt 5 = .ok (.if_icmp .ge 12, 3) := by decide +kernel
theorem dX12_byteAt_8 : decode cX12_byteAt 8 = .ok (.aload_n 0, 1) := by decide +kernel
theorem dX12_byteAt_9 : decode cX12_byteAt 9 = .ok (.getfield 22, 3) := by decide +kernel
theorem dX12_byteAt_12 : decode cX12_byteAt 12 = .ok (.iload_n 1, 1) := by decide +kernel
theorem dX12_byteAt_13 : decode cX12_byteAt 13 = .ok (.iaload, 1) := by decide +kernel
theorem dX12_byteAt_14 : decode cX12_byteAt 14 = .ok (.goto 4, 3) := by decide +kernel
theorem dX12_byteAt_17 : decode cX12_byteAt 17 = .ok (.iconst (-1), 1) := by decide +kernel
theorem dX12_byteAt_18 : decode cX12_byteAt 18 = .ok (.ireturn, 1) := by decide +kernel
theorem dX12_advances_0 : decode cX12_advances 0 = .ok (.aload_n 0, 1) := by decide +kernel
theorem dX12_advances_1 : decode cX12_advances 1 = .ok (.aload_n 0, 1) := by decide +kernel
theorem dX12_advances_2 : decode cX12_advances 2 = .ok (.getfield 96, 3) := by decide +kernel
theorem dX12_advances_5 : decode cX12_advances 5 = .ok (.putfield 99, 3) := by decide +kernel
theorem dX12_advances_8 : decode cX12_advances 8 = .ok (.aload_n 0, 1) := by decide +kernel
theorem dX12_advances_9 : decode cX12_advances 9 = .ok (.aload_n 0, 1) := by decide +kernel
theorem dX12_advances_10 : decode cX12_advances 10 = .ok (.getfield 96, 3) := by decide +kernel
theorem dX12_advances_13 : decode cX12_advances 13 = .ok (.invokevirtual 102, 3) := by decide +kernel
theorem dX12_advances_16 : decode cX12_advances 16 = .ok (.istore_n 1, 1) := by decide +kernel
theorem dX12_advances_17 : decode cX12_advances 17 = .ok (.aload_n 0, 1) := by decide +kernel
theorem dX12_advances_18 : decode cX12_advances 18 = .ok (.iload_n 1, 1) := by decide +kernel
theorem dX12_advances_19 : decode cX12_advances 19 = .ok (.putfield 105, 3) := by decide +kernel
theorem dX12_advances_22 : decode cX12_advances 22 = .ok (.iload_n 1, 1) := by decide +kernel
theorem dX12_advances_23 : decode cX12_advances 23 = .ok (.bipush 48, 2) := by decide +kernel
theorem dX12_advances_25 : decode cX12_advances 25 = .ok (.bipush 57, 2) := by decide +kernel
theorem dX12_advances_27 : decode cX12_advances 27 = .ok (.invokestatic 66, 3) := by decide +kernel
theorem dX12_advances_30 : decode cX12_advances 30 = .ok (.ifCond .eq 105, 3) := by decide +kernel
theorem dX12_advances_33 : decode cX12_advances 33 = .ok (.aload_n 0, 1) := by decide +kernel
theorem dX12_advances_34 : decode cX12_advances 34 = .ok (.iconst 0, 1) := by decide +kernel
theorem dX12_advances_35 : decode cX12_advances 35 = .ok (.putfield 105, 3) := by decide +kernel
theorem dX12_advances_38 : decode cX12_advances 38 = .ok (.aload_n 0, 1) := by decide +kernel
theorem dX12_advances_39 : decode cX12_advances 39 = .ok (.aload_n 0, 1) := by decide +kernel
theorem dX12_advances_40 : decode cX12_advances 40 = .ok (.getfield 96, 3) := by decide +kernel
theorem dX12_advances_43 : decode cX12_advances 43 = .ok (.invokevirtual 102, 3) := by decide +kernel
theorem dX12_advances_46 : decode cX12_advances 46 = .ok (.bipush 48, 2) := by decide +kernel
theorem dX12_advances_48 : decode cX12_advances 48 = .ok (.bipush 57, 2) := by decide +kernel
theorem dX12_advances_50 : decode cX12_advances 50 = .ok (.invokestatic 66, 3) := by decide +kernel
theorem dX12_advances_53 : decode cX12_advances 53 = .ok (.ifCond .eq 59, 3) := by decide +kernel
theorem dX12_advances_56 : decode cX12_advances 56 = .ok (.aload_n 0, 1) := by decide +kernel
theorem dX12_advances_57 : decode cX12_advances 57 = .ok (.aload_n 0, 1) := by decide +kernel
theorem dX12_advances_58 : decode cX12_advances 58 = .ok (.getfield 96, 3) := by decide +kernel
theorem dX12_advances_61 : decode cX12_advances 61 = .ok (.aload_n 0, 1) := by decide +kernel
theorem dX12_advances_62 : decode cX12_advances 62 = .ok (.getfield 99, 3) := by decide +kernel
theorem dX12_advances_65 : decode cX12_advances 65 = .ok (.isub, 1) := by decide +kernel
theorem dX12_advances_66 : decode cX12_advances 66 = .ok (.iconst 2, 1) := by decide +kernel
theorem dX12_advances_67 : decode cX12_advances 67 = .ok (.if_icmp .ge 25, 3) := by decide +kernel
theorem dX12_advances_70 : decode cX12_advances 70 = .ok (.bipush 10, 2) := by decide +kernel
theorem dX12_advances_72 : decode cX12_advances 72 = .ok (.aload_n 0, 1) := by decide +kernel
theorem dX12_advances_73 : decode cX12_advances 73 = .ok (.getfield 105, 3) := by decide +kernel
theorem dX12_advances_76 : decode cX12_advances 76 = .ok (.imul, 1) := by decide +kernel
theorem dX12_advances_77 : decode cX12_advances 77 = .ok (.aload_n 0, 1) := by decide +kernel
theorem dX12_advances_78 : decode cX12_advances 78 = .ok (.aload_n 0, 1) := by decide +kernel
theorem dX12_advances_79 : decode cX12_advances 79 = .ok (.getfield 96, 3) := by decide +kernel
theorem dX12_advances_82 : decode cX12_advances 82 = .ok (.invokevirtual 102, 3) := by decide +kernel
theorem dX12_advances_85 : decode cX12_advances 85 = .ok (.iadd, 1) := by decide +kernel
theorem dX12_advances_86 : decode cX12_advances 86 = .ok (.bipush 48, 2) := by decide +kernel
theorem dX12_advances_88 : decode cX12_advances 88 = .ok (.isub, 1) := by decide +kernel
theorem dX12_advances_89 : decode cX12_advances 89 = .ok (.goto 7, 3) := by decide +kernel
theorem dX12_advances_92 : decode cX12_advances 92 = .ok (.aload_n 0, 1) := by decide +kernel
theorem dX12_advances_93 : decode cX12_advances 93 = .ok (.getfield 105, 3) := by decide +kernel
theorem dX12_advances_96 : decode cX12_advances 96 = .ok (.putfield 105, 3) := by decide +kernel
theorem dX12_advances_99 : decode cX12_advances 99 = .ok (.aload_n 0, 1) := by decide +kernel
theorem dX12_advances_100 : decode cX12_advances 100 = .ok (.dup, 1) := by decide +kernel
theorem dX12_advances_101 : decode cX12_advances 101 = .ok (.getfield 96, 3) := by decide +kernel
theorem dX12_advances_104 : decode cX12_advances 104 = .ok (.iconst 1, 1) := by decide +kernel
theorem dX12_advances_105 : decode cX12_advances 105 = .ok (.iadd, 1) := by decide +kernel
theorem dX12_advances_106 : decode cX12_advances 106 = .ok (.putfield 96, 3) := by decide +kernel
theorem dX12_advances_109 : decode cX12_advances 109 = .ok (.goto (-71), 3) := by decide +kernel
theorem dX12_advances_112 : decode cX12_advances 112 = .ok (.aload_n 0, 1) := by decide +kernel
theorem dX12_advances_113 : decode cX12_advances 113 = .ok (.aload_n 0, 1) := by decide +kernel
theorem dX12_advances_114 : decode cX12_advances 114 = .ok (.getfield 96, 3) := by decide +kernel
theorem dX12_advances_117 : decode cX12_advances 117 = .ok (.aload_n 0, 1) := by decide +kernel
theorem dX12_advances_118 : decode cX12_advances 118 = .ok (.getfield 99, 3) := by decide +kernel
theorem dX12_advances_121 : decode cX12_advances 121 = .ok (.isub, 1) := by decide +kernel
theorem dX12_advances_122 : decode cX12_advances 122 = .ok (.iconst 3, 1) := by decide +kernel
theorem dX12_advances_123 : decode cX12_advances 123 = .ok (.if_icmp .ge 7, 3) := by decide +kernel
theorem dX12_advances_126 : decode cX12_advances 126 = .ok (.iconst 2, 1) := by decide +kernel
theorem dX12_advances_127 : decode cX12_advances 127 = .ok (.goto 4, 3) := by decide +kernel
theorem dX12_advances_130 : decode cX12_advances 130 = .ok (.iconst 5, 1) := by decide +kernel
theorem dX12_advances_131 : decode cX12_advances 131 = .ok (.putfield 108, 3) := by decide +kernel
theorem dX12_advances_134 : decode cX12_advances 134 = .ok (.return_, 1) := by decide +kernel
theorem dX12_advances_135 : decode cX12_advances 135 = .ok (.aload_n 0, 1) := by decide +kernel
theorem dX12_advances_136 : decode cX12_advances 136 = .ok (.iload_n 1, 1) := by decide +kernel
theorem dX12_advances_137 : decode cX12_advances 137 = .ok (.ifCond .ge 7, 3) := by decide +kernel
theorem dX12_advances_140 : decode cX12_advances 140 = .ok (.iconst 0, 1) := by decide +kernel
theorem dX12_advances_141 : decode cX12_advances 141 = .ok (.goto 39, 3) := by decide +kernel
theorem dX12_advances_144 : decode cX12_advances 144 = .ok (.iload_n 1, 1) := by decide +kernel
theorem dX12_advances_145 : decode cX12_advances 145 = .ok (.bipush 97, 2) := by decide +kernel
theorem dX12_advances_147 : decode cX12_advances 147 = .ok (.bipush 122, 2) := by decide +kernel
theorem dX12_advances_149 : decode cX12_advances 149 = .ok (.invokestatic 66, 3) := by decide +kernel
theorem dX12_advances_152 : decode cX12_advances 152 = .ok (.ifCond .eq 7, 3) := by decide +kernel
theorem dX12_advances_155 : decode cX12_advances 155 = .ok (.iconst 1, 1) := by decide +kernel
theorem dX12_advances_156 : decode cX12_advances 156 = .ok (.goto 24, 3) := by decide +kernel
theorem dX12_advances_159 : decode cX12_advances 159 = .ok (.iload_n 1, 1) := by decide +kernel
theorem dX12_advances_160 : decode cX12_advances 160 = .ok (.bipush 44, 2) := by decide +kernel
theorem dX12_advances_162 : decode cX12_advances 162 = .ok (.if_icmp .ne 7, 3) := by decide +kernel
theorem dX12_advances_165 : decode cX12_advances 165 = .ok (.iconst 3, 1) := by decide +kernel
theorem dX12_advances_166 : decode cX12_advances 166 = .ok (.goto 14, 3) := by decide +kernel
theorem dX12_advances_169 : decode cX12_advances 169 = .ok (.iload_n 1, 1) := by decide +kernel
theorem dX12_advances_170 : decode cX12_advances 170 = .ok (.bipush 59, 2) := by decide +kernel
theorem dX12_advances_172 : decode cX12_advances 172 = .ok (.if_icmp .ne 7, 3) := by decide +kernel
theorem dX12_advances_175 : decode cX12_advances 175 = .ok (.iconst 4, 1) := by decide +kernel
theorem dX12_advances_176 : decode cX12_advances 176 = .ok (.goto 4, 3) := by decide +kernel
theorem dX12_advances_179 : decode cX12_advances 179 = .ok (.iconst 5, 1) := by decide +kernel
theorem dX12_advances_180 : decode cX12_advances 180 = .ok (.putfield 108, 3) := by decide +kernel
theorem dX12_advances_183 : decode cX12_advances 183 = .ok (.aload_n 0, 1) := by decide +kernel
theorem dX12_advances_184 : decode cX12_advances 184 = .ok (.dup, 1) := by decide +kernel
theorem dX12_advances_185 : decode cX12_advances 185 = .ok (.getfield 96, 3) := by decide +kernel
theorem dX12_advances_188 : decode cX12_advances 188 = .ok (.aload_n 0, 1) := by decide +kernel
theorem dX12_advances_189 : decode cX12_advances 189 = .ok (.getfield 108, 3) := by decide +kernel
theorem dX12_advances_192 : decode cX12_advances 192 = .ok (.ifCond .ne 7, 3) := by decide +kernel
theorem dX12_advances_195 : decode cX12_advances 195 = .ok (.iconst 0, 1) := by decide +kernel
theorem dX12_advances_196 : decode cX12_advances 196 = .ok (.goto 4, 3) := by decide +kernel
theorem dX12_advances_199 : decode cX12_advances 199 = .ok (.iconst 1, 1) := by decide +kernel
theorem dX12_advances_200 : decode cX12_advances 200 = .ok (.iadd, 1) := by decide +kernel
theorem dX12_advances_201 : decode cX12_advances 201 = .ok (.putfield 96, 3) := by decide +kernel
theorem dX12_advances_204 : decode cX12_advances 204 = .ok (.return_, 1) := by decide +kernel
theorem dX12_isWell_0 : decode cX12_isWell 0 = .ok (.aload_n 0, 1) := by decide +kernel
theorem dX12_isWell_1 : decode cX12_isWell 1 = .ok (.getfield 111, 3) := by decide +kernel
theorem dX12_isWell_4 : decode cX12_isWell 4 = .ok (.ifCond .ge 7, 3) := by decide +kernel
theorem dX12_isWell_7 : decode cX12_isWell 7 = .ok (.iconst 1, 1) := by decide +kernel
theorem dX12_isWell_8 : decode cX12_isWell 8 = .ok (.goto 4, 3) := by decide +kernel
theorem dX12_isWell_11 : decode cX12_isWell 11 = .ok (.iconst 0, 1) := by decide +kernel
theorem dX12_isWell_12 : decode cX12_isWell 12 = .ok (.ireturn, 1) := by decide +kernel
theorem dX12_takes_0 : decode cX12_takes 0 = .ok (.aload_n 0, 1) := by decide +kernel
theorem dX12_takes_1 : decode cX12_takes 1 = .ok (.invokevirtual 114, 3) := by decide +kernel
theorem dX12_takes_4 : decode cX12_takes 4 = .ok (.ifCond .ne 5, 3) := by decide +kernel
theorem dX12_takes_7 : decode cX12_takes 7 = .ok (.iconst 0, 1) := by decide +kernel
theorem dX12_takes_8 : decode cX12_takes 8 = .ok (.ireturn, 1) := by decide +kernel
theorem dX12_takes_9 : decode cX12_takes 9 = .ok (.iload_n 1, 1) := by decide +kernel
theorem dX12_takes_10 : decode cX12_takes 10 = .ok (.ifCond .ne 18, 3) := by decide +kernel
theorem dX12_takes_13 : decode cX12_takes 13 = .ok (.aload_n 0, 1) := by decide +kernel
theorem dX12_takes_14 : decode cX12_takes 14 = .ok (.aload_n 0, 1) := by decide +kernel
theorem dX12_takes_15 : decode cX12_takes 15 = .ok (.getfield 99, 3) := by decide +kernel
theorem dX12_takes_18 : decode cX12_takes 18 = .ok (.putfield 111, 3) := by decide +kernel
theorem dX12_takes_21 : decode cX12_takes 21 = .ok (.aload_n 0, 1) := by decide +kernel
theorem dX12_takes_22 : decode cX12_takes 22 = .ok (.iload_n 2, 1) := by decide +kernel
theorem dX12_takes_23 : decode cX12_takes 23 = .ok (.putfield 118, 3) := by decide +kernel
theorem dX12_takes_26 : decode cX12_takes 26 = .ok (.iconst 0, 1) := by decide +kernel
theorem dX12_takes_27 : decode cX12_takes 27 = .ok (.ireturn, 1) := by decide +kernel
theorem dX12_takes_28 : decode cX12_takes 28 = .ok (.aload_n 0, 1) := by decide +kernel
theorem dX12_takes_29 : decode cX12_takes 29 = .ok (.getfield 105, 3) := by decide +kernel
theorem dX12_takes_32 : decode cX12_takes 32 = .ok (.istore_n 3, 1) := by decide +kernel
theorem dX12_takes_33 : decode cX12_takes 33 = .ok (.aload_n 0, 1) := by decide +kernel
theorem dX12_takes_34 : decode cX12_takes 34 = .ok (.invokevirtual 121, 3) := by decide +kernel
theorem dX12_takes_37 : decode cX12_takes 37 = .ok (.iload_n 3, 1) := by decide +kernel
theorem dX12_takes_38 : decode cX12_takes 38 = .ok (.ireturn, 1) := by decide +kernel
theorem dX12_figure_0 : decode cX12_figure 0 = .ok (.aload_n 0, 1) := by decide +kernel
theorem dX12_figure_1 : decode cX12_figure 1 = .ok (.invokevirtual 114, 3) := by decide +kernel
theorem dX12_figure_4 : decode cX12_figure 4 = .ok (.ifCond .eq 18, 3) := by decide +kernel
theorem dX12_figure_7 : decode cX12_figure 7 = .ok (.aload_n 0, 1) := by decide +kernel
theorem dX12_figure_8 : decode cX12_figure 8 = .ok (.getfield 108, 3) := by decide +kernel
theorem dX12_figure_11 : decode cX12_figure 11 = .ok (.iconst 2, 1) := by decide +kernel
theorem dX12_figure_12 : decode cX12_figure 12 = .ok (.if_icmp .eq 10, 3) := by decide +kernel
theorem dX12_figure_15 : decode cX12_figure 15 = .ok (.aload_n 0, 1) := by decide +kernel
theorem dX12_figure_16 : decode cX12_figure 16 = .ok (.iconst 0, 1) := by decide +kernel
theorem dX12_figure_17 : decode cX12_figure 17 = .ok (.iconst 1, 1) := by decide +kernel
theorem dX12_figure_18 : decode cX12_figure 18 = .ok (.invokevirtual 124, 3) := by decide +kernel
theorem dX12_figure_21 : decode cX12_figure 21 = .ok (.ireturn, 1) := by decide +kernel
theorem dX12_figure_22 : decode cX12_figure 22 = .ok (.aload_n 0, 1) := by decide +kernel
theorem dX12_figure_23 : decode cX12_figure 23 = .ok (.aload_n 0, 1) := by decide +kernel
theorem dX12_figure_24 : decode cX12_figure 24 = .ok (.getfield 105, 3) := by decide +kernel
theorem dX12_figure_27 : decode cX12_figure 27 = .ok (.iload_n 1, 1) := by decide +kernel
theorem dX12_figure_28 : decode cX12_figure 28 = .ok (.if_icmp .gt 7, 3) := by decide +kernel
theorem dX12_figure_31 : decode cX12_figure 31 = .ok (.iconst 1, 1) := by decide +kernel
theorem dX12_figure_32 : decode cX12_figure 32 = .ok (.goto 4, 3) := by decide +kernel
theorem dX12_figure_35 : decode cX12_figure 35 = .ok (.iconst 0, 1) := by decide +kernel
theorem dX12_figure_36 : decode cX12_figure 36 = .ok (.iconst 2, 1) := by decide +kernel
theorem dX12_figure_37 : decode cX12_figure 37 = .ok (.invokevirtual 124, 3) := by decide +kernel
theorem dX12_figure_40 : decode cX12_figure 40 = .ok (.ireturn, 1) := by decide +kernel
theorem dX12_kindOf_0 : decode cX12_kindOf 0 = .ok (.iload_n 0, 1) := by decide +kernel
theorem dX12_kindOf_1 : decode cX12_kindOf 1 = .ok (.bipush 102, 2) := by decide +kernel
theorem dX12_kindOf_3 : decode cX12_kindOf 3 = .ok (.if_icmp .ne 7, 3) := by decide +kernel
theorem dX12_kindOf_6 : decode cX12_kindOf 6 = .ok (.iconst 1, 1) := by decide +kernel
theorem dX12_kindOf_7 : decode cX12_kindOf 7 = .ok (.goto 44, 3) := by decide +kernel
theorem dX12_kindOf_10 : decode cX12_kindOf 10 = .ok (.iload_n 0, 1) := by decide +kernel
theorem dX12_kindOf_11 : decode cX12_kindOf 11 = .ok (.bipush 103, 2) := by decide +kernel
theorem dX12_kindOf_13 : decode cX12_kindOf 13 = .ok (.if_icmp .ne 7, 3) := by decide +kernel
theorem dX12_kindOf_16 : decode cX12_kindOf 16 = .ok (.iconst 2, 1) := by decide +kernel
theorem dX12_kindOf_17 : decode cX12_kindOf 17 = .ok (.goto 34, 3) := by decide +kernel
theorem dX12_kindOf_20 : decode cX12_kindOf 20 = .ok (.iload_n 0, 1) := by decide +kernel
theorem dX12_kindOf_21 : decode cX12_kindOf 21 = .ok (.bipush 115, 2) := by decide +kernel
theorem dX12_kindOf_23 : decode cX12_kindOf 23 = .ok (.if_icmp .ne 7, 3) := by decide +kernel
theorem dX12_kindOf_26 : decode cX12_kindOf 26 = .ok (.iconst 3, 1) := by decide +kernel
theorem dX12_kindOf_27 : decode cX12_kindOf 27 = .ok (.goto 24, 3) := by decide +kernel
theorem dX12_kindOf_30 : decode cX12_kindOf 30 = .ok (.iload_n 0, 1) := by decide +kernel
theorem dX12_kindOf_31 : decode cX12_kindOf 31 = .ok (.bipush 119, 2) := by decide +kernel
theorem dX12_kindOf_33 : decode cX12_kindOf 33 = .ok (.if_icmp .ne 7, 3) := by decide +kernel
theorem dX12_kindOf_36 : decode cX12_kindOf 36 = .ok (.iconst 4, 1) := by decide +kernel
theorem dX12_kindOf_37 : decode cX12_kindOf 37 = .ok (.goto 14, 3) := by decide +kernel
theorem dX12_kindOf_40 : decode cX12_kindOf 40 = .ok (.iload_n 0, 1) := by decide +kernel
theorem dX12_kindOf_41 : decode cX12_kindOf 41 = .ok (.bipush 120, 2) := by decide +kernel
theorem dX12_kindOf_43 : decode cX12_kindOf 43 = .ok (.if_icmp .ne 7, 3) := by decide +kernel
theorem dX12_kindOf_46 : decode cX12_kindOf 46 = .ok (.iconst 5, 1) := by decide +kernel
theorem dX12_kindOf_47 : decode cX12_kindOf 47 = .ok (.goto 4, 3) := by decide +kernel
theorem dX12_kindOf_50 : decode cX12_kindOf 50 = .ok (.iconst 0, 1) := by decide +kernel
theorem dX12_kindOf_51 : decode cX12_kindOf 51 = .ok (.ireturn, 1) := by decide +kernel
theorem dX12_readsPerson_0 : decode cX12_readsPerson 0 = .ok (.aload_n 0, 1) := by decide +kernel
theorem dX12_readsPerson_1 : decode cX12_readsPerson 1 = .ok (.getfield 105, 3) := by decide +kernel
theorem dX12_readsPerson_4 : decode cX12_readsPerson 4 = .ok (.invokestatic 128, 3) := by decide +kernel
theorem dX12_readsPerson_7 : decode cX12_readsPerson 7 = .ok (.istore_n 1, 1) := by decide +kernel
theorem dX12_readsPerson_8 : decode cX12_readsPerson 8 = .ok (.aload_n 0, 1) := by decide +kernel
theorem dX12_readsPerson_9 : decode cX12_readsPerson 9 = .ok (.aload_n 0, 1) := by decide +kernel
theorem dX12_readsPerson_10 : decode cX12_readsPerson 10 = .ok (.getfield 28, 3) := by decide +kernel
theorem dX12_readsPerson_13 : decode cX12_readsPerson 13 = .ok (.iconst 1, 1) := by decide +kernel
theorem dX12_readsPerson_14 : decode cX12_readsPerson 14 = .ok (.iaload, 1) := by decide +kernel
theorem dX12_readsPerson_15 : decode cX12_readsPerson 15 = .ok (.iconst 3, 1) := by decide +kernel
theorem dX12_readsPerson_16 : decode cX12_readsPerson 16 = .ok (.if_icmp .ge 7, 3) := by decide +kernel
theorem dX12_readsPerson_19 : decode cX12_readsPerson 19 = .ok (.iconst 1, 1) := by decide +kernel
theorem dX12_readsPerson_20 : decode cX12_readsPerson 20 = .ok (.goto 4, 3) := by decide +kernel
theorem dX12_readsPerson_23 : decode cX12_readsPerson 23 = .ok (.iconst 0, 1) := by decide +kernel
theorem dX12_readsPerson_24 : decode cX12_readsPerson 24 = .ok (.iconst 3, 1) := by decide +kernel
theorem dX12_readsPerson_25 : decode cX12_readsPerson 25 = .ok (.invokevirtual 124, 3) := by decide +kernel
theorem dX12_readsPerson_28 : decode cX12_readsPerson 28 = .ok (.pop, 1) := by decide +kernel
theorem dX12_readsPerson_29 : decode cX12_readsPerson 29 = .ok (.bipush 6, 2) := by decide +kernel
theorem dX12_readsPerson_31 : decode cX12_readsPerson 31 = .ok (.bipush 6, 2) := by decide +kernel
theorem dX12_readsPerson_33 : decode cX12_readsPerson 33 = .ok (.aload_n 0, 1) := by decide +kernel
theorem dX12_readsPerson_34 : decode cX12_readsPerson 34 = .ok (.getfield 28, 3) := by decide +kernel
theorem dX12_readsPerson_37 : decode cX12_readsPerson 37 = .ok (.iconst 1, 1) := by decide +kernel
theorem dX12_readsPerson_38 : decode cX12_readsPerson 38 = .ok (.iaload, 1) := by decide +kernel
theorem dX12_readsPerson_39 : decode cX12_readsPerson 39 = .ok (.iconst 3, 1) := by decide +kernel
theorem dX12_readsPerson_40 : decode cX12_readsPerson 40 = .ok (.if_icmp .ge 12, 3) := by decide +kernel
theorem dX12_readsPerson_43 : decode cX12_readsPerson 43 = .ok (.aload_n 0, 1) := by decide +kernel
theorem dX12_readsPerson_44 : decode cX12_readsPerson 44 = .ok (.getfield 28, 3) := by decide +kernel
theorem dX12_readsPerson_47 : decode cX12_readsPerson 47 = .ok (.iconst 1, 1) := by decide +kernel
theorem dX12_readsPerson_48 : decode cX12_readsPerson 48 = .ok (.iaload, 1) := by decide +kernel
theorem dX12_readsPerson_49 : decode cX12_readsPerson 49 = .ok (.goto 4, 3) := by decide +kernel
theorem dX12_readsPerson_52 : decode cX12_readsPerson 52 = .ok (.iconst 0, 1) := by decide +kernel
theorem dX12_readsPerson_53 : decode cX12_readsPerson 53 = .ok (.imul, 1) := by decide +kernel
theorem dX12_readsPerson_54 : decode cX12_readsPerson 54 = .ok (.iadd, 1) := by decide +kernel
theorem dX12_readsPerson_55 : decode cX12_readsPerson 55 = .ok (.istore_n 2, 1) := by decide +kernel
theorem dX12_readsPerson_56 : decode cX12_readsPerson 56 = .ok (.aload_n 0, 1) := by decide +kernel
theorem dX12_readsPerson_57 : decode cX12_readsPerson 57 = .ok (.bipush 10, 2) := by decide +kernel
theorem dX12_readsPerson_59 : decode cX12_readsPerson 59 = .ok (.invokevirtual 131, 3) := by decide +kernel
theorem dX12_readsPerson_62 : decode cX12_readsPerson 62 = .ok (.istore_n 3, 1) := by decide +kernel
theorem dX12_readsPerson_63 : decode cX12_readsPerson 63 = .ok (.aload_n 0, 1) := by decide +kernel
theorem dX12_readsPerson_64 : decode cX12_readsPerson 64 = .ok (.aload_n 0, 1) := by decide +kernel
theorem dX12_readsPerson_65 : decode cX12_readsPerson 65 = .ok (.getfield 108, 3) := by decide +kernel
theorem dX12_readsPerson_68 : decode cX12_readsPerson 68 = .ok (.iconst 3, 1) := by decide +kernel
theorem dX12_readsPerson_69 : decode cX12_readsPerson 69 = .ok (.if_icmp .ne 7, 3) := by decide +kernel
theorem dX12_readsPerson_72 : decode cX12_readsPerson 72 = .ok (.iconst 1, 1) := by decide +kernel
theorem dX12_readsPerson_73 : decode cX12_readsPerson 73 = .ok (.goto 4, 3) := by decide +kernel
theorem dX12_readsPerson_76 : decode cX12_readsPerson 76 = .ok (.iconst 0, 1) := by decide +kernel
theorem dX12_readsPerson_77 : decode cX12_readsPerson 77 = .ok (.iconst 1, 1) := by decide +kernel
theorem dX12_readsPerson_78 : decode cX12_readsPerson 78 = .ok (.invokevirtual 124, 3) := by decide +kernel
theorem dX12_readsPerson_81 : decode cX12_readsPerson 81 = .ok (.pop, 1) := by decide +kernel
theorem dX12_readsPerson_82 : decode cX12_readsPerson 82 = .ok (.aload_n 0, 1) := by decide +kernel
theorem dX12_readsPerson_83 : decode cX12_readsPerson 83 = .ok (.bipush 99, 2) := by decide +kernel
theorem dX12_readsPerson_85 : decode cX12_readsPerson 85 = .ok (.invokevirtual 131, 3) := by decide +kernel
theorem dX12_readsPerson_88 : decode cX12_readsPerson 88 = .ok (.istore 4, 2) := by decide +kernel
theorem dX12_readsPerson_90 : decode cX12_readsPerson 90 = .ok (.aload_n 0, 1) := by decide +kernel
theorem dX12_readsPerson_91 : decode cX12_readsPerson 91 = .ok (.aload_n 0, 1) := by decide +kernel
theorem dX12_readsPerson_92 : decode cX12_readsPerson 92 = .ok (.getfield 108, 3) := by decide +kernel
theorem dX12_readsPerson_95 : decode cX12_readsPerson 95 = .ok (.iconst 3, 1) := by decide +kernel
theorem dX12_readsPerson_96 : decode cX12_readsPerson 96 = .ok (.if_icmp .ne 7, 3) := by decide +kernel
theorem dX12_readsPerson_99 : decode cX12_readsPerson 99 = .ok (.iconst 1, 1) := by decide +kernel
theorem dX12_readsPerson_100 : decode cX12_readsPerson 100 = .ok (.goto 4, 3) := by decide +kernel
theorem dX12_readsPerson_103 : decode cX12_readsPerson 103 = .ok (.iconst 0, 1) := by decide +kernel
theorem dX12_readsPerson_104 : decode cX12_readsPerson 104 = .ok (.iconst 1, 1) := by decide +kernel
theorem dX12_readsPerson_105 : decode cX12_readsPerson 105 = .ok (.invokevirtual 124, 3) := by decide +kernel
theorem dX12_readsPerson_108 : decode cX12_readsPerson 108 = .ok (.pop, 1) := by decide +kernel
theorem dX12_readsPerson_109 : decode cX12_readsPerson 109 = .ok (.aload_n 0, 1) := by decide +kernel
theorem dX12_readsPerson_110 : decode cX12_readsPerson 110 = .ok (.bipush 99, 2) := by decide +kernel
theorem dX12_readsPerson_112 : decode cX12_readsPerson 112 = .ok (.invokevirtual 131, 3) := by decide +kernel
theorem dX12_readsPerson_115 : decode cX12_readsPerson 115 = .ok (.istore 5, 2) := by decide +kernel
theorem dX12_readsPerson_117 : decode cX12_readsPerson 117 = .ok (.aload_n 0, 1) := by decide +kernel
theorem dX12_readsPerson_118 : decode cX12_readsPerson 118 = .ok (.aload_n 0, 1) := by decide +kernel
theorem dX12_readsPerson_119 : decode cX12_readsPerson 119 = .ok (.getfield 108, 3) := by decide +kernel
theorem dX12_readsPerson_122 : decode cX12_readsPerson 122 = .ok (.iconst 4, 1) := by decide +kernel
theorem dX12_readsPerson_123 : decode cX12_readsPerson 123 = .ok (.if_icmp .ne 7, 3) := by decide +kernel
theorem dX12_readsPerson_126 : decode cX12_readsPerson 126 = .ok (.iconst 1, 1) := by decide +kernel
theorem dX12_readsPerson_127 : decode cX12_readsPerson 127 = .ok (.goto 4, 3) := by decide +kernel
theorem dX12_readsPerson_130 : decode cX12_readsPerson 130 = .ok (.iconst 0, 1) := by decide +kernel
theorem dX12_readsPerson_131 : decode cX12_readsPerson 131 = .ok (.iconst 1, 1) := by decide +kernel
theorem dX12_readsPerson_132 : decode cX12_readsPerson 132 = .ok (.invokevirtual 124, 3) := by decide +kernel
theorem dX12_readsPerson_135 : decode cX12_readsPerson 135 = .ok (.pop, 1) := by decide +kernel
theorem dX12_readsPerson_136 : decode cX12_readsPerson 136 = .ok (.aload_n 0, 1) := by decide +kernel
theorem dX12_readsPerson_137 : decode cX12_readsPerson 137 = .ok (.invokevirtual 114, 3) := by decide +kernel
theorem dX12_readsPerson_140 : decode cX12_readsPerson 140 = .ok (.ifCond .eq 75, 3) := by decide +kernel
theorem dX12_readsPerson_143 : decode cX12_readsPerson 143 = .ok (.aload_n 0, 1) := by decide +kernel
theorem dX12_readsPerson_144 : decode cX12_readsPerson 144 = .ok (.getfield 28, 3) := by decide +kernel
theorem dX12_readsPerson_147 : decode cX12_readsPerson 147 = .ok (.iload_n 2, 1) := by decide +kernel
theorem dX12_readsPerson_148 : decode cX12_readsPerson 148 = .ok (.iload_n 1, 1) := by decide +kernel
theorem dX12_readsPerson_149 : decode cX12_readsPerson 149 = .ok (.iastore, 1) := by decide +kernel
theorem dX12_readsPerson_150 : decode cX12_readsPerson 150 = .ok (.aload_n 0, 1) := by decide +kernel
theorem dX12_readsPerson_151 : decode cX12_readsPerson 151 = .ok (.getfield 28, 3) := by decide +kernel
theorem dX12_readsPerson_154 : decode cX12_readsPerson 154 = .ok (.iload_n 2, 1) := by decide +kernel
theorem dX12_readsPerson_155 : decode cX12_readsPerson 155 = .ok (.iconst 1, 1) := by decide +kernel
theorem dX12_readsPerson_156 : decode cX12_readsPerson 156 = .ok (.iadd, 1) := by decide +kernel
theorem dX12_readsPerson_157 : decode cX12_readsPerson 157 = .ok (.iload_n 3, 1) := by decide +kernel
theorem dX12_readsPerson_158 : decode cX12_readsPerson 158 = .ok (.iastore, 1) := by decide +kernel
theorem dX12_readsPerson_159 : decode cX12_readsPerson 159 = .ok (.aload_n 0, 1) := by decide +kernel
theorem dX12_readsPerson_160 : decode cX12_readsPerson 160 = .ok (.getfield 28, 3) := by decide +kernel
theorem dX12_readsPerson_163 : decode cX12_readsPerson 163 = .ok (.iload_n 2, 1) := by decide +kernel
theorem dX12_readsPerson_164 : decode cX12_readsPerson 164 = .ok (.iconst 2, 1) := by decide +kernel
theorem dX12_readsPerson_165 : decode cX12_readsPerson 165 = .ok (.iadd, 1) := by decide +kernel
theorem dX12_readsPerson_166 : decode cX12_readsPerson 166 = .ok (.iload 4, 2) := by decide +kernel
theorem dX12_readsPerson_168 : decode cX12_readsPerson 168 = .ok (.iastore, 1) := by decide +kernel
theorem dX12_readsPerson_169 : decode cX12_readsPerson 169 = .ok (.aload_n 0, 1) := by decide +kernel
theorem dX12_readsPerson_170 : decode cX12_readsPerson 170 = .ok (.getfield 28, 3) := by decide +kernel
theorem dX12_readsPerson_173 : decode cX12_readsPerson 173 = .ok (.iload_n 2, 1) := by decide +kernel
theorem dX12_readsPerson_174 : decode cX12_readsPerson 174 = .ok (.iconst 3, 1) := by decide +kernel
theorem dX12_readsPerson_175 : decode cX12_readsPerson 175 = .ok (.iadd, 1) := by decide +kernel
theorem dX12_readsPerson_176 : decode cX12_readsPerson 176 = .ok (.iload 5, 2) := by decide +kernel
theorem dX12_readsPerson_178 : decode cX12_readsPerson 178 = .ok (.iastore, 1) := by decide +kernel
theorem dX12_readsPerson_179 : decode cX12_readsPerson 179 = .ok (.aload_n 0, 1) := by decide +kernel
theorem dX12_readsPerson_180 : decode cX12_readsPerson 180 = .ok (.getfield 28, 3) := by decide +kernel
theorem dX12_readsPerson_183 : decode cX12_readsPerson 183 = .ok (.iconst 2, 1) := by decide +kernel
theorem dX12_readsPerson_184 : decode cX12_readsPerson 184 = .ok (.dup2, 1) := by decide +kernel
theorem dX12_readsPerson_185 : decode cX12_readsPerson 185 = .ok (.iaload, 1) := by decide +kernel
theorem dX12_readsPerson_186 : decode cX12_readsPerson 186 = .ok (.iload_n 1, 1) := by decide +kernel
theorem dX12_readsPerson_187 : decode cX12_readsPerson 187 = .ok (.iconst 5, 1) := by decide +kernel
theorem dX12_readsPerson_188 : decode cX12_readsPerson 188 = .ok (.if_icmp .ne 7, 3) := by decide +kernel
theorem dX12_readsPerson_191 : decode cX12_readsPerson 191 = .ok (.iconst 0, 1) := by decide +kernel
theorem dX12_readsPerson_192 : decode cX12_readsPerson 192 = .ok (.goto 11, 3) := by decide +kernel
theorem dX12_readsPerson_195 : decode cX12_readsPerson 195 = .ok (.iconst 1, 1) := by decide +kernel
theorem dX12_readsPerson_196 : decode cX12_readsPerson 196 = .ok (.aload_n 0, 1) := by decide +kernel
theorem dX12_readsPerson_197 : decode cX12_readsPerson 197 = .ok (.getfield 28, 3) := by decide +kernel
theorem dX12_readsPerson_200 : decode cX12_readsPerson 200 = .ok (.iconst 1, 1) := by decide +kernel
theorem dX12_readsPerson_201 : decode cX12_readsPerson 201 = .ok (.iaload, 1) := by decide +kernel
theorem dX12_readsPerson_202 : decode cX12_readsPerson 202 = .ok (.ishl, 1) := by decide +kernel
theorem dX12_readsPerson_203 : decode cX12_readsPerson 203 = .ok (.ior, 1) := by decide +kernel
theorem dX12_readsPerson_204 : decode cX12_readsPerson 204 = .ok (.iastore, 1) := by decide +kernel
theorem dX12_readsPerson_205 : decode cX12_readsPerson 205 = .ok (.aload_n 0, 1) := by decide +kernel
theorem dX12_readsPerson_206 : decode cX12_readsPerson 206 = .ok (.getfield 28, 3) := by decide +kernel
theorem dX12_readsPerson_209 : decode cX12_readsPerson 209 = .ok (.iconst 1, 1) := by decide +kernel
theorem dX12_readsPerson_210 : decode cX12_readsPerson 210 = .ok (.dup2, 1) := by decide +kernel
theorem dX12_readsPerson_211 : decode cX12_readsPerson 211 = .ok (.iaload, 1) := by decide +kernel
theorem dX12_readsPerson_212 : decode cX12_readsPerson 212 = .ok (.iconst 1, 1) := by decide +kernel
theorem dX12_readsPerson_213 : decode cX12_readsPerson 213 = .ok (.iadd, 1) := by decide +kernel
theorem dX12_readsPerson_214 : decode cX12_readsPerson 214 = .ok (.iastore, 1) := by decide +kernel
theorem dX12_readsPerson_215 : decode cX12_readsPerson 215 = .ok (.return_, 1) := by decide +kernel
theorem dX12_village_0 : decode cX12_village 0 = .ok (.iconst 0, 1) := by decide +kernel
theorem dX12_village_1 : decode cX12_village 1 = .ok (.istore_n 1, 1) := by decide +kernel
theorem dX12_village_2 : decode cX12_village 2 = .ok (.iload_n 1, 1) := by decide +kernel
theorem dX12_village_3 : decode cX12_village 3 = .ok (.bipush 124, 2) := by decide +kernel
theorem dX12_village_5 : decode cX12_village 5 = .ok (.if_icmp .ge 16, 3) := by decide +kernel
theorem dX12_village_8 : decode cX12_village 8 = .ok (.aload_n 0, 1) := by decide +kernel
theorem dX12_village_9 : decode cX12_village 9 = .ok (.getfield 28, 3) := by decide +kernel
theorem dX12_village_12 : decode cX12_village 12 = .ok (.iload_n 1, 1) := by decide +kernel
theorem dX12_village_13 : decode cX12_village 13 = .ok (.iconst 0, 1) := by decide +kernel
theorem dX12_village_14 : decode cX12_village 14 = .ok (.iastore, 1) := by decide +kernel
theorem dX12_village_15 : decode cX12_village 15 = .ok (.iinc 1 1, 3) := by decide +kernel
theorem dX12_village_18 : decode cX12_village 18 = .ok (.goto (-16), 3) := by decide +kernel
theorem dX12_village_21 : decode cX12_village 21 = .ok (.aload_n 0, 1) := by decide +kernel
theorem dX12_village_22 : decode cX12_village 22 = .ok (.getfield 28, 3) := by decide +kernel
theorem dX12_village_25 : decode cX12_village 25 = .ok (.iconst 0, 1) := by decide +kernel
theorem dX12_village_26 : decode cX12_village 26 = .ok (.iconst 1, 1) := by decide +kernel
theorem dX12_village_27 : decode cX12_village 27 = .ok (.iastore, 1) := by decide +kernel
theorem dX12_village_28 : decode cX12_village 28 = .ok (.aload_n 0, 1) := by decide +kernel
theorem dX12_village_29 : decode cX12_village 29 = .ok (.iconst 0, 1) := by decide +kernel
theorem dX12_village_30 : decode cX12_village 30 = .ok (.putfield 96, 3) := by decide +kernel
theorem dX12_village_33 : decode cX12_village 33 = .ok (.aload_n 0, 1) := by decide +kernel
theorem dX12_village_34 : decode cX12_village 34 = .ok (.iconst (-1), 1) := by decide +kernel
theorem dX12_village_35 : decode cX12_village 35 = .ok (.putfield 111, 3) := by decide +kernel
theorem dX12_village_38 : decode cX12_village 38 = .ok (.aload_n 0, 1) := by decide +kernel
theorem dX12_village_39 : decode cX12_village 39 = .ok (.invokevirtual 121, 3) := by decide +kernel
theorem dX12_village_42 : decode cX12_village 42 = .ok (.aload_n 0, 1) := by decide +kernel
theorem dX12_village_43 : decode cX12_village 43 = .ok (.aload_n 0, 1) := by decide +kernel
theorem dX12_village_44 : decode cX12_village 44 = .ok (.getfield 108, 3) := by decide +kernel
theorem dX12_village_47 : decode cX12_village 47 = .ok (.iconst 1, 1) := by decide +kernel
theorem dX12_village_48 : decode cX12_village 48 = .ok (.if_icmp .ne 16, 3) := by decide +kernel
theorem dX12_village_51 : decode cX12_village 51 = .ok (.aload_n 0, 1) := by decide +kernel
theorem dX12_village_52 : decode cX12_village 52 = .ok (.getfield 105, 3) := by decide +kernel
theorem dX12_village_55 : decode cX12_village 55 = .ok (.bipush 118, 2) := by decide +kernel
theorem dX12_village_57 : decode cX12_village 57 = .ok (.if_icmp .ne 7, 3) := by decide +kernel
theorem dX12_village_60 : decode cX12_village 60 = .ok (.iconst 1, 1) := by decide +kernel
theorem dX12_village_61 : decode cX12_village 61 = .ok (.goto 4, 3) := by decide +kernel
theorem dX12_village_64 : decode cX12_village 64 = .ok (.iconst 0, 1) := by decide +kernel
theorem dX12_village_65 : decode cX12_village 65 = .ok (.iconst 1, 1) := by decide +kernel
theorem dX12_village_66 : decode cX12_village 66 = .ok (.invokevirtual 124, 3) := by decide +kernel
theorem dX12_village_69 : decode cX12_village 69 = .ok (.pop, 1) := by decide +kernel
theorem dX12_village_70 : decode cX12_village 70 = .ok (.aload_n 0, 1) := by decide +kernel
