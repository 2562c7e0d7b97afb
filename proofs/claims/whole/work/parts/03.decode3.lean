theorem dX12_village_71 : decode cX12_village 71 = .ok (.aload_n 0, 1) := by decide +kernel
theorem dX12_village_72 : decode cX12_village 72 = .ok (.getfield 108, 3) := by decide +kernel
theorem dX12_village_75 : decode cX12_village 75 = .ok (.iconst 4, 1) := by decide +kernel
theorem dX12_village_76 : decode cX12_village 76 = .ok (.if_icmp .ne 7, 3) := by decide +kernel
theorem dX12_village_79 : decode cX12_village 79 = .ok (.iconst 1, 1) := by decide +kernel
theorem dX12_village_80 : decode cX12_village 80 = .ok (.goto 4, 3) := by decide +kernel
theorem dX12_village_83 : decode cX12_village 83 = .ok (.iconst 0, 1) := by decide +kernel
theorem dX12_village_84 : decode cX12_village 84 = .ok (.iconst 1, 1) := by decide +kernel
theorem dX12_village_85 : decode cX12_village 85 = .ok (.invokevirtual 124, 3) := by decide +kernel
theorem dX12_village_88 : decode cX12_village 88 = .ok (.pop, 1) := by decide +kernel
theorem dX12_village_89 : decode cX12_village 89 = .ok (.aload_n 0, 1) := by decide +kernel
theorem dX12_village_90 : decode cX12_village 90 = .ok (.invokevirtual 114, 3) := by decide +kernel
theorem dX12_village_93 : decode cX12_village 93 = .ok (.ifCond .eq 28, 3) := by decide +kernel
theorem dX12_village_96 : decode cX12_village 96 = .ok (.aload_n 0, 1) := by decide +kernel
theorem dX12_village_97 : decode cX12_village 97 = .ok (.getfield 108, 3) := by decide +kernel
theorem dX12_village_100 : decode cX12_village 100 = .ok (.iconst 1, 1) := by decide +kernel
theorem dX12_village_101 : decode cX12_village 101 = .ok (.if_icmp .ne 20, 3) := by decide +kernel
theorem dX12_village_104 : decode cX12_village 104 = .ok (.aload_n 0, 1) := by decide +kernel
theorem dX12_village_105 : decode cX12_village 105 = .ok (.getfield 105, 3) := by decide +kernel
theorem dX12_village_108 : decode cX12_village 108 = .ok (.invokestatic 128, 3) := by decide +kernel
theorem dX12_village_111 : decode cX12_village 111 = .ok (.ifCond .le 10, 3) := by decide +kernel
theorem dX12_village_114 : decode cX12_village 114 = .ok (.aload_n 0, 1) := by decide +kernel
theorem dX12_village_115 : decode cX12_village 115 = .ok (.invokevirtual 134, 3) := by decide +kernel
theorem dX12_village_118 : decode cX12_village 118 = .ok (.goto (-29), 3) := by decide +kernel
theorem dX12_village_121 : decode cX12_village 121 = .ok (.aload_n 0, 1) := by decide +kernel
theorem dX12_village_122 : decode cX12_village 122 = .ok (.invokevirtual 114, 3) := by decide +kernel
theorem dX12_village_125 : decode cX12_village 125 = .ok (.ifCond .eq 17, 3) := by decide +kernel
theorem dX12_village_128 : decode cX12_village 128 = .ok (.aload_n 0, 1) := by decide +kernel
theorem dX12_village_129 : decode cX12_village 129 = .ok (.getfield 108, 3) := by decide +kernel
theorem dX12_village_132 : decode cX12_village 132 = .ok (.ifCond .eq 10, 3) := by decide +kernel
theorem dX12_village_135 : decode cX12_village 135 = .ok (.aload_n 0, 1) := by decide +kernel
theorem dX12_village_136 : decode cX12_village 136 = .ok (.iconst 0, 1) := by decide +kernel
theorem dX12_village_137 : decode cX12_village 137 = .ok (.iconst 1, 1) := by decide +kernel
theorem dX12_village_138 : decode cX12_village 138 = .ok (.invokevirtual 124, 3) := by decide +kernel
theorem dX12_village_141 : decode cX12_village 141 = .ok (.pop, 1) := by decide +kernel
theorem dX12_village_142 : decode cX12_village 142 = .ok (.aload_n 0, 1) := by decide +kernel
theorem dX12_village_143 : decode cX12_village 143 = .ok (.iconst 0, 1) := by decide +kernel
theorem dX12_village_144 : decode cX12_village 144 = .ok (.putfield 92, 3) := by decide +kernel
theorem dX12_village_147 : decode cX12_village 147 = .ok (.aload_n 0, 1) := by decide +kernel
theorem dX12_village_148 : decode cX12_village 148 = .ok (.invokevirtual 114, 3) := by decide +kernel
theorem dX12_village_151 : decode cX12_village 151 = .ok (.ifCond .ne 11, 3) := by decide +kernel
theorem dX12_village_154 : decode cX12_village 154 = .ok (.ldc 137, 2) := by decide +kernel
theorem dX12_village_156 : decode cX12_village 156 = .ok (.aload_n 0, 1) := by decide +kernel
theorem dX12_village_157 : decode cX12_village 157 = .ok (.getfield 111, 3) := by decide +kernel
theorem dX12_village_160 : decode cX12_village 160 = .ok (.isub, 1) := by decide +kernel
theorem dX12_village_161 : decode cX12_village 161 = .ok (.ireturn, 1) := by decide +kernel
theorem dX12_village_162 : decode cX12_village 162 = .ok (.iconst 0, 1) := by decide +kernel
theorem dX12_village_163 : decode cX12_village 163 = .ok (.istore_n 1, 1) := by decide +kernel
theorem dX12_village_164 : decode cX12_village 164 = .ok (.iload_n 1, 1) := by decide +kernel
theorem dX12_village_165 : decode cX12_village 165 = .ok (.bipush 124, 2) := by decide +kernel
theorem dX12_village_167 : decode cX12_village 167 = .ok (.if_icmp .ge 21, 3) := by decide +kernel
theorem dX12_village_170 : decode cX12_village 170 = .ok (.aload_n 0, 1) := by decide +kernel
theorem dX12_village_171 : decode cX12_village 171 = .ok (.getfield 25, 3) := by decide +kernel
theorem dX12_village_174 : decode cX12_village 174 = .ok (.iload_n 1, 1) := by decide +kernel
theorem dX12_village_175 : decode cX12_village 175 = .ok (.aload_n 0, 1) := by decide +kernel
theorem dX12_village_176 : decode cX12_village 176 = .ok (.getfield 28, 3) := by decide +kernel
theorem dX12_village_179 : decode cX12_village 179 = .ok (.iload_n 1, 1) := by decide +kernel
theorem dX12_village_180 : decode cX12_village 180 = .ok (.iaload, 1) := by decide +kernel
theorem dX12_village_181 : decode cX12_village 181 = .ok (.iastore, 1) := by decide +kernel
theorem dX12_village_182 : decode cX12_village 182 = .ok (.iinc 1 1, 3) := by decide +kernel
theorem dX12_village_185 : decode cX12_village 185 = .ok (.goto (-21), 3) := by decide +kernel
theorem dX12_village_188 : decode cX12_village 188 = .ok (.aload_n 0, 1) := by decide +kernel
theorem dX12_village_189 : decode cX12_village 189 = .ok (.iconst 0, 1) := by decide +kernel
theorem dX12_village_190 : decode cX12_village 190 = .ok (.putfield 138, 3) := by decide +kernel
theorem dX12_village_193 : decode cX12_village 193 = .ok (.aload_n 0, 1) := by decide +kernel
theorem dX12_village_194 : decode cX12_village 194 = .ok (.getfield 25, 3) := by decide +kernel
theorem dX12_village_197 : decode cX12_village 197 = .ok (.iconst 1, 1) := by decide +kernel
theorem dX12_village_198 : decode cX12_village 198 = .ok (.iaload, 1) := by decide +kernel
theorem dX12_village_199 : decode cX12_village 199 = .ok (.ireturn, 1) := by decide +kernel
theorem dX12_fault_0 : decode cX12_fault 0 = .ok (.aload_n 0, 1) := by decide +kernel
theorem dX12_fault_1 : decode cX12_fault 1 = .ok (.getfield 118, 3) := by decide +kernel
theorem dX12_fault_4 : decode cX12_fault 4 = .ok (.ireturn, 1) := by decide +kernel
theorem dX12_isVillage_0 : decode cX12_isVillage 0 = .ok (.aload_n 0, 1) := by decide +kernel
theorem dX12_isVillage_1 : decode cX12_isVillage 1 = .ok (.getfield 25, 3) := by decide +kernel
theorem dX12_isVillage_4 : decode cX12_isVillage 4 = .ok (.iconst 0, 1) := by decide +kernel
theorem dX12_isVillage_5 : decode cX12_isVillage 5 = .ok (.iaload, 1) := by decide +kernel
theorem dX12_isVillage_6 : decode cX12_isVillage 6 = .ok (.iconst 1, 1) := by decide +kernel
theorem dX12_isVillage_7 : decode cX12_isVillage 7 = .ok (.if_icmp .ne 7, 3) := by decide +kernel
theorem dX12_isVillage_10 : decode cX12_isVillage 10 = .ok (.iconst 1, 1) := by decide +kernel
theorem dX12_isVillage_11 : decode cX12_isVillage 11 = .ok (.goto 4, 3) := by decide +kernel
theorem dX12_isVillage_14 : decode cX12_isVillage 14 = .ok (.iconst 0, 1) := by decide +kernel
theorem dX12_isVillage_15 : decode cX12_isVillage 15 = .ok (.ireturn, 1) := by decide +kernel
theorem dX12_isPerson_0 : decode cX12_isPerson 0 = .ok (.iload_n 1, 1) := by decide +kernel
theorem dX12_isPerson_1 : decode cX12_isPerson 1 = .ok (.iconst 0, 1) := by decide +kernel
theorem dX12_isPerson_2 : decode cX12_isPerson 2 = .ok (.aload_n 0, 1) := by decide +kernel
theorem dX12_isPerson_3 : decode cX12_isPerson 3 = .ok (.getfield 25, 3) := by decide +kernel
theorem dX12_isPerson_6 : decode cX12_isPerson 6 = .ok (.iconst 1, 1) := by decide +kernel
theorem dX12_isPerson_7 : decode cX12_isPerson 7 = .ok (.iaload, 1) := by decide +kernel
theorem dX12_isPerson_8 : decode cX12_isPerson 8 = .ok (.iconst 1, 1) := by decide +kernel
theorem dX12_isPerson_9 : decode cX12_isPerson 9 = .ok (.isub, 1) := by decide +kernel
theorem dX12_isPerson_10 : decode cX12_isPerson 10 = .ok (.invokestatic 66, 3) := by decide +kernel
theorem dX12_isPerson_13 : decode cX12_isPerson 13 = .ok (.ireturn, 1) := by decide +kernel
theorem dX12_has_0 : decode cX12_has 0 = .ok (.iload_n 0, 1) := by decide +kernel
theorem dX12_has_1 : decode cX12_has 1 = .ok (.iload_n 1, 1) := by decide +kernel
theorem dX12_has_2 : decode cX12_has 2 = .ok (.ishr, 1) := by decide +kernel
theorem dX12_has_3 : decode cX12_has 3 = .ok (.iconst 1, 1) := by decide +kernel
theorem dX12_has_4 : decode cX12_has 4 = .ok (.iand, 1) := by decide +kernel
theorem dX12_has_5 : decode cX12_has 5 = .ok (.iconst 1, 1) := by decide +kernel
theorem dX12_has_6 : decode cX12_has 6 = .ok (.if_icmp .ne 7, 3) := by decide +kernel
theorem dX12_has_9 : decode cX12_has 9 = .ok (.iconst 1, 1) := by decide +kernel
theorem dX12_has_10 : decode cX12_has 10 = .ok (.goto 4, 3) := by decide +kernel
theorem dX12_has_13 : decode cX12_has 13 = .ok (.iconst 0, 1) := by decide +kernel
theorem dX12_has_14 : decode cX12_has 14 = .ok (.ireturn, 1) := by decide +kernel
theorem dX12_kindIn_0 : decode cX12_kindIn 0 = .ok (.aload_n 0, 1) := by decide +kernel
theorem dX12_kindIn_1 : decode cX12_kindIn 1 = .ok (.bipush 6, 2) := by decide +kernel
theorem dX12_kindIn_3 : decode cX12_kindIn 3 = .ok (.bipush 6, 2) := by decide +kernel
theorem dX12_kindIn_5 : decode cX12_kindIn 5 = .ok (.iload_n 1, 1) := by decide +kernel
theorem dX12_kindIn_6 : decode cX12_kindIn 6 = .ok (.imul, 1) := by decide +kernel
theorem dX12_kindIn_7 : decode cX12_kindIn 7 = .ok (.iadd, 1) := by decide +kernel
theorem dX12_kindIn_8 : decode cX12_kindIn 8 = .ok (.iaload, 1) := by decide +kernel
theorem dX12_kindIn_9 : decode cX12_kindIn 9 = .ok (.ireturn, 1) := by decide +kernel
theorem dX12_odds_0 : decode cX12_odds 0 = .ok (.aload_n 0, 1) := by decide +kernel
theorem dX12_odds_1 : decode cX12_odds 1 = .ok (.iload_n 1, 1) := by decide +kernel
theorem dX12_odds_2 : decode cX12_odds 2 = .ok (.invokestatic 141, 3) := by decide +kernel
theorem dX12_odds_5 : decode cX12_odds 5 = .ok (.iconst 3, 1) := by decide +kernel
theorem dX12_odds_6 : decode cX12_odds 6 = .ok (.if_icmp .ne 9, 3) := by decide +kernel
theorem dX12_odds_9 : decode cX12_odds 9 = .ok (.iconst 2, 1) := by decide +kernel
theorem dX12_odds_10 : decode cX12_odds 10 = .ok (.iload_n 2, 1) := by decide +kernel
theorem dX12_odds_11 : decode cX12_odds 11 = .ok (.imul, 1) := by decide +kernel
theorem dX12_odds_12 : decode cX12_odds 12 = .ok (.goto 4, 3) := by decide +kernel
theorem dX12_odds_15 : decode cX12_odds 15 = .ok (.iload_n 2, 1) := by decide +kernel
theorem dX12_odds_16 : decode cX12_odds 16 = .ok (.istore_n 3, 1) := by decide +kernel
theorem dX12_odds_17 : decode cX12_odds 17 = .ok (.aload_n 0, 1) := by decide +kernel
theorem dX12_odds_18 : decode cX12_odds 18 = .ok (.bipush 6, 2) := by decide +kernel
theorem dX12_odds_20 : decode cX12_odds 20 = .ok (.bipush 6, 2) := by decide +kernel
theorem dX12_odds_22 : decode cX12_odds 22 = .ok (.iload_n 1, 1) := by decide +kernel
theorem dX12_odds_23 : decode cX12_odds 23 = .ok (.imul, 1) := by decide +kernel
theorem dX12_odds_24 : decode cX12_odds 24 = .ok (.iadd, 1) := by decide +kernel
theorem dX12_odds_25 : decode cX12_odds 25 = .ok (.iconst 1, 1) := by decide +kernel
theorem dX12_odds_26 : decode cX12_odds 26 = .ok (.iadd, 1) := by decide +kernel
theorem dX12_odds_27 : decode cX12_odds 27 = .ok (.iaload, 1) := by decide +kernel
theorem dX12_odds_28 : decode cX12_odds 28 = .ok (.iload_n 3, 1) := by decide +kernel
theorem dX12_odds_29 : decode cX12_odds 29 = .ok (.iadd, 1) := by decide +kernel
theorem dX12_odds_30 : decode cX12_odds 30 = .ok (.istore 4, 2) := by decide +kernel
theorem dX12_odds_32 : decode cX12_odds 32 = .ok (.iload 4, 2) := by decide +kernel
theorem dX12_odds_34 : decode cX12_odds 34 = .ok (.bipush 10, 2) := by decide +kernel
theorem dX12_odds_36 : decode cX12_odds 36 = .ok (.if_icmp .le 8, 3) := by decide +kernel
theorem dX12_odds_39 : decode cX12_odds 39 = .ok (.bipush 10, 2) := by decide +kernel
theorem dX12_odds_41 : decode cX12_odds 41 = .ok (.goto 5, 3) := by decide +kernel
theorem dX12_odds_44 : decode cX12_odds 44 = .ok (.iload 4, 2) := by decide +kernel
theorem dX12_odds_46 : decode cX12_odds 46 = .ok (.ireturn, 1) := by decide +kernel
theorem dX12_brings_0 : decode cX12_brings 0 = .ok (.bipush 6, 2) := by decide +kernel
theorem dX12_brings_2 : decode cX12_brings 2 = .ok (.bipush 6, 2) := by decide +kernel
theorem dX12_brings_4 : decode cX12_brings 4 = .ok (.iload_n 1, 1) := by decide +kernel
theorem dX12_brings_5 : decode cX12_brings 5 = .ok (.imul, 1) := by decide +kernel
theorem dX12_brings_6 : decode cX12_brings 6 = .ok (.iadd, 1) := by decide +kernel
theorem dX12_brings_7 : decode cX12_brings 7 = .ok (.istore_n 3, 1) := by decide +kernel
theorem dX12_brings_8 : decode cX12_brings 8 = .ok (.iload_n 2, 1) := by decide +kernel
theorem dX12_brings_9 : decode cX12_brings 9 = .ok (.ifCond .ne 39, 3) := by decide +kernel
theorem dX12_brings_12 : decode cX12_brings 12 = .ok (.aload_n 0, 1) := by decide +kernel
theorem dX12_brings_13 : decode cX12_brings 13 = .ok (.iload_n 3, 1) := by decide +kernel
theorem dX12_brings_14 : decode cX12_brings 14 = .ok (.iaload, 1) := by decide +kernel
theorem dX12_brings_15 : decode cX12_brings 15 = .ok (.iconst 3, 1) := by decide +kernel
theorem dX12_brings_16 : decode cX12_brings 16 = .ok (.if_icmp .ne 7, 3) := by decide +kernel
theorem dX12_brings_19 : decode cX12_brings 19 = .ok (.iconst 0, 1) := by decide +kernel
theorem dX12_brings_20 : decode cX12_brings 20 = .ok (.goto 27, 3) := by decide +kernel
theorem dX12_brings_23 : decode cX12_brings 23 = .ok (.aload_n 0, 1) := by decide +kernel
theorem dX12_brings_24 : decode cX12_brings 24 = .ok (.iload_n 3, 1) := by decide +kernel
theorem dX12_brings_25 : decode cX12_brings 25 = .ok (.iaload, 1) := by decide +kernel
theorem dX12_brings_26 : decode cX12_brings 26 = .ok (.iconst 2, 1) := by decide +kernel
theorem dX12_brings_27 : decode cX12_brings 27 = .ok (.if_icmp .ne 14, 3) := by decide +kernel
theorem dX12_brings_30 : decode cX12_brings 30 = .ok (.bipush (-2), 2) := by decide +kernel
theorem dX12_brings_32 : decode cX12_brings 32 = .ok (.aload_n 0, 1) := by decide +kernel
theorem dX12_brings_33 : decode cX12_brings 33 = .ok (.iload_n 3, 1) := by decide +kernel
theorem dX12_brings_34 : decode cX12_brings 34 = .ok (.iconst 3, 1) := by decide +kernel
theorem dX12_brings_35 : decode cX12_brings 35 = .ok (.iadd, 1) := by decide +kernel
theorem dX12_brings_36 : decode cX12_brings 36 = .ok (.iaload, 1) := by decide +kernel
theorem dX12_brings_37 : decode cX12_brings 37 = .ok (.imul, 1) := by decide +kernel
theorem dX12_brings_38 : decode cX12_brings 38 = .ok (.goto 9, 3) := by decide +kernel
theorem dX12_brings_41 : decode cX12_brings 41 = .ok (.aload_n 0, 1) := by decide +kernel
theorem dX12_brings_42 : decode cX12_brings 42 = .ok (.iload_n 3, 1) := by decide +kernel
theorem dX12_brings_43 : decode cX12_brings 43 = .ok (.iconst 3, 1) := by decide +kernel
theorem dX12_brings_44 : decode cX12_brings 44 = .ok (.iadd, 1) := by decide +kernel
theorem dX12_brings_45 : decode cX12_brings 45 = .ok (.iaload, 1) := by decide +kernel
theorem dX12_brings_46 : decode cX12_brings 46 = .ok (.ineg, 1) := by decide +kernel
theorem dX12_brings_47 : decode cX12_brings 47 = .ok (.ireturn, 1) := by decide +kernel
theorem dX12_brings_48 : decode cX12_brings 48 = .ok (.aload_n 0, 1) := by decide +kernel
theorem dX12_brings_49 : decode cX12_brings 49 = .ok (.iload_n 3, 1) := by decide +kernel
theorem dX12_brings_50 : decode cX12_brings 50 = .ok (.iaload, 1) := by decide +kernel
theorem dX12_brings_51 : decode cX12_brings 51 = .ok (.iconst 2, 1) := by decide +kernel
theorem dX12_brings_52 : decode cX12_brings 52 = .ok (.if_icmp .ne 13, 3) := by decide +kernel
theorem dX12_brings_55 : decode cX12_brings 55 = .ok (.iconst 2, 1) := by decide +kernel
theorem dX12_brings_56 : decode cX12_brings 56 = .ok (.aload_n 0, 1) := by decide +kernel
theorem dX12_brings_57 : decode cX12_brings 57 = .ok (.iload_n 3, 1) := by decide +kernel
theorem dX12_brings_58 : decode cX12_brings 58 = .ok (.iconst 2, 1) := by decide +kernel
theorem dX12_brings_59 : decode cX12_brings 59 = .ok (.iadd, 1) := by decide +kernel
theorem dX12_brings_60 : decode cX12_brings 60 = .ok (.iaload, 1) := by decide +kernel
theorem dX12_brings_61 : decode cX12_brings 61 = .ok (.imul, 1) := by decide +kernel
theorem dX12_brings_62 : decode cX12_brings 62 = .ok (.goto 8, 3) := by decide +kernel
theorem dX12_brings_65 : decode cX12_brings 65 = .ok (.aload_n 0, 1) := by decide +kernel
theorem dX12_brings_66 : decode cX12_brings 66 = .ok (.iload_n 3, 1) := by decide +kernel
theorem dX12_brings_67 : decode cX12_brings 67 = .ok (.iconst 2, 1) := by decide +kernel
theorem dX12_brings_68 : decode cX12_brings 68 = .ok (.iadd, 1) := by decide +kernel
theorem dX12_brings_69 : decode cX12_brings 69 = .ok (.iaload, 1) := by decide +kernel
theorem dX12_brings_70 : decode cX12_brings 70 = .ok (.ireturn, 1) := by decide +kernel
theorem dX12_notes_0 : decode cX12_notes 0 = .ok (.aload_n 0, 1) := by decide +kernel
theorem dX12_notes_1 : decode cX12_notes 1 = .ok (.getfield 138, 3) := by decide +kernel
theorem dX12_notes_4 : decode cX12_notes 4 = .ok (.bipush 24, 2) := by decide +kernel
theorem dX12_notes_6 : decode cX12_notes 6 = .ok (.if_icmp .ne 43, 3) := by decide +kernel
theorem dX12_notes_9 : decode cX12_notes 9 = .ok (.iconst 0, 1) := by decide +kernel
theorem dX12_notes_10 : decode cX12_notes 10 = .ok (.istore_n 1, 1) := by decide +kernel
theorem dX12_notes_11 : decode cX12_notes 11 = .ok (.iload_n 1, 1) := by decide +kernel
theorem dX12_notes_12 : decode cX12_notes 12 = .ok (.sipush 253, 3) := by decide +kernel
theorem dX12_notes_15 : decode cX12_notes 15 = .ok (.if_icmp .ge 24, 3) := by decide +kernel
theorem dX12_notes_18 : decode cX12_notes 18 = .ok (.aload_n 0, 1) := by decide +kernel
theorem dX12_notes_19 : decode cX12_notes 19 = .ok (.getfield 34, 3) := by decide +kernel
theorem dX12_notes_22 : decode cX12_notes 22 = .ok (.iload_n 1, 1) := by decide +kernel
theorem dX12_notes_23 : decode cX12_notes 23 = .ok (.aload_n 0, 1) := by decide +kernel
theorem dX12_notes_24 : decode cX12_notes 24 = .ok (.getfield 34, 3) := by decide +kernel
theorem dX12_notes_27 : decode cX12_notes 27 = .ok (.iload_n 1, 1) := by decide +kernel
theorem dX12_notes_28 : decode cX12_notes 28 = .ok (.bipush 11, 2) := by decide +kernel
theorem dX12_notes_30 : decode cX12_notes 30 = .ok (.iadd, 1) := by decide +kernel
theorem dX12_notes_31 : decode cX12_notes 31 = .ok (.iaload, 1) := by decide +kernel
theorem dX12_notes_32 : decode cX12_notes 32 = .ok (.iastore, 1) := by decide +kernel
theorem dX12_notes_33 : decode cX12_notes 33 = .ok (.iinc 1 1, 3) := by decide +kernel
theorem dX12_notes_36 : decode cX12_notes 36 = .ok (.goto (-25), 3) := by decide +kernel
theorem dX12_notes_39 : decode cX12_notes 39 = .ok (.aload_n 0, 1) := by decide +kernel
theorem dX12_notes_40 : decode cX12_notes 40 = .ok (.dup, 1) := by decide +kernel
theorem dX12_notes_41 : decode cX12_notes 41 = .ok (.getfield 138, 3) := by decide +kernel
theorem dX12_notes_44 : decode cX12_notes 44 = .ok (.iconst 1, 1) := by decide +kernel
theorem dX12_notes_45 : decode cX12_notes 45 = .ok (.isub, 1) := by decide +kernel
theorem dX12_notes_46 : decode cX12_notes 46 = .ok (.putfield 138, 3) := by decide +kernel
theorem dX12_notes_49 : decode cX12_notes 49 = .ok (.bipush 11, 2) := by decide +kernel
theorem dX12_notes_51 : decode cX12_notes 51 = .ok (.aload_n 0, 1) := by decide +kernel
theorem dX12_notes_52 : decode cX12_notes 52 = .ok (.getfield 138, 3) := by decide +kernel
theorem dX12_notes_55 : decode cX12_notes 55 = .ok (.imul, 1) := by decide +kernel
theorem dX12_notes_56 : decode cX12_notes 56 = .ok (.istore_n 1, 1) := by decide +kernel
theorem dX12_notes_57 : decode cX12_notes 57 = .ok (.aload_n 0, 1) := by decide +kernel
theorem dX12_notes_58 : decode cX12_notes 58 = .ok (.getfield 34, 3) := by decide +kernel
theorem dX12_notes_61 : decode cX12_notes 61 = .ok (.iload_n 1, 1) := by decide +kernel
theorem dX12_notes_62 : decode cX12_notes 62 = .ok (.aload_n 0, 1) := by decide +kernel
theorem dX12_notes_63 : decode cX12_notes 63 = .ok (.getfield 25, 3) := by decide +kernel
theorem dX12_notes_66 : decode cX12_notes 66 = .ok (.iconst 2, 1) := by decide +kernel
theorem dX12_notes_67 : decode cX12_notes 67 = .ok (.iaload, 1) := by decide +kernel
theorem dX12_notes_68 : decode cX12_notes 68 = .ok (.iastore, 1) := by decide +kernel
theorem dX12_notes_69 : decode cX12_notes 69 = .ok (.aload_n 0, 1) := by decide +kernel
theorem dX12_notes_70 : decode cX12_notes 70 = .ok (.getfield 34, 3) := by decide +kernel
theorem dX12_notes_73 : decode cX12_notes 73 = .ok (.iload_n 1, 1) := by decide +kernel
theorem dX12_notes_74 : decode cX12_notes 74 = .ok (.iconst 1, 1) := by decide +kernel
theorem dX12_notes_75 : decode cX12_notes 75 = .ok (.iadd, 1) := by decide +kernel
theorem dX12_notes_76 : decode cX12_notes 76 = .ok (.aload_n 0, 1) := by decide +kernel
theorem dX12_notes_77 : decode cX12_notes 77 = .ok (.getfield 25, 3) := by decide +kernel
theorem dX12_notes_80 : decode cX12_notes 80 = .ok (.iconst 3, 1) := by decide +kernel
theorem dX12_notes_81 : decode cX12_notes 81 = .ok (.iaload, 1) := by decide +kernel
theorem dX12_notes_82 : decode cX12_notes 82 = .ok (.iastore, 1) := by decide +kernel
theorem dX12_notes_83 : decode cX12_notes 83 = .ok (.aload_n 0, 1) := by decide +kernel
theorem dX12_notes_84 : decode cX12_notes 84 = .ok (.getfield 34, 3) := by decide +kernel
theorem dX12_notes_87 : decode cX12_notes 87 = .ok (.iload_n 1, 1) := by decide +kernel
theorem dX12_notes_88 : decode cX12_notes 88 = .ok (.iconst 2, 1) := by decide +kernel
theorem dX12_notes_89 : decode cX12_notes 89 = .ok (.iadd, 1) := by decide +kernel
theorem dX12_notes_90 : decode cX12_notes 90 = .ok (.aload_n 0, 1) := by decide +kernel
theorem dX12_notes_91 : decode cX12_notes 91 = .ok (.getfield 25, 3) := by decide +kernel
theorem dX12_notes_94 : decode cX12_notes 94 = .ok (.iconst 4, 1) := by decide +kernel
theorem dX12_notes_95 : decode cX12_notes 95 = .ok (.iaload, 1) := by decide +kernel
theorem dX12_notes_96 : decode cX12_notes 96 = .ok (.iastore, 1) := by decide +kernel
theorem dX12_notes_97 : decode cX12_notes 97 = .ok (.aload_n 0, 1) := by decide +kernel
theorem dX12_notes_98 : decode cX12_notes 98 = .ok (.getfield 34, 3) := by decide +kernel
theorem dX12_notes_101 : decode cX12_notes 101 = .ok (.iload_n 1, 1) := by decide +kernel
theorem dX12_notes_102 : decode cX12_notes 102 = .ok (.iconst 3, 1) := by decide +kernel
theorem dX12_notes_103 : decode cX12_notes 103 = .ok (.iadd, 1) := by decide +kernel
theorem dX12_notes_104 : decode cX12_notes 104 = .ok (.aload_n 0, 1) := by decide +kernel
theorem dX12_notes_105 : decode cX12_notes 105 = .ok (.getfield 25, 3) := by decide +kernel
theorem dX12_notes_108 : decode cX12_notes 108 = .ok (.iconst 5, 1) := by decide +kernel
theorem dX12_notes_109 : decode cX12_notes 109 = .ok (.iaload, 1) := by decide +kernel
theorem dX12_notes_110 : decode cX12_notes 110 = .ok (.iastore, 1) := by decide +kernel
theorem dX12_notes_111 : decode cX12_notes 111 = .ok (.aload_n 0, 1) := by decide +kernel
theorem dX12_notes_112 : decode cX12_notes 112 = .ok (.getfield 34, 3) := by decide +kernel
theorem dX12_notes_115 : decode cX12_notes 115 = .ok (.iload_n 1, 1) := by decide +kernel
theorem dX12_notes_116 : decode cX12_notes 116 = .ok (.iconst 4, 1) := by decide +kernel
theorem dX12_notes_117 : decode cX12_notes 117 = .ok (.iadd, 1) := by decide +kernel
theorem dX12_notes_118 : decode cX12_notes 118 = .ok (.aload_n 0, 1) := by decide +kernel
theorem dX12_notes_119 : decode cX12_notes 119 = .ok (.getfield 25, 3) := by decide +kernel
theorem dX12_notes_122 : decode cX12_notes 122 = .ok (.bipush 24, 2) := by decide +kernel
theorem dX12_notes_124 : decode cX12_notes 124 = .ok (.aload_n 0, 1) := by decide +kernel
theorem dX12_notes_125 : decode cX12_notes 125 = .ok (.getfield 25, 3) := by decide +kernel
theorem dX12_notes_128 : decode cX12_notes 128 = .ok (.iconst 5, 1) := by decide +kernel
theorem dX12_notes_129 : decode cX12_notes 129 = .ok (.iaload, 1) := by decide +kernel
theorem dX12_notes_130 : decode cX12_notes 130 = .ok (.iadd, 1) := by decide +kernel
theorem dX12_notes_131 : decode cX12_notes 131 = .ok (.iaload, 1) := by decide +kernel
theorem dX12_notes_132 : decode cX12_notes 132 = .ok (.iastore, 1) := by decide +kernel
theorem dX12_notes_133 : decode cX12_notes 133 = .ok (.iconst 0, 1) := by decide +kernel
theorem dX12_notes_134 : decode cX12_notes 134 = .ok (.istore_n 2, 1) := by decide +kernel
theorem dX12_notes_135 : decode cX12_notes 135 = .ok (.iload_n 2, 1) := by decide +kernel
theorem dX12_notes_136 : decode cX12_notes 136 = .ok (.iconst 3, 1) := by decide +kernel
theorem dX12_notes_137 : decode cX12_notes 137 = .ok (.if_icmp .ge 58, 3) := by decide +kernel
theorem dX12_notes_140 : decode cX12_notes 140 = .ok (.aload_n 0, 1) := by decide +kernel
theorem dX12_notes_141 : decode cX12_notes 141 = .ok (.getfield 34, 3) := by decide +kernel
theorem dX12_notes_144 : decode cX12_notes 144 = .ok (.iload_n 1, 1) := by decide +kernel
theorem dX12_notes_145 : decode cX12_notes 145 = .ok (.iconst 5, 1) := by decide +kernel
theorem dX12_notes_146 : decode cX12_notes 146 = .ok (.iadd, 1) := by decide +kernel
theorem dX12_notes_147 : decode cX12_notes 147 = .ok (.iload_n 2, 1) := by decide +kernel
theorem dX12_notes_148 : decode cX12_notes 148 = .ok (.iadd, 1) := by decide +kernel
theorem dX12_notes_149 : decode cX12_notes 149 = .ok (.aload_n 0, 1) := by decide +kernel
theorem dX12_notes_150 : decode cX12_notes 150 = .ok (.getfield 25, 3) := by decide +kernel
theorem dX12_notes_153 : decode cX12_notes 153 = .ok (.bipush 6, 2) := by decide +kernel
theorem dX12_notes_155 : decode cX12_notes 155 = .ok (.bipush 6, 2) := by decide +kernel
theorem dX12_notes_157 : decode cX12_notes 157 = .ok (.iload_n 2, 1) := by decide +kernel
theorem dX12_notes_158 : decode cX12_notes 158 = .ok (.imul, 1) := by decide +kernel
theorem dX12_notes_159 : decode cX12_notes 159 = .ok (.iadd, 1) := by decide +kernel
theorem dX12_notes_160 : decode cX12_notes 160 = .ok (.iconst 4, 1) := by decide +kernel
theorem dX12_notes_161 : decode cX12_notes 161 = .ok (.iadd, 1) := by decide +kernel
theorem dX12_notes_162 : decode cX12_notes 162 = .ok (.iaload, 1) := by decide +kernel
theorem dX12_notes_163 : decode cX12_notes 163 = .ok (.iastore, 1) := by decide +kernel
theorem dX12_notes_164 : decode cX12_notes 164 = .ok (.aload_n 0, 1) := by decide +kernel
theorem dX12_notes_165 : decode cX12_notes 165 = .ok (.getfield 34, 3) := by decide +kernel
theorem dX12_notes_168 : decode cX12_notes 168 = .ok (.iload_n 1, 1) := by decide +kernel
theorem dX12_notes_169 : decode cX12_notes 169 = .ok (.bipush 8, 2) := by decide +kernel
theorem dX12_notes_171 : decode cX12_notes 171 = .ok (.iadd, 1) := by decide +kernel
theorem dX12_notes_172 : decode cX12_notes 172 = .ok (.iload_n 2, 1) := by decide +kernel
theorem dX12_notes_173 : decode cX12_notes 173 = .ok (.iadd, 1) := by decide +kernel
theorem dX12_notes_174 : decode cX12_notes 174 = .ok (.aload_n 0, 1) := by decide +kernel
theorem dX12_notes_175 : decode cX12_notes 175 = .ok (.getfield 25, 3) := by decide +kernel
theorem dX12_notes_178 : decode cX12_notes 178 = .ok (.bipush 6, 2) := by decide +kernel
theorem dX12_notes_180 : decode cX12_notes 180 = .ok (.bipush 6, 2) := by decide +kernel
theorem dX12_notes_182 : decode cX12_notes 182 = .ok (.iload_n 2, 1) := by decide +kernel
theorem dX12_notes_183 : decode cX12_notes 183 = .ok (.imul, 1) := by decide +kernel
theorem dX12_notes_184 : decode cX12_notes 184 = .ok (.iadd, 1) := by decide +kernel
theorem dX12_notes_185 : decode cX12_notes 185 = .ok (.iconst 5, 1) := by decide +kernel
theorem dX12_notes_186 : decode cX12_notes 186 = .ok (.iadd, 1) := by decide +kernel
theorem dX12_notes_187 : decode cX12_notes 187 = .ok (.iaload, 1) := by decide +kernel
theorem dX12_notes_188 : decode cX12_notes 188 = .ok (.iastore, 1) := by decide +kernel
theorem dX12_notes_189 : decode cX12_notes 189 = .ok (.iinc 2 1, 3) := by decide +kernel
theorem dX12_notes_192 : decode cX12_notes 192 = .ok (.goto (-57), 3) := by decide +kernel
theorem dX12_notes_195 : decode cX12_notes 195 = .ok (.aload_n 0, 1) := by decide +kernel
theorem dX12_notes_196 : decode cX12_notes 196 = .ok (.dup, 1) := by decide +kernel
theorem dX12_notes_197 : decode cX12_notes 197 = .ok (.getfield 138, 3) := by decide +kernel
theorem dX12_notes_200 : decode cX12_notes 200 = .ok (.iconst 1, 1) := by decide +kernel
theorem dX12_notes_201 : decode cX12_notes 201 = .ok (.iadd, 1) := by decide +kernel
theorem dX12_notes_202 : decode cX12_notes 202 = .ok (.putfield 138, 3) := by decide +kernel
theorem dX12_notes_205 : decode cX12_notes 205 = .ok (.return_, 1) := by decide +kernel
theorem dX12_undo_0 : decode cX12_undo 0 = .ok (.aload_n 0, 1) := by decide +kernel
theorem dX12_undo_1 : decode cX12_undo 1 = .ok (.getfield 138, 3) := by decide +kernel
theorem dX12_undo_4 : decode cX12_undo 4 = .ok (.ifCond .ne 6, 3) := by decide +kernel
theorem dX12_undo_7 : decode cX12_undo 7 = .ok (.ldc 145, 2) := by decide +kernel
theorem dX12_undo_9 : decode cX12_undo 9 = .ok (.ireturn, 1) := by decide +kernel
theorem dX12_undo_10 : decode cX12_undo 10 = .ok (.aload_n 0, 1) := by decide +kernel
theorem dX12_undo_11 : decode cX12_undo 11 = .ok (.dup, 1) := by decide +kernel
theorem dX12_undo_12 : decode cX12_undo 12 = .ok (.getfield 138, 3) := by decide +kernel
theorem dX12_undo_15 : decode cX12_undo 15 = .ok (.iconst 1, 1) := by decide +kernel
theorem dX12_undo_16 : decode cX12_undo 16 = .ok (.isub, 1) := by decide +kernel
theorem dX12_undo_17 : decode cX12_undo 17 = .ok (.putfield 138, 3) := by decide +kernel
theorem dX12_undo_20 : decode cX12_undo 20 = .ok (.bipush 11, 2) := by decide +kernel
theorem dX12_undo_22 : decode cX12_undo 22 = .ok (.aload_n 0, 1) := by decide +kernel
theorem dX12_undo_23 : decode cX12_undo 23 = .ok (.getfield 138, 3) := by decide +kernel
theorem dX12_undo_26 : decode cX12_undo 26 = .ok (.imul, 1) := by decide +kernel
theorem dX12_undo_27 : decode cX12_undo 27 = .ok (.istore_n 1, 1) := by decide +kernel
theorem dX12_undo_28 : decode cX12_undo 28 = .ok (.aload_n 0, 1) := by decide +kernel
theorem dX12_undo_29 : decode cX12_undo 29 = .ok (.getfield 25, 3) := by decide +kernel
theorem dX12_undo_32 : decode cX12_undo 32 = .ok (.bipush 24, 2) := by decide +kernel
theorem dX12_undo_34 : decode cX12_undo 34 = .ok (.aload_n 0, 1) := by decide +kernel
theorem dX12_undo_35 : decode cX12_undo 35 = .ok (.getfield 25, 3) := by decide +kernel
theorem dX12_undo_38 : decode cX12_undo 38 = .ok (.iconst 5, 1) := by decide +kernel
theorem dX12_undo_39 : decode cX12_undo 39 = .ok (.iaload, 1) := by decide +kernel
theorem dX12_undo_40 : decode cX12_undo 40 = .ok (.iadd, 1) := by decide +kernel
theorem dX12_undo_41 : decode cX12_undo 41 = .ok (.iconst 0, 1) := by decide +kernel
theorem dX12_undo_42 : decode cX12_undo 42 = .ok (.iastore, 1) := by decide +kernel
theorem dX12_undo_43 : decode cX12_undo 43 = .ok (.aload_n 0, 1) := by decide +kernel
theorem dX12_undo_44 : decode cX12_undo 44 = .ok (.getfield 25, 3) := by decide +kernel
theorem dX12_undo_47 : decode cX12_undo 47 = .ok (.iconst 2, 1) := by decide +kernel
theorem dX12_undo_48 : decode cX12_undo 48 = .ok (.aload_n 0, 1) := by decide +kernel
theorem dX12_undo_49 : decode cX12_undo 49 = .ok (.getfield 34, 3) := by decide +kernel
theorem dX12_undo_52 : decode cX12_undo 52 = .ok (.iload_n 1, 1) := by decide +kernel
theorem dX12_undo_53 : decode cX12_undo 53 = .ok (.iaload, 1) := by decide +kernel
theorem dX12_undo_54 : decode cX12_undo 54 = .ok (.iastore, 1) := by decide +kernel
theorem dX12_undo_55 : decode cX12_undo 55 = .ok (.aload_n 0, 1) := by decide +kernel
theorem dX12_undo_56 : decode cX12_undo 56 = .ok (.getfield 25, 3) := by decide +kernel
theorem dX12_undo_59 : decode cX12_undo 59 = .ok (.iconst 3, 1) := by decide +kernel
theorem dX12_undo_60 : decode cX12_undo 60 = .ok (.aload_n 0, 1) := by decide +kernel
theorem dX12_undo_61 : decode cX12_undo 61 = .ok (.getfield 34, 3) := by decide +kernel
theorem dX12_undo_64 : decode cX12_undo 64 = .ok (.iload_n 1, 1) := by decide +kernel
theorem dX12_undo_65 : decode cX12_undo 65 = .ok (.iconst 1, 1) := by decide +kernel
theorem dX12_undo_66 : decode cX12_undo 66 = .ok (.iadd, 1) := by decide +kernel
theorem dX12_undo_67 : decode cX12_undo 67 = .ok (.iaload, 1) := by decide +kernel
theorem dX12_undo_68 : decode cX12_undo 68 = .ok (.iastore, 1) := by decide +kernel
theorem dX12_undo_69 : decode cX12_undo 69 = .ok (.aload_n 0, 1) := by decide +kernel
theorem dX12_undo_70 : decode cX12_undo 70 = .ok (.getfield 25, 3) := by decide +kernel
theorem dX12_undo_73 : decode cX12_undo 73 = .ok (.iconst 4, 1) := by decide +kernel
theorem dX12_undo_74 : decode cX12_undo 74 = .ok (.aload_n 0, 1) := by decide +kernel
theorem dX12_undo_75 : decode cX12_undo 75 = .ok (.getfield 34, 3) := by decide +kernel
theorem dX12_undo_78 : decode cX12_undo 78 = .ok (.iload_n 1, 1) := by decide +kernel
theorem dX12_undo_79 : decode cX12_undo 79 = .ok (.iconst 2, 1) := by decide +kernel
theorem dX12_undo_80 : decode cX12_undo 80 = .ok (.iadd, 1) := by decide +kernel
theorem dX12_undo_81 : decode cX12_undo 81 = .ok (.iaload, 1) := by decide +kernel
theorem dX12_undo_82 : decode cX12_undo 82 = .ok (.iastore, 1) := by decide +kernel
theorem dX12_undo_83 : decode cX12_undo 83 = .ok (.aload_n 0, 1) := by decide +kernel
theorem dX12_undo_84 : decode cX12_undo 84 = .ok (.getfield 25, 3) := by decide +kernel
theorem dX12_undo_87 : decode cX12_undo 87 = .ok (.iconst 5, 1) := by decide +kernel
theorem dX12_undo_88 : decode cX12_undo 88 = .ok (.aload_n 0, 1) := by decide +kernel
theorem dX12_undo_89 : decode cX12_undo 89 = .ok (.getfield 34, 3) := by decide +kernel
theorem dX12_undo_92 : decode cX12_undo 92 = .ok (.iload_n 1, 1) := by decide +kernel
theorem dX12_undo_93 : decode cX12_undo 93 = .ok (.iconst 3, 1) := by decide +kernel
theorem dX12_undo_94 : decode cX12_undo 94 = .ok (.iadd, 1) := by decide +kernel
theorem dX12_undo_95 : decode cX12_undo 95 = .ok (.iaload, 1) := by decide +kernel
theorem dX12_undo_96 : decode cX12_undo 96 = .ok (.iastore, 1) := by decide +kernel
theorem dX12_undo_97 : decode cX12_undo 97 = .ok (.aload_n 0, 1) := by decide +kernel
theorem dX12_undo_98 : decode cX12_undo 98 = .ok (.getfield 25, 3) := by decide +kernel
theorem dX12_undo_101 : decode cX12_undo 101 = .ok (.bipush 24, 2) := by decide +kernel
theorem dX12_undo_103 : decode cX12_undo 103 = .ok (.aload_n 0, 1) := by decide +kernel
theorem dX12_undo_104 : decode cX12_undo 104 = .ok (.getfield 25, 3) := by decide +kernel
theorem dX12_undo_107 : decode cX12_undo 107 = .ok (.iconst 5, 1) := by decide +kernel
theorem dX12_undo_108 : decode cX12_undo 108 = .ok (.iaload, 1) := by decide +kernel
theorem dX12_undo_109 : decode cX12_undo 109 = .ok (.iadd, 1) := by decide +kernel
theorem dX12_undo_110 : decode cX12_undo 110 = .ok (.aload_n 0, 1) := by decide +kernel
theorem dX12_undo_111 : decode cX12_undo 111 = .ok (.getfield 34, 3) := by decide +kernel
theorem dX12_undo_114 : decode cX12_undo 114 = .ok (.iload_n 1, 1) := by decide +kernel
theorem dX12_undo_115 : decode cX12_undo 115 = .ok (.iconst 4, 1) := by decide +kernel
theorem dX12_undo_116 : decode cX12_undo 116 = .ok (.iadd, 1) := by decide +kernel
theorem dX12_undo_117 : decode cX12_undo 117 = .ok (.iaload, 1) := by decide +kernel
theorem dX12_undo_118 : decode cX12_undo 118 = .ok (.iastore, 1) := by decide +kernel
theorem dX12_undo_119 : decode cX12_undo 119 = .ok (.iconst 0, 1) := by decide +kernel
theorem dX12_undo_120 : decode cX12_undo 120 = .ok (.istore_n 2, 1) := by decide +kernel
theorem dX12_undo_121 : decode cX12_undo 121 = .ok (.iload_n 2, 1) := by decide +kernel
theorem dX12_undo_122 : decode cX12_undo 122 = .ok (.iconst 3, 1) := by decide +kernel
theorem dX12_undo_123 : decode cX12_undo 123 = .ok (.if_icmp .ge 58, 3) := by decide +kernel
theorem dX12_undo_126 : decode cX12_undo 126 = .ok (.aload_n 0, 1) := by decide +kernel
theorem dX12_undo_127 : decode cX12_undo 127 = .ok (.getfield 25, 3) := by decide +kernel
theorem dX12_undo_130 : decode cX12_undo 130 = .ok (.bipush 6, 2) := by decide +kernel
theorem dX12_undo_132 : decode cX12_undo 132 = .ok (.bipush 6, 2) := by decide +kernel
theorem dX12_undo_134 : decode cX12_undo 134 = .ok (.iload_n 2, 1) := by decide +kernel
theorem dX12_undo_135 : decode cX12_undo 135 = .ok (.imul, 1) := by decide +kernel
theorem dX12_undo_136 : decode cX12_undo 136 = .ok (.iadd, 1) := by decide +kernel
theorem dX12_undo_137 : decode cX12_undo 137 = .ok (.iconst 4, 1) := by decide +kernel
theorem dX12_undo_138 : decode cX12_undo 138 = .ok (.iadd, 1) := by decide +kernel
theorem dX12_undo_139 : decode cX12_undo 139 = .ok (.aload_n 0, 1) := by decide +kernel
theorem dX12_undo_140 : decode cX12_undo 140 = .ok (.getfield 34, 3) := by decide +kernel
theorem dX12_undo_143 : decode cX12_undo 143 = .ok (.iload_n 1, 1) := by decide +kernel
theorem dX12_undo_144 : decode cX12_undo 144 = .ok (.iconst 5, 1) := by decide +kernel
theorem dX12_undo_145 : decode cX12_undo 145 = .ok (.iadd, 1) := by decide +kernel
theorem dX12_undo_146 : decode cX12_undo 146 = .ok (.iload_n 2, 1) := by decide +kernel
theorem dX12_undo_147 : decode cX12_undo 147 = .ok (.iadd, 1) := by decide +kernel
theorem dX12_undo_148 : decode cX12_undo 148 = .ok (.iaload, 1) := by decide +kernel
theorem dX12_undo_149 : decode cX12_undo 149 = .ok (.iastore, 1) := by decide +kernel
theorem dX12_undo_150 : decode cX12_undo 150 = .ok (.aload_n 0, 1) := by decide +kernel
theorem dX12_undo_151 : decode cX12_undo 151 = .ok (.getfield 25, 3) := by decide +kernel
theorem dX12_undo_154 : decode cX12_undo 154 = .ok (.bipush 6, 2) := by decide +kernel
theorem dX12_undo_156 : decode cX12_undo 156 = .ok (.bipush 6, 2) := by decide +kernel
theorem dX12_undo_158 : decode cX12_undo 158 = .ok (.iload_n 2, 1) := by decide +kernel
theorem dX12_undo_159 : decode cX12_undo 159 = .ok (.imul, 1) := by decide +kernel
theorem dX12_undo_160 : decode cX12_undo 160 = .ok (.iadd, 1) := by decide +kernel
theorem dX12_undo_161 : decode cX12_undo 161 = .ok (.iconst 5, 1) := by decide +kernel
theorem dX12_undo_162 : decode cX12_undo 162 = .ok (.iadd, 1) := by decide +kernel
theorem dX12_undo_163 : decode cX12_undo 163 = .ok (.aload_n 0, 1) := by decide +kernel
theorem dX12_undo_164 : decode cX12_undo 164 = .ok (.getfield 34, 3) := by decide +kernel
theorem dX12_undo_167 : decode cX12_undo 167 = .ok (.iload_n 1, 1) := by decide +kernel
theorem dX12_undo_168 : decode cX12_undo 168 = .ok (.bipush 8, 2) := by decide +kernel
theorem dX12_undo_170 : decode cX12_undo 170 = .ok (.iadd, 1) := by decide +kernel
theorem dX12_undo_171 : decode cX12_undo 171 = .ok (.iload_n 2, 1) := by decide +kernel
theorem dX12_undo_172 : decode cX12_undo 172 = .ok (.iadd, 1) := by decide +kernel
theorem dX12_undo_173 : decode cX12_undo 173 = .ok (.iaload, 1) := by decide +kernel
theorem dX12_undo_174 : decode cX12_undo 174 = .ok (.iastore, 1) := by decide +kernel
theorem dX12_undo_175 : decode cX12_undo 175 = .ok (.iinc 2 1, 3) := by decide +kernel
theorem dX12_undo_178 : decode cX12_undo 178 = .ok (.goto (-57), 3) := by decide +kernel
theorem dX12_undo_181 : decode cX12_undo 181 = .ok (.aload_n 0, 1) := by decide +kernel
theorem dX12_undo_182 : decode cX12_undo 182 = .ok (.getfield 138, 3) := by decide +kernel
theorem dX12_undo_185 : decode cX12_undo 185 = .ok (.ireturn, 1) := by decide +kernel
theorem dX12_after_0 : decode cX12_after 0 = .ok (.lload_n 0, 1) := by decide +kernel
theorem dX12_after_1 : decode cX12_after 1 = .ok (.ldc2_w 146, 3) := by decide +kernel
theorem dX12_after_4 : decode cX12_after 4 = .ok (.lmul, 1) := by decide +kernel
theorem dX12_after_5 : decode cX12_after 5 = .ok (.ldc2_w 148, 3) := by decide +kernel
theorem dX12_after_8 : decode cX12_after 8 = .ok (.lrem, 1) := by decide +kernel
theorem dX12_after_9 : decode cX12_after 9 = .ok (.lreturn, 1) := by decide +kernel
theorem dX12_passes_0 : decode cX12_passes 0 = .ok (.lload_n 1, 1) := by decide +kernel
theorem dX12_passes_1 : decode cX12_passes 1 = .ok (.lstore_n 3, 1) := by decide +kernel
theorem dX12_passes_2 : decode cX12_passes 2 = .ok (.aload_n 0, 1) := by decide +kernel
theorem dX12_passes_3 : decode cX12_passes 3 = .ok (.iconst 3, 1) := by decide +kernel
theorem dX12_passes_4 : decode cX12_passes 4 = .ok (.iconst 0, 1) := by decide +kernel
theorem dX12_passes_5 : decode cX12_passes 5 = .ok (.iastore, 1) := by decide +kernel
theorem dX12_passes_6 : decode cX12_passes 6 = .ok (.iconst 0, 1) := by decide +kernel
theorem dX12_passes_7 : decode cX12_passes 7 = .ok (.istore 5, 2) := by decide +kernel
theorem dX12_passes_9 : decode cX12_passes 9 = .ok (.iload 5, 2) := by decide +kernel
theorem dX12_passes_11 : decode cX12_passes 11 = .ok (.aload_n 0, 1) := by decide +kernel
theorem dX12_passes_12 : decode cX12_passes 12 = .ok (.iconst 1, 1) := by decide +kernel
theorem dX12_passes_13 : decode cX12_passes 13 = .ok (.iaload, 1) := by decide +kernel
theorem dX12_passes_14 : decode cX12_passes 14 = .ok (.if_icmp .ge 56, 3) := by decide +kernel
theorem dX12_passes_17 : decode cX12_passes 17 = .ok (.lload_n 3, 1) := by decide +kernel
theorem dX12_passes_18 : decode cX12_passes 18 = .ok (.invokestatic 150, 3) := by decide +kernel
theorem dX12_passes_21 : decode cX12_passes 21 = .ok (.lstore_n 3, 1) := by decide +kernel
theorem dX12_passes_22 : decode cX12_passes 22 = .ok (.aload_n 0, 1) := by decide +kernel
theorem dX12_passes_23 : decode cX12_passes 23 = .ok (.iconst 3, 1) := by decide +kernel
theorem dX12_passes_24 : decode cX12_passes 24 = .ok (.dup2, 1) := by decide +kernel
theorem dX12_passes_25 : decode cX12_passes 25 = .ok (.iaload, 1) := by decide +kernel
theorem dX12_passes_26 : decode cX12_passes 26 = .ok (.lload_n 3, 1) := by decide +kernel
theorem dX12_passes_27 : decode cX12_passes 27 = .ok (.ldc2_w 154, 3) := by decide +kernel
theorem dX12_passes_30 : decode cX12_passes 30 = .ok (.lrem, 1) := by decide +kernel
theorem dX12_passes_31 : decode cX12_passes 31 = .ok (.aload_n 0, 1) := by decide +kernel
theorem dX12_passes_32 : decode cX12_passes 32 = .ok (.iload 5, 2) := by decide +kernel
theorem dX12_passes_34 : decode cX12_passes 34 = .ok (.aload_n 0, 1) := by decide +kernel
theorem dX12_passes_35 : decode cX12_passes 35 = .ok (.bipush 6, 2) := by decide +kernel
theorem dX12_passes_37 : decode cX12_passes 37 = .ok (.bipush 6, 2) := by decide +kernel
theorem dX12_passes_39 : decode cX12_passes 39 = .ok (.iload 5, 2) := by decide +kernel
theorem dX12_passes_41 : decode cX12_passes 41 = .ok (.imul, 1) := by decide +kernel
theorem dX12_passes_42 : decode cX12_passes 42 = .ok (.iadd, 1) := by decide +kernel
theorem dX12_passes_43 : decode cX12_passes 43 = .ok (.iconst 5, 1) := by decide +kernel
theorem dX12_passes_44 : decode cX12_passes 44 = .ok (.iadd, 1) := by decide +kernel
theorem dX12_passes_45 : decode cX12_passes 45 = .ok (.iaload, 1) := by decide +kernel
theorem dX12_passes_46 : decode cX12_passes 46 = .ok (.invokestatic 156, 3) := by decide +kernel
theorem dX12_passes_49 : decode cX12_passes 49 = .ok (.i2l, 1) := by decide +kernel
theorem dX12_passes_50 : decode cX12_passes 50 = .ok (.lcmp, 1) := by decide +kernel
theorem dX12_passes_51 : decode cX12_passes 51 = .ok (.ifCond .ge 10, 3) := by decide +kernel
theorem dX12_passes_54 : decode cX12_passes 54 = .ok (.iconst 1, 1) := by decide +kernel
theorem dX12_passes_55 : decode cX12_passes 55 = .ok (.iload 5, 2) := by decide +kernel
theorem dX12_passes_57 : decode cX12_passes 57 = .ok (.ishl, 1) := by decide +kernel
theorem dX12_passes_58 : decode cX12_passes 58 = .ok (.goto 4, 3) := by decide +kernel
theorem dX12_passes_61 : decode cX12_passes 61 = .ok (.iconst 0, 1) := by decide +kernel
theorem dX12_passes_62 : decode cX12_passes 62 = .ok (.ior, 1) := by decide +kernel
theorem dX12_passes_63 : decode cX12_passes 63 = .ok (.iastore, 1) := by decide +kernel
theorem dX12_passes_64 : decode cX12_passes 64 = .ok (.iinc 5 1, 3) := by decide +kernel
theorem dX12_passes_67 : decode cX12_passes 67 = .ok (.goto (-58), 3) := by decide +kernel
theorem dX12_passes_70 : decode cX12_passes 70 = .ok (.aload_n 0, 1) := by decide +kernel
theorem dX12_passes_71 : decode cX12_passes 71 = .ok (.iconst 4, 1) := by decide +kernel
theorem dX12_passes_72 : decode cX12_passes 72 = .ok (.iconst 1, 1) := by decide +kernel
theorem dX12_passes_73 : decode cX12_passes 73 = .ok (.iastore, 1) := by decide +kernel
theorem dX12_passes_74 : decode cX12_passes 74 = .ok (.lload_n 3, 1) := by decide +kernel
theorem dX12_passes_75 : decode cX12_passes 75 = .ok (.lreturn, 1) := by decide +kernel
theorem dX12_againBy_0 : decode cX12_againBy 0 = .ok (.aload_n 0, 1) := by decide +kernel
theorem dX12_againBy_1 : decode cX12_againBy 1 = .ok (.iconst 2, 1) := by decide +kernel
theorem dX12_againBy_2 : decode cX12_againBy 2 = .ok (.dup2, 1) := by decide +kernel
theorem dX12_againBy_3 : decode cX12_againBy 3 = .ok (.iaload, 1) := by decide +kernel
theorem dX12_againBy_4 : decode cX12_againBy 4 = .ok (.iconst 1, 1) := by decide +kernel
theorem dX12_againBy_5 : decode cX12_againBy 5 = .ok (.iload_n 1, 1) := by decide +kernel
theorem dX12_againBy_6 : decode cX12_againBy 6 = .ok (.ishl, 1) := by decide +kernel
theorem dX12_againBy_7 : decode cX12_againBy 7 = .ok (.iconst (-1), 1) := by decide +kernel
theorem dX12_againBy_8 : decode cX12_againBy 8 = .ok (.ixor, 1) := by decide +kernel
theorem dX12_againBy_9 : decode cX12_againBy 9 = .ok (.iand, 1) := by decide +kernel
theorem dX12_againBy_10 : decode cX12_againBy 10 = .ok (.iastore, 1) := by decide +kernel
theorem dX12_againBy_11 : decode cX12_againBy 11 = .ok (.aload_n 0, 1) := by decide +kernel
theorem dX12_againBy_12 : decode cX12_againBy 12 = .ok (.bipush 6, 2) := by decide +kernel
theorem dX12_againBy_14 : decode cX12_againBy 14 = .ok (.bipush 6, 2) := by decide +kernel
theorem dX12_againBy_16 : decode cX12_againBy 16 = .ok (.iload_n 1, 1) := by decide +kernel
theorem dX12_againBy_17 : decode cX12_againBy 17 = .ok (.imul, 1) := by decide +kernel
theorem dX12_againBy_18 : decode cX12_againBy 18 = .ok (.iadd, 1) := by decide +kernel
theorem dX12_againBy_19 : decode cX12_againBy 19 = .ok (.iconst 5, 1) := by decide +kernel
theorem dX12_againBy_20 : decode cX12_againBy 20 = .ok (.iadd, 1) := by decide +kernel
theorem dX12_againBy_21 : decode cX12_againBy 21 = .ok (.dup2, 1) := by decide +kernel
theorem dX12_againBy_22 : decode cX12_againBy 22 = .ok (.iaload, 1) := by decide +kernel
theorem dX12_againBy_23 : decode cX12_againBy 23 = .ok (.iconst 1, 1) := by decide +kernel
theorem dX12_againBy_24 : decode cX12_againBy 24 = .ok (.iadd, 1) := by decide +kernel
theorem dX12_againBy_25 : decode cX12_againBy 25 = .ok (.iastore, 1) := by decide +kernel
theorem dX12_againBy_26 : decode cX12_againBy 26 = .ok (.aload_n 0, 1) := by decide +kernel
theorem dX12_againBy_27 : decode cX12_againBy 27 = .ok (.iconst 4, 1) := by decide +kernel
theorem dX12_againBy_28 : decode cX12_againBy 28 = .ok (.iconst 0, 1) := by decide +kernel
theorem dX12_againBy_29 : decode cX12_againBy 29 = .ok (.iastore, 1) := by decide +kernel
theorem dX12_againBy_30 : decode cX12_againBy 30 = .ok (.aload_n 0, 1) := by decide +kernel
theorem dX12_againBy_31 : decode cX12_againBy 31 = .ok (.iconst 3, 1) := by decide +kernel
theorem dX12_againBy_32 : decode cX12_againBy 32 = .ok (.iconst 0, 1) := by decide +kernel
theorem dX12_againBy_33 : decode cX12_againBy 33 = .ok (.iastore, 1) := by decide +kernel
theorem dX12_againBy_34 : decode cX12_againBy 34 = .ok (.return_, 1) := by decide +kernel
theorem dX12_stands_0 : decode cX12_stands 0 = .ok (.iconst 0, 1) := by decide +kernel
theorem dX12_stands_1 : decode cX12_stands 1 = .ok (.istore_n 1, 1) := by decide +kernel
theorem dX12_stands_2 : decode cX12_stands 2 = .ok (.iload_n 1, 1) := by decide +kernel
theorem dX12_stands_3 : decode cX12_stands 3 = .ok (.aload_n 0, 1) := by decide +kernel
theorem dX12_stands_4 : decode cX12_stands 4 = .ok (.iconst 1, 1) := by decide +kernel
theorem dX12_stands_5 : decode cX12_stands 5 = .ok (.iaload, 1) := by decide +kernel
theorem dX12_stands_6 : decode cX12_stands 6 = .ok (.if_icmp .ge 47, 3) := by decide +kernel
theorem dX12_stands_9 : decode cX12_stands 9 = .ok (.aload_n 0, 1) := by decide +kernel
theorem dX12_stands_10 : decode cX12_stands 10 = .ok (.bipush 6, 2) := by decide +kernel
theorem dX12_stands_12 : decode cX12_stands 12 = .ok (.bipush 6, 2) := by decide +kernel
theorem dX12_stands_14 : decode cX12_stands 14 = .ok (.iload_n 1, 1) := by decide +kernel
theorem dX12_stands_15 : decode cX12_stands 15 = .ok (.imul, 1) := by decide +kernel
theorem dX12_stands_16 : decode cX12_stands 16 = .ok (.iadd, 1) := by decide +kernel
theorem dX12_stands_17 : decode cX12_stands 17 = .ok (.iconst 4, 1) := by decide +kernel
theorem dX12_stands_18 : decode cX12_stands 18 = .ok (.iadd, 1) := by decide +kernel
theorem dX12_stands_19 : decode cX12_stands 19 = .ok (.dup2, 1) := by decide +kernel
theorem dX12_stands_20 : decode cX12_stands 20 = .ok (.iaload, 1) := by decide +kernel
theorem dX12_stands_21 : decode cX12_stands 21 = .ok (.aload_n 0, 1) := by decide +kernel
theorem dX12_stands_22 : decode cX12_stands 22 = .ok (.iload_n 1, 1) := by decide +kernel
theorem dX12_stands_23 : decode cX12_stands 23 = .ok (.aload_n 0, 1) := by decide +kernel
theorem dX12_stands_24 : decode cX12_stands 24 = .ok (.iconst 3, 1) := by decide +kernel
theorem dX12_stands_25 : decode cX12_stands 25 = .ok (.iaload, 1) := by decide +kernel
theorem dX12_stands_26 : decode cX12_stands 26 = .ok (.iload_n 1, 1) := by decide +kernel
theorem dX12_stands_27 : decode cX12_stands 27 = .ok (.invokestatic 160, 3) := by decide +kernel
theorem dX12_stands_30 : decode cX12_stands 30 = .ok (.invokestatic 164, 3) := by decide +kernel
theorem dX12_stands_33 : decode cX12_stands 33 = .ok (.iadd, 1) := by decide +kernel
theorem dX12_stands_34 : decode cX12_stands 34 = .ok (.iastore, 1) := by decide +kernel
theorem dX12_stands_35 : decode cX12_stands 35 = .ok (.aload_n 0, 1) := by decide +kernel
theorem dX12_stands_36 : decode cX12_stands 36 = .ok (.bipush 6, 2) := by decide +kernel
theorem dX12_stands_38 : decode cX12_stands 38 = .ok (.bipush 6, 2) := by decide +kernel
theorem dX12_stands_40 : decode cX12_stands 40 = .ok (.iload_n 1, 1) := by decide +kernel
theorem dX12_stands_41 : decode cX12_stands 41 = .ok (.imul, 1) := by decide +kernel
theorem dX12_stands_42 : decode cX12_stands 42 = .ok (.iadd, 1) := by decide +kernel
theorem dX12_stands_43 : decode cX12_stands 43 = .ok (.iconst 5, 1) := by decide +kernel
theorem dX12_stands_44 : decode cX12_stands 44 = .ok (.iadd, 1) := by decide +kernel
theorem dX12_stands_45 : decode cX12_stands 45 = .ok (.iconst 0, 1) := by decide +kernel
theorem dX12_stands_46 : decode cX12_stands 46 = .ok (.iastore, 1) := by decide +kernel
theorem dX12_stands_47 : decode cX12_stands 47 = .ok (.iinc 1 1, 3) := by decide +kernel
theorem dX12_stands_50 : decode cX12_stands 50 = .ok (.goto (-48), 3) := by decide +kernel
theorem dX12_stands_53 : decode cX12_stands 53 = .ok (.aload_n 0, 1) := by decide +kernel
theorem dX12_stands_54 : decode cX12_stands 54 = .ok (.iconst 4, 1) := by decide +kernel
theorem dX12_stands_55 : decode cX12_stands 55 = .ok (.iconst 0, 1) := by decide +kernel
theorem dX12_stands_56 : decode cX12_stands 56 = .ok (.iastore, 1) := by decide +kernel
theorem dX12_stands_57 : decode cX12_stands 57 = .ok (.aload_n 0, 1) := by decide +kernel
theorem dX12_stands_58 : decode cX12_stands 58 = .ok (.iconst 3, 1) := by decide +kernel
theorem dX12_stands_59 : decode cX12_stands 59 = .ok (.iconst 0, 1) := by decide +kernel
theorem dX12_stands_60 : decode cX12_stands 60 = .ok (.iastore, 1) := by decide +kernel
theorem dX12_stands_61 : decode cX12_stands 61 = .ok (.return_, 1) := by decide +kernel
theorem dX12_live_0 : decode cX12_live 0 = .ok (.aload_n 0, 1) := by decide +kernel
theorem dX12_live_1 : decode cX12_live 1 = .ok (.invokevirtual 168, 3) := by decide +kernel
theorem dX12_live_4 : decode cX12_live 4 = .ok (.ifCond .ne 6, 3) := by decide +kernel
theorem dX12_live_7 : decode cX12_live 7 = .ok (.ldc 145, 2) := by decide +kernel
theorem dX12_live_9 : decode cX12_live 9 = .ok (.ireturn, 1) := by decide +kernel
theorem dX12_live_10 : decode cX12_live 10 = .ok (.iload_n 1, 1) := by decide +kernel
theorem dX12_live_11 : decode cX12_live 11 = .ok (.iconst 1, 1) := by decide +kernel
theorem dX12_live_12 : decode cX12_live 12 = .ok (.ldc 171, 2) := by decide +kernel
theorem dX12_live_14 : decode cX12_live 14 = .ok (.invokestatic 66, 3) := by decide +kernel
theorem dX12_live_17 : decode cX12_live 17 = .ok (.ifCond .ne 6, 3) := by decide +kernel
theorem dX12_live_20 : decode cX12_live 20 = .ok (.ldc 74, 2) := by decide +kernel
theorem dX12_live_22 : decode cX12_live 22 = .ok (.ireturn, 1) := by decide +kernel
theorem dX12_live_23 : decode cX12_live 23 = .ok (.aload_n 0, 1) := by decide +kernel
theorem dX12_live_24 : decode cX12_live 24 = .ok (.getfield 25, 3) := by decide +kernel
theorem dX12_live_27 : decode cX12_live 27 = .ok (.iconst 4, 1) := by decide +kernel
theorem dX12_live_28 : decode cX12_live 28 = .ok (.iaload, 1) := by decide +kernel
theorem dX12_live_29 : decode cX12_live 29 = .ok (.iconst 1, 1) := by decide +kernel
theorem dX12_live_30 : decode cX12_live 30 = .ok (.if_icmp .ne 6, 3) := by decide +kernel
theorem dX12_live_33 : decode cX12_live 33 = .ok (.ldc 145, 2) := by decide +kernel
theorem dX12_live_35 : decode cX12_live 35 = .ok (.ireturn, 1) := by decide +kernel
theorem dX12_live_36 : decode cX12_live 36 = .ok (.aload_n 0, 1) := by decide +kernel
theorem dX12_live_37 : decode cX12_live 37 = .ok (.invokevirtual 172, 3) := by decide +kernel
theorem dX12_live_40 : decode cX12_live 40 = .ok (.aload_n 0, 1) := by decide +kernel
theorem dX12_live_41 : decode cX12_live 41 = .ok (.getfield 25, 3) := by decide +kernel
theorem dX12_live_44 : decode cX12_live 44 = .ok (.iload_n 1, 1) := by decide +kernel
theorem dX12_live_45 : decode cX12_live 45 = .ok (.i2l, 1) := by decide +kernel
theorem dX12_live_46 : decode cX12_live 46 = .ok (.invokestatic 175, 3) := by decide +kernel
theorem dX12_live_49 : decode cX12_live 49 = .ok (.pop2, 1) := by decide +kernel
theorem dX12_live_50 : decode cX12_live 50 = .ok (.aload_n 0, 1) := by decide +kernel
theorem dX12_live_51 : decode cX12_live 51 = .ok (.getfield 25, 3) := by decide +kernel
theorem dX12_live_54 : decode cX12_live 54 = .ok (.bipush 24, 2) := by decide +kernel
theorem dX12_live_56 : decode cX12_live 56 = .ok (.aload_n 0, 1) := by decide +kernel
theorem dX12_live_57 : decode cX12_live 57 = .ok (.getfield 25, 3) := by decide +kernel
theorem dX12_live_60 : decode cX12_live 60 = .ok (.iconst 5, 1) := by decide +kernel
theorem dX12_live_61 : decode cX12_live 61 = .ok (.iaload, 1) := by decide +kernel
theorem dX12_live_62 : decode cX12_live 62 = .ok (.iadd, 1) := by decide +kernel
theorem dX12_live_63 : decode cX12_live 63 = .ok (.dup2, 1) := by decide +kernel
theorem dX12_live_64 : decode cX12_live 64 = .ok (.iaload, 1) := by decide +kernel
theorem dX12_live_65 : decode cX12_live 65 = .ok (.iconst 1, 1) := by decide +kernel
theorem dX12_live_66 : decode cX12_live 66 = .ok (.iadd, 1) := by decide +kernel
theorem dX12_live_67 : decode cX12_live 67 = .ok (.iastore, 1) := by decide +kernel
theorem dX12_live_68 : decode cX12_live 68 = .ok (.aload_n 0, 1) := by decide +kernel
theorem dX12_live_69 : decode cX12_live 69 = .ok (.getfield 25, 3) := by decide +kernel
theorem dX12_live_72 : decode cX12_live 72 = .ok (.iconst 3, 1) := by decide +kernel
theorem dX12_live_73 : decode cX12_live 73 = .ok (.iaload, 1) := by decide +kernel
theorem dX12_live_74 : decode cX12_live 74 = .ok (.ireturn, 1) := by decide +kernel
theorem dX12_again_0 : decode cX12_again 0 = .ok (.aload_n 0, 1) := by decide +kernel
theorem dX12_again_1 : decode cX12_again 1 = .ok (.iload_n 1, 1) := by decide +kernel
theorem dX12_again_2 : decode cX12_again 2 = .ok (.invokevirtual 179, 3) := by decide +kernel
theorem dX12_again_5 : decode cX12_again 5 = .ok (.ifCond .ne 6, 3) := by decide +kernel
theorem dX12_again_8 : decode cX12_again 8 = .ok (.ldc 74, 2) := by decide +kernel
theorem dX12_again_10 : decode cX12_again 10 = .ok (.ireturn, 1) := by decide +kernel
theorem dX12_again_11 : decode cX12_again 11 = .ok (.aload_n 0, 1) := by decide +kernel
theorem dX12_again_12 : decode cX12_again 12 = .ok (.getfield 25, 3) := by decide +kernel
theorem dX12_again_15 : decode cX12_again 15 = .ok (.iconst 4, 1) := by decide +kernel
theorem dX12_again_16 : decode cX12_again 16 = .ok (.iaload, 1) := by decide +kernel
theorem dX12_again_17 : decode cX12_again 17 = .ok (.ifCond .eq 28, 3) := by decide +kernel
theorem dX12_again_20 : decode cX12_again 20 = .ok (.aload_n 0, 1) := by decide +kernel
theorem dX12_again_21 : decode cX12_again 21 = .ok (.getfield 25, 3) := by decide +kernel
theorem dX12_again_24 : decode cX12_again 24 = .ok (.iconst 2, 1) := by decide +kernel
theorem dX12_again_25 : decode cX12_again 25 = .ok (.iaload, 1) := by decide +kernel
theorem dX12_again_26 : decode cX12_again 26 = .ok (.iload_n 1, 1) := by decide +kernel
theorem dX12_again_27 : decode cX12_again 27 = .ok (.invokestatic 160, 3) := by decide +kernel
theorem dX12_again_30 : decode cX12_again 30 = .ok (.ifCond .eq 15, 3) := by decide +kernel
theorem dX12_again_33 : decode cX12_again 33 = .ok (.aload_n 0, 1) := by decide +kernel
theorem dX12_again_34 : decode cX12_again 34 = .ok (.getfield 25, 3) := by decide +kernel
theorem dX12_again_37 : decode cX12_again 37 = .ok (.iload_n 1, 1) := by decide +kernel
theorem dX12_again_38 : decode cX12_again 38 = .ok (.invokestatic 141, 3) := by decide +kernel
theorem dX12_again_41 : decode cX12_again 41 = .ok (.iconst 4, 1) := by decide +kernel
theorem dX12_again_42 : decode cX12_again 42 = .ok (.if_icmp .ne 6, 3) := by decide +kernel
theorem dX12_again_45 : decode cX12_again 45 = .ok (.ldc 145, 2) := by decide +kernel
theorem dX12_again_47 : decode cX12_again 47 = .ok (.ireturn, 1) := by decide +kernel
theorem dX12_again_48 : decode cX12_again 48 = .ok (.aload_n 0, 1) := by decide +kernel
theorem dX12_again_49 : decode cX12_again 49 = .ok (.invokevirtual 172, 3) := by decide +kernel
theorem dX12_again_52 : decode cX12_again 52 = .ok (.aload_n 0, 1) := by decide +kernel
theorem dX12_again_53 : decode cX12_again 53 = .ok (.getfield 25, 3) := by decide +kernel
theorem dX12_again_56 : decode cX12_again 56 = .ok (.iload_n 1, 1) := by decide +kernel
theorem dX12_again_57 : decode cX12_again 57 = .ok (.invokestatic 182, 3) := by decide +kernel
theorem dX12_again_60 : decode cX12_again 60 = .ok (.aload_n 0, 1) := by decide +kernel
theorem dX12_again_61 : decode cX12_again 61 = .ok (.getfield 25, 3) := by decide +kernel
theorem dX12_again_64 : decode cX12_again 64 = .ok (.bipush 6, 2) := by decide +kernel
theorem dX12_again_66 : decode cX12_again 66 = .ok (.bipush 6, 2) := by decide +kernel
theorem dX12_again_68 : decode cX12_again 68 = .ok (.iload_n 1, 1) := by decide +kernel
theorem dX12_again_69 : decode cX12_again 69 = .ok (.imul, 1) := by decide +kernel
theorem dX12_again_70 : decode cX12_again 70 = .ok (.iadd, 1) := by decide +kernel
theorem dX12_again_71 : decode cX12_again 71 = .ok (.iconst 5, 1) := by decide +kernel
theorem dX12_again_72 : decode cX12_again 72 = .ok (.iadd, 1) := by decide +kernel
theorem dX12_again_73 : decode cX12_again 73 = .ok (.iaload, 1) := by decide +kernel
theorem dX12_again_74 : decode cX12_again 74 = .ok (.ireturn, 1) := by decide +kernel
theorem dX12_stand_0 : decode cX12_stand 0 = .ok (.aload_n 0, 1) := by decide +kernel
theorem dX12_stand_1 : decode cX12_stand 1 = .ok (.invokevirtual 168, 3) := by decide +kernel
theorem dX12_stand_4 : decode cX12_stand 4 = .ok (.ifCond .eq 12, 3) := by decide +kernel
theorem dX12_stand_7 : decode cX12_stand 7 = .ok (.aload_n 0, 1) := by decide +kernel
theorem dX12_stand_8 : decode cX12_stand 8 = .ok (.getfield 25, 3) := by decide +kernel
theorem dX12_stand_11 : decode cX12_stand 11 = .ok (.iconst 4, 1) := by decide +kernel
theorem dX12_stand_12 : decode cX12_stand 12 = .ok (.iaload, 1) := by decide +kernel
theorem dX12_stand_13 : decode cX12_stand 13 = .ok (.ifCond .ne 6, 3) := by decide +kernel
theorem dX12_stand_16 : decode cX12_stand 16 = .ok (.ldc 145, 2) := by decide +kernel
theorem dX12_stand_18 : decode cX12_stand 18 = .ok (.ireturn, 1) := by decide +kernel
theorem dX12_stand_19 : decode cX12_stand 19 = .ok (.aload_n 0, 1) := by decide +kernel
theorem dX12_stand_20 : decode cX12_stand 20 = .ok (.getfield 25, 3) := by decide +kernel
theorem dX12_stand_23 : decode cX12_stand 23 = .ok (.iconst 5, 1) := by decide +kernel
theorem dX12_stand_24 : decode cX12_stand 24 = .ok (.iaload, 1) := by decide +kernel
theorem dX12_stand_25 : decode cX12_stand 25 = .ok (.bipush 99, 2) := by decide +kernel
theorem dX12_stand_27 : decode cX12_stand 27 = .ok (.if_icmp .ne 6, 3) := by decide +kernel
theorem dX12_stand_30 : decode cX12_stand 30 = .ok (.ldc 95, 2) := by decide +kernel
theorem dX12_stand_32 : decode cX12_stand 32 = .ok (.ireturn, 1) := by decide +kernel
theorem dX12_stand_33 : decode cX12_stand 33 = .ok (.aload_n 0, 1) := by decide +kernel
theorem dX12_stand_34 : decode cX12_stand 34 = .ok (.invokevirtual 172, 3) := by decide +kernel
theorem dX12_stand_37 : decode cX12_stand 37 = .ok (.aload_n 0, 1) := by decide +kernel
theorem dX12_stand_38 : decode cX12_stand 38 = .ok (.getfield 25, 3) := by decide +kernel
theorem dX12_stand_41 : decode cX12_stand 41 = .ok (.invokestatic 186, 3) := by decide +kernel
theorem dX12_stand_44 : decode cX12_stand 44 = .ok (.aload_n 0, 1) := by decide +kernel
theorem dX12_stand_45 : decode cX12_stand 45 = .ok (.getfield 25, 3) := by decide +kernel
theorem dX12_stand_48 : decode cX12_stand 48 = .ok (.iconst 5, 1) := by decide +kernel
theorem dX12_stand_49 : decode cX12_stand 49 = .ok (.dup2, 1) := by decide +kernel
theorem dX12_stand_50 : decode cX12_stand 50 = .ok (.iaload, 1) := by decide +kernel
theorem dX12_stand_51 : decode cX12_stand 51 = .ok (.iconst 1, 1) := by decide +kernel
theorem dX12_stand_52 : decode cX12_stand 52 = .ok (.iadd, 1) := by decide +kernel
theorem dX12_stand_53 : decode cX12_stand 53 = .ok (.iastore, 1) := by decide +kernel
theorem dX12_stand_54 : decode cX12_stand 54 = .ok (.aload_n 0, 1) := by decide +kernel
theorem dX12_stand_55 : decode cX12_stand 55 = .ok (.getfield 25, 3) := by decide +kernel
theorem dX12_stand_58 : decode cX12_stand 58 = .ok (.bipush 24, 2) := by decide +kernel
theorem dX12_stand_60 : decode cX12_stand 60 = .ok (.aload_n 0, 1) := by decide +kernel
theorem dX12_stand_61 : decode cX12_stand 61 = .ok (.getfield 25, 3) := by decide +kernel
theorem dX12_stand_64 : decode cX12_stand 64 = .ok (.iconst 5, 1) := by decide +kernel
theorem dX12_stand_65 : decode cX12_stand 65 = .ok (.iaload, 1) := by decide +kernel
theorem dX12_stand_66 : decode cX12_stand 66 = .ok (.iadd, 1) := by decide +kernel
theorem dX12_stand_67 : decode cX12_stand 67 = .ok (.iconst 1, 1) := by decide +kernel
theorem dX12_stand_68 : decode cX12_stand 68 = .ok (.isub, 1) := by decide +kernel
theorem dX12_stand_69 : decode cX12_stand 69 = .ok (.iaload, 1) := by decide +kernel
theorem dX12_stand_70 : decode cX12_stand 70 = .ok (.ireturn, 1) := by decide +kernel
theorem dX12_ones_0 : decode cX12_ones 0 = .ok (.iload_n 0, 1) := by decide +kernel
theorem dX12_ones_1 : decode cX12_ones 1 = .ok (.iconst 1, 1) := by decide +kernel
theorem dX12_ones_2 : decode cX12_ones 2 = .ok (.iand, 1) := by decide +kernel
theorem dX12_ones_3 : decode cX12_ones 3 = .ok (.iload_n 0, 1) := by decide +kernel
theorem dX12_ones_4 : decode cX12_ones 4 = .ok (.iconst 1, 1) := by decide +kernel
theorem dX12_ones_5 : decode cX12_ones 5 = .ok (.ishr, 1) := by decide +kernel
theorem dX12_ones_6 : decode cX12_ones 6 = .ok (.iconst 1, 1) := by decide +kernel
theorem dX12_ones_7 : decode cX12_ones 7 = .ok (.iand, 1) := by decide +kernel
theorem dX12_ones_8 : decode cX12_ones 8 = .ok (.iadd, 1) := by decide +kernel
theorem dX12_ones_9 : decode cX12_ones 9 = .ok (.iload_n 0, 1) := by decide +kernel
theorem dX12_ones_10 : decode cX12_ones 10 = .ok (.iconst 2, 1) := by decide +kernel
theorem dX12_ones_11 : decode cX12_ones 11 = .ok (.ishr, 1) := by decide +kernel
theorem dX12_ones_12 : decode cX12_ones 12 = .ok (.iconst 1, 1) := by decide +kernel
theorem dX12_ones_13 : decode cX12_ones 13 = .ok (.iand, 1) := by decide +kernel
theorem dX12_ones_14 : decode cX12_ones 14 = .ok (.iadd, 1) := by decide +kernel
theorem dX12_ones_15 : decode cX12_ones 15 = .ok (.ireturn, 1) := by decide +kernel
theorem dX12_will_0 : decode cX12_will 0 = .ok (.aload_n 0, 1) := by decide +kernel
theorem dX12_will_1 : decode cX12_will 1 = .ok (.iload_n 1, 1) := by decide +kernel
theorem dX12_will_2 : decode cX12_will 2 = .ok (.invokevirtual 179, 3) := by decide +kernel
theorem dX12_will_5 : decode cX12_will 5 = .ok (.ifCond .eq 16, 3) := by decide +kernel
theorem dX12_will_8 : decode cX12_will 8 = .ok (.aload_n 0, 1) := by decide +kernel
theorem dX12_will_9 : decode cX12_will 9 = .ok (.iload_n 2, 1) := by decide +kernel
theorem dX12_will_10 : decode cX12_will 10 = .ok (.invokevirtual 179, 3) := by decide +kernel
theorem dX12_will_13 : decode cX12_will 13 = .ok (.ifCond .eq 8, 3) := by decide +kernel
theorem dX12_will_16 : decode cX12_will 16 = .ok (.iload_n 1, 1) := by decide +kernel
theorem dX12_will_17 : decode cX12_will 17 = .ok (.iload_n 2, 1) := by decide +kernel
theorem dX12_will_18 : decode cX12_will 18 = .ok (.if_icmp .ne 6, 3) := by decide +kernel
theorem dX12_will_21 : decode cX12_will 21 = .ok (.ldc 74, 2) := by decide +kernel
theorem dX12_will_23 : decode cX12_will 23 = .ok (.ireturn, 1) := by decide +kernel
theorem dX12_will_24 : decode cX12_will 24 = .ok (.aload_n 0, 1) := by decide +kernel
theorem dX12_will_25 : decode cX12_will 25 = .ok (.getfield 25, 3) := by decide +kernel
theorem dX12_will_28 : decode cX12_will 28 = .ok (.iconst 2, 1) := by decide +kernel
theorem dX12_will_29 : decode cX12_will 29 = .ok (.iaload, 1) := by decide +kernel
theorem dX12_will_30 : decode cX12_will 30 = .ok (.iload_n 1, 1) := by decide +kernel
theorem dX12_will_31 : decode cX12_will 31 = .ok (.invokestatic 160, 3) := by decide +kernel
theorem dX12_will_34 : decode cX12_will 34 = .ok (.ifCond .eq 16, 3) := by decide +kernel
theorem dX12_will_37 : decode cX12_will 37 = .ok (.aload_n 0, 1) := by decide +kernel
theorem dX12_will_38 : decode cX12_will 38 = .ok (.getfield 25, 3) := by decide +kernel
theorem dX12_will_41 : decode cX12_will 41 = .ok (.iconst 2, 1) := by decide +kernel
theorem dX12_will_42 : decode cX12_will 42 = .ok (.iaload, 1) := by decide +kernel
theorem dX12_will_43 : decode cX12_will 43 = .ok (.iload_n 2, 1) := by decide +kernel
theorem dX12_will_44 : decode cX12_will 44 = .ok (.invokestatic 160, 3) := by decide +kernel
theorem dX12_will_47 : decode cX12_will 47 = .ok (.ifCond .eq 6, 3) := by decide +kernel
theorem dX12_will_50 : decode cX12_will 50 = .ok (.ldc 145, 2) := by decide +kernel
theorem dX12_will_52 : decode cX12_will 52 = .ok (.ireturn, 1) := by decide +kernel
theorem dX12_will_53 : decode cX12_will 53 = .ok (.aload_n 0, 1) := by decide +kernel
theorem dX12_will_54 : decode cX12_will 54 = .ok (.invokevirtual 172, 3) := by decide +kernel
theorem dX12_will_57 : decode cX12_will 57 = .ok (.aload_n 0, 1) := by decide +kernel
theorem dX12_will_58 : decode cX12_will 58 = .ok (.getfield 25, 3) := by decide +kernel
theorem dX12_will_61 : decode cX12_will 61 = .ok (.iconst 2, 1) := by decide +kernel
theorem dX12_will_62 : decode cX12_will 62 = .ok (.dup2, 1) := by decide +kernel
theorem dX12_will_63 : decode cX12_will 63 = .ok (.iaload, 1) := by decide +kernel
theorem dX12_will_64 : decode cX12_will 64 = .ok (.iconst 1, 1) := by decide +kernel
theorem dX12_will_65 : decode cX12_will 65 = .ok (.iload_n 1, 1) := by decide +kernel
theorem dX12_will_66 : decode cX12_will 66 = .ok (.ishl, 1) := by decide +kernel
theorem dX12_will_67 : decode cX12_will 67 = .ok (.iconst 1, 1) := by decide +kernel
theorem dX12_will_68 : decode cX12_will 68 = .ok (.iload_n 2, 1) := by decide +kernel
theorem dX12_will_69 : decode cX12_will 69 = .ok (.ishl, 1) := by decide +kernel
theorem dX12_will_70 : decode cX12_will 70 = .ok (.ior, 1) := by decide +kernel
theorem dX12_will_71 : decode cX12_will 71 = .ok (.ixor, 1) := by decide +kernel
theorem dX12_will_72 : decode cX12_will 72 = .ok (.iastore, 1) := by decide +kernel
theorem dX12_will_73 : decode cX12_will 73 = .ok (.aload_n 0, 1) := by decide +kernel
theorem dX12_will_74 : decode cX12_will 74 = .ok (.getfield 25, 3) := by decide +kernel
theorem dX12_will_77 : decode cX12_will 77 = .ok (.iconst 2, 1) := by decide +kernel
theorem dX12_will_78 : decode cX12_will 78 = .ok (.iaload, 1) := by decide +kernel
theorem dX12_will_79 : decode cX12_will 79 = .ok (.invokestatic 190, 3) := by decide +kernel
theorem dX12_will_82 : decode cX12_will 82 = .ok (.ireturn, 1) := by decide +kernel
theorem dX12_person_0 : decode cX12_person 0 = .ok (.aload_n 0, 1) := by decide +kernel
theorem dX12_person_1 : decode cX12_person 1 = .ok (.iload_n 1, 1) := by decide +kernel
theorem dX12_person_2 : decode cX12_person 2 = .ok (.invokevirtual 179, 3) := by decide +kernel
theorem dX12_person_5 : decode cX12_person 5 = .ok (.ifCond .eq 13, 3) := by decide +kernel
theorem dX12_person_8 : decode cX12_person 8 = .ok (.iload_n 2, 1) := by decide +kernel
theorem dX12_person_9 : decode cX12_person 9 = .ok (.iconst 0, 1) := by decide +kernel
theorem dX12_person_10 : decode cX12_person 10 = .ok (.bipush 7, 2) := by decide +kernel
theorem dX12_person_12 : decode cX12_person 12 = .ok (.invokestatic 66, 3) := by decide +kernel
theorem dX12_person_15 : decode cX12_person 15 = .ok (.ifCond .ne 6, 3) := by decide +kernel
theorem dX12_person_18 : decode cX12_person 18 = .ok (.ldc 74, 2) := by decide +kernel
theorem dX12_person_20 : decode cX12_person 20 = .ok (.ireturn, 1) := by decide +kernel
theorem dX12_person_21 : decode cX12_person 21 = .ok (.bipush 6, 2) := by decide +kernel
theorem dX12_person_23 : decode cX12_person 23 = .ok (.bipush 6, 2) := by decide +kernel
theorem dX12_person_25 : decode cX12_person 25 = .ok (.iload_n 1, 1) := by decide +kernel
theorem dX12_person_26 : decode cX12_person 26 = .ok (.imul, 1) := by decide +kernel
theorem dX12_person_27 : decode cX12_person 27 = .ok (.iadd, 1) := by decide +kernel
theorem dX12_person_28 : decode cX12_person 28 = .ok (.istore_n 3, 1) := by decide +kernel
theorem dX12_person_29 : decode cX12_person 29 = .ok (.iload_n 2, 1) := by decide +kernel
theorem dX12_person_30 : decode cX12_person 30 = .ok (.bipush 6, 2) := by decide +kernel
theorem dX12_person_32 : decode cX12_person 32 = .ok (.if_icmp .ne 28, 3) := by decide +kernel
theorem dX12_person_35 : decode cX12_person 35 = .ok (.aload_n 0, 1) := by decide +kernel
theorem dX12_person_36 : decode cX12_person 36 = .ok (.getfield 25, 3) := by decide +kernel
theorem dX12_person_39 : decode cX12_person 39 = .ok (.iconst 4, 1) := by decide +kernel
theorem dX12_person_40 : decode cX12_person 40 = .ok (.iaload, 1) := by decide +kernel
theorem dX12_person_41 : decode cX12_person 41 = .ok (.ifCond .ne 8, 3) := by decide +kernel
theorem dX12_person_44 : decode cX12_person 44 = .ok (.ldc 60, 2) := by decide +kernel
theorem dX12_person_46 : decode cX12_person 46 = .ok (.goto 13, 3) := by decide +kernel
theorem dX12_person_49 : decode cX12_person 49 = .ok (.aload_n 0, 1) := by decide +kernel
theorem dX12_person_50 : decode cX12_person 50 = .ok (.getfield 25, 3) := by decide +kernel
theorem dX12_person_53 : decode cX12_person 53 = .ok (.iconst 3, 1) := by decide +kernel
theorem dX12_person_54 : decode cX12_person 54 = .ok (.iaload, 1) := by decide +kernel
theorem dX12_person_55 : decode cX12_person 55 = .ok (.iload_n 1, 1) := by decide +kernel
theorem dX12_person_56 : decode cX12_person 56 = .ok (.ishr, 1) := by decide +kernel
theorem dX12_person_57 : decode cX12_person 57 = .ok (.iconst 1, 1) := by decide +kernel
theorem dX12_person_58 : decode cX12_person 58 = .ok (.iand, 1) := by decide +kernel
theorem dX12_person_59 : decode cX12_person 59 = .ok (.ireturn, 1) := by decide +kernel
theorem dX12_person_60 : decode cX12_person 60 = .ok (.iload_n 2, 1) := by decide +kernel
theorem dX12_person_61 : decode cX12_person 61 = .ok (.iconst 3, 1) := by decide +kernel
theorem dX12_person_62 : decode cX12_person 62 = .ok (.if_icmp .ge 16, 3) := by decide +kernel
theorem dX12_person_65 : decode cX12_person 65 = .ok (.aload_n 0, 1) := by decide +kernel
theorem dX12_person_66 : decode cX12_person 66 = .ok (.getfield 25, 3) := by decide +kernel
theorem dX12_person_69 : decode cX12_person 69 = .ok (.iload_n 3, 1) := by decide +kernel
theorem dX12_person_70 : decode cX12_person 70 = .ok (.iconst 1, 1) := by decide +kernel
theorem dX12_person_71 : decode cX12_person 71 = .ok (.iadd, 1) := by decide +kernel
theorem dX12_person_72 : decode cX12_person 72 = .ok (.iload_n 2, 1) := by decide +kernel
theorem dX12_person_73 : decode cX12_person 73 = .ok (.iadd, 1) := by decide +kernel
theorem dX12_person_74 : decode cX12_person 74 = .ok (.iaload, 1) := by decide +kernel
theorem dX12_person_75 : decode cX12_person 75 = .ok (.goto 69, 3) := by decide +kernel
theorem dX12_person_78 : decode cX12_person 78 = .ok (.iload_n 2, 1) := by decide +kernel
theorem dX12_person_79 : decode cX12_person 79 = .ok (.iconst 3, 1) := by decide +kernel
theorem dX12_person_80 : decode cX12_person 80 = .ok (.if_icmp .ne 14, 3) := by decide +kernel
theorem dX12_person_83 : decode cX12_person 83 = .ok (.aload_n 0, 1) := by decide +kernel
theorem dX12_person_84 : decode cX12_person 84 = .ok (.getfield 25, 3) := by decide +kernel
theorem dX12_person_87 : decode cX12_person 87 = .ok (.iload_n 3, 1) := by decide +kernel
theorem dX12_person_88 : decode cX12_person 88 = .ok (.iconst 4, 1) := by decide +kernel
theorem dX12_person_89 : decode cX12_person 89 = .ok (.iadd, 1) := by decide +kernel
theorem dX12_person_90 : decode cX12_person 90 = .ok (.iaload, 1) := by decide +kernel
theorem dX12_person_91 : decode cX12_person 91 = .ok (.goto 53, 3) := by decide +kernel
theorem dX12_person_94 : decode cX12_person 94 = .ok (.iload_n 2, 1) := by decide +kernel
theorem dX12_person_95 : decode cX12_person 95 = .ok (.iconst 4, 1) := by decide +kernel
theorem dX12_person_96 : decode cX12_person 96 = .ok (.if_icmp .ne 16, 3) := by decide +kernel
theorem dX12_person_99 : decode cX12_person 99 = .ok (.aload_n 0, 1) := by decide +kernel
theorem dX12_person_100 : decode cX12_person 100 = .ok (.getfield 25, 3) := by decide +kernel
theorem dX12_person_103 : decode cX12_person 103 = .ok (.iconst 2, 1) := by decide +kernel
theorem dX12_person_104 : decode cX12_person 104 = .ok (.iaload, 1) := by decide +kernel
theorem dX12_person_105 : decode cX12_person 105 = .ok (.iload_n 1, 1) := by decide +kernel
theorem dX12_person_106 : decode cX12_person 106 = .ok (.ishr, 1) := by decide +kernel
theorem dX12_person_107 : decode cX12_person 107 = .ok (.iconst 1, 1) := by decide +kernel
theorem dX12_person_108 : decode cX12_person 108 = .ok (.iand, 1) := by decide +kernel
theorem dX12_person_109 : decode cX12_person 109 = .ok (.goto 35, 3) := by decide +kernel
theorem dX12_person_112 : decode cX12_person 112 = .ok (.iload_n 2, 1) := by decide +kernel
theorem dX12_person_113 : decode cX12_person 113 = .ok (.iconst 5, 1) := by decide +kernel
theorem dX12_person_114 : decode cX12_person 114 = .ok (.if_icmp .ne 14, 3) := by decide +kernel
theorem dX12_person_117 : decode cX12_person 117 = .ok (.aload_n 0, 1) := by decide +kernel
theorem dX12_person_118 : decode cX12_person 118 = .ok (.getfield 25, 3) := by decide +kernel
theorem dX12_person_121 : decode cX12_person 121 = .ok (.iload_n 3, 1) := by decide +kernel
theorem dX12_person_122 : decode cX12_person 122 = .ok (.iconst 5, 1) := by decide +kernel
theorem dX12_person_123 : decode cX12_person 123 = .ok (.iadd, 1) := by decide +kernel
theorem dX12_person_124 : decode cX12_person 124 = .ok (.iaload, 1) := by decide +kernel
theorem dX12_person_125 : decode cX12_person 125 = .ok (.goto 19, 3) := by decide +kernel
theorem dX12_person_128 : decode cX12_person 128 = .ok (.aload_n 0, 1) := by decide +kernel
theorem dX12_person_129 : decode cX12_person 129 = .ok (.getfield 25, 3) := by decide +kernel
theorem dX12_person_132 : decode cX12_person 132 = .ok (.iload_n 1, 1) := by decide +kernel
theorem dX12_person_133 : decode cX12_person 133 = .ok (.aload_n 0, 1) := by decide +kernel
theorem dX12_person_134 : decode cX12_person 134 = .ok (.getfield 25, 3) := by decide +kernel
theorem dX12_person_137 : decode cX12_person 137 = .ok (.iload_n 3, 1) := by decide +kernel
theorem dX12_person_138 : decode cX12_person 138 = .ok (.iconst 5, 1) := by decide +kernel
theorem dX12_person_139 : decode cX12_person 139 = .ok (.iadd, 1) := by decide +kernel
theorem dX12_person_140 : decode cX12_person 140 = .ok (.iaload, 1) := by decide +kernel
theorem dX12_person_141 : decode cX12_person 141 = .ok (.invokestatic 156, 3) := by decide +kernel
theorem dX12_person_144 : decode cX12_person 144 = .ok (.ireturn, 1) := by decide +kernel
theorem dX12_lives_0 : decode cX12_lives 0 = .ok (.aload_n 0, 1) := by decide +kernel
theorem dX12_lives_1 : decode cX12_lives 1 = .ok (.invokevirtual 168, 3) := by decide +kernel
theorem dX12_lives_4 : decode cX12_lives 4 = .ok (.ifCond .ne 6, 3) := by decide +kernel
theorem dX12_lives_7 : decode cX12_lives 7 = .ok (.ldc 145, 2) := by decide +kernel
theorem dX12_lives_9 : decode cX12_lives 9 = .ok (.ireturn, 1) := by decide +kernel
theorem dX12_lives_10 : decode cX12_lives 10 = .ok (.iload_n 1, 1) := by decide +kernel
theorem dX12_lives_11 : decode cX12_lives 11 = .ok (.iconst 0, 1) := by decide +kernel
theorem dX12_lives_12 : decode cX12_lives 12 = .ok (.bipush 99, 2) := by decide +kernel
theorem dX12_lives_14 : decode cX12_lives 14 = .ok (.invokestatic 66, 3) := by decide +kernel
theorem dX12_lives_17 : decode cX12_lives 17 = .ok (.ifCond .ne 6, 3) := by decide +kernel
theorem dX12_lives_20 : decode cX12_lives 20 = .ok (.ldc 74, 2) := by decide +kernel
theorem dX12_lives_22 : decode cX12_lives 22 = .ok (.ireturn, 1) := by decide +kernel
theorem dX12_lives_23 : decode cX12_lives 23 = .ok (.iload_n 1, 1) := by decide +kernel
theorem dX12_lives_24 : decode cX12_lives 24 = .ok (.aload_n 0, 1) := by decide +kernel
theorem dX12_lives_25 : decode cX12_lives 25 = .ok (.getfield 25, 3) := by decide +kernel
theorem dX12_lives_28 : decode cX12_lives 28 = .ok (.iconst 5, 1) := by decide +kernel
theorem dX12_lives_29 : decode cX12_lives 29 = .ok (.iaload, 1) := by decide +kernel
theorem dX12_lives_30 : decode cX12_lives 30 = .ok (.if_icmp .le 8, 3) := by decide +kernel
theorem dX12_lives_33 : decode cX12_lives 33 = .ok (.ldc 60, 2) := by decide +kernel
theorem dX12_lives_35 : decode cX12_lives 35 = .ok (.goto 12, 3) := by decide +kernel
theorem dX12_lives_38 : decode cX12_lives 38 = .ok (.aload_n 0, 1) := by decide +kernel
theorem dX12_lives_39 : decode cX12_lives 39 = .ok (.getfield 25, 3) := by decide +kernel
theorem dX12_lives_42 : decode cX12_lives 42 = .ok (.bipush 24, 2) := by decide +kernel
theorem dX12_lives_44 : decode cX12_lives 44 = .ok (.iload_n 1, 1) := by decide +kernel
theorem dX12_lives_45 : decode cX12_lives 45 = .ok (.iadd, 1) := by decide +kernel
theorem dX12_lives_46 : decode cX12_lives 46 = .ok (.iaload, 1) := by decide +kernel
theorem dX12_lives_47 : decode cX12_lives 47 = .ok (.ireturn, 1) := by decide +kernel
theorem dX12_power_0 : decode cX12_power 0 = .ok (.lconst 1, 1) := by decide +kernel
theorem dX12_power_1 : decode cX12_power 1 = .ok (.lstore_n 1, 1) := by decide +kernel
theorem dX12_power_2 : decode cX12_power 2 = .ok (.iconst 0, 1) := by decide +kernel
theorem dX12_power_3 : decode cX12_power 3 = .ok (.istore_n 3, 1) := by decide +kernel
theorem dX12_power_4 : decode cX12_power 4 = .ok (.iload_n 3, 1) := by decide +kernel
theorem dX12_power_5 : decode cX12_power 5 = .ok (.iload_n 0, 1) := by decide +kernel
theorem dX12_power_6 : decode cX12_power 6 = .ok (.if_icmp .ge 15, 3) := by decide +kernel
theorem dX12_power_9 : decode cX12_power 9 = .ok (.lload_n 1, 1) := by decide +kernel
theorem dX12_power_10 : decode cX12_power 10 = .ok (.ldc2_w 154, 3) := by decide +kernel
theorem dX12_power_13 : decode cX12_power 13 = .ok (.lmul, 1) := by decide +kernel
theorem dX12_power_14 : decode cX12_power 14 = .ok (.lstore_n 1, 1) := by decide +kernel
theorem dX12_power_15 : decode cX12_power 15 = .ok (.iinc 3 1, 3) := by decide +kernel
theorem dX12_power_18 : decode cX12_power 18 = .ok (.goto (-14), 3) := by decide +kernel
theorem dX12_power_21 : decode cX12_power 21 = .ok (.lload_n 1, 1) := by decide +kernel
theorem dX12_power_22 : decode cX12_power 22 = .ok (.lreturn, 1) := by decide +kernel
theorem dX12_tells_0 : decode cX12_tells 0 = .ok (.lload_n 0, 1) := by decide +kernel
theorem dX12_tells_1 : decode cX12_tells 1 = .ok (.lconst 0, 1) := by decide +kernel
theorem dX12_tells_2 : decode cX12_tells 2 = .ok (.lcmp, 1) := by decide +kernel
theorem dX12_tells_3 : decode cX12_tells 3 = .ok (.ifCond .ge 8, 3) := by decide +kernel
theorem dX12_tells_6 : decode cX12_tells 6 = .ok (.lload_n 0, 1) := by decide +kernel
theorem dX12_tells_7 : decode cX12_tells 7 = .ok (.lneg, 1) := by decide +kernel
theorem dX12_tells_8 : decode cX12_tells 8 = .ok (.goto 4, 3) := by decide +kernel
theorem dX12_tells_11 : decode cX12_tells 11 = .ok (.lload_n 0, 1) := by decide +kernel
theorem dX12_tells_12 : decode cX12_tells 12 = .ok (.lstore 5, 2) := by decide +kernel
theorem dX12_tells_14 : decode cX12_tells 14 = .ok (.lload_n 2, 1) := by decide +kernel
theorem dX12_tells_15 : decode cX12_tells 15 = .ok (.lstore 7, 2) := by decide +kernel
theorem dX12_tells_17 : decode cX12_tells 17 = .ok (.lload 7, 2) := by decide +kernel
theorem dX12_tells_19 : decode cX12_tells 19 = .ok (.lconst 0, 1) := by decide +kernel
theorem dX12_tells_20 : decode cX12_tells 20 = .ok (.lcmp, 1) := by decide +kernel
theorem dX12_tells_21 : decode cX12_tells 21 = .ok (.ifCond .eq 21, 3) := by decide +kernel
theorem dX12_tells_24 : decode cX12_tells 24 = .ok (.lload 5, 2) := by decide +kernel
theorem dX12_tells_26 : decode cX12_tells 26 = .ok (.lload 7, 2) := by decide +kernel
theorem dX12_tells_28 : decode cX12_tells 28 = .ok (.lrem, 1) := by decide +kernel
theorem dX12_tells_29 : decode cX12_tells 29 = .ok (.lstore 9, 2) := by decide +kernel
theorem dX12_tells_31 : decode cX12_tells 31 = .ok (.lload 7, 2) := by decide +kernel
theorem dX12_tells_33 : decode cX12_tells 33 = .ok (.lstore 5, 2) := by decide +kernel
theorem dX12_tells_35 : decode cX12_tells 35 = .ok (.lload 9, 2) := by decide +kernel
theorem dX12_tells_37 : decode cX12_tells 37 = .ok (.lstore 7, 2) := by decide +kernel
theorem dX12_tells_39 : decode cX12_tells 39 = .ok (.goto (-22), 3) := by decide +kernel
theorem dX12_tells_42 : decode cX12_tells 42 = .ok (.iload 4, 2) := by decide +kernel
theorem dX12_tells_44 : decode cX12_tells 44 = .ok (.ifCond .eq 10, 3) := by decide +kernel
theorem dX12_tells_47 : decode cX12_tells 47 = .ok (.lload_n 0, 1) := by decide +kernel
theorem dX12_tells_48 : decode cX12_tells 48 = .ok (.lload 5, 2) := by decide +kernel
theorem dX12_tells_50 : decode cX12_tells 50 = .ok (.ldiv, 1) := by decide +kernel
theorem dX12_tells_51 : decode cX12_tells 51 = .ok (.goto 7, 3) := by decide +kernel
theorem dX12_tells_54 : decode cX12_tells 54 = .ok (.lload_n 2, 1) := by decide +kernel
theorem dX12_tells_55 : decode cX12_tells 55 = .ok (.lload 5, 2) := by decide +kernel
theorem dX12_tells_57 : decode cX12_tells 57 = .ok (.ldiv, 1) := by decide +kernel
theorem dX12_tells_58 : decode cX12_tells 58 = .ok (.lreturn, 1) := by decide +kernel
theorem dX12_ways_0 : decode cX12_ways 0 = .ok (.lconst 1, 1) := by decide +kernel
theorem dX12_ways_1 : decode cX12_ways 1 = .ok (.lstore_n 3, 1) := by decide +kernel
theorem dX12_ways_2 : decode cX12_ways 2 = .ok (.iconst 0, 1) := by decide +kernel
theorem dX12_ways_3 : decode cX12_ways 3 = .ok (.istore 5, 2) := by decide +kernel
theorem dX12_ways_5 : decode cX12_ways 5 = .ok (.iload 5, 2) := by decide +kernel
theorem dX12_ways_7 : decode cX12_ways 7 = .ok (.aload_n 0, 1) := by decide +kernel
theorem dX12_ways_8 : decode cX12_ways 8 = .ok (.getfield 25, 3) := by decide +kernel
theorem dX12_ways_11 : decode cX12_ways 11 = .ok (.iconst 1, 1) := by decide +kernel
theorem dX12_ways_12 : decode cX12_ways 12 = .ok (.iaload, 1) := by decide +kernel
theorem dX12_ways_13 : decode cX12_ways 13 = .ok (.if_icmp .ge 50, 3) := by decide +kernel
theorem dX12_ways_16 : decode cX12_ways 16 = .ok (.aload_n 0, 1) := by decide +kernel
theorem dX12_ways_17 : decode cX12_ways 17 = .ok (.getfield 25, 3) := by decide +kernel
theorem dX12_ways_20 : decode cX12_ways 20 = .ok (.iload 5, 2) := by decide +kernel
theorem dX12_ways_22 : decode cX12_ways 22 = .ok (.iload_n 1, 1) := by decide +kernel
theorem dX12_ways_23 : decode cX12_ways 23 = .ok (.iload 5, 2) := by decide +kernel
theorem dX12_ways_25 : decode cX12_ways 25 = .ok (.ishr, 1) := by decide +kernel
theorem dX12_ways_26 : decode cX12_ways 26 = .ok (.iconst 1, 1) := by decide +kernel
theorem dX12_ways_27 : decode cX12_ways 27 = .ok (.iand, 1) := by decide +kernel
theorem dX12_ways_28 : decode cX12_ways 28 = .ok (.invokestatic 156, 3) := by decide +kernel
theorem dX12_ways_31 : decode cX12_ways 31 = .ok (.istore 6, 2) := by decide +kernel
theorem dX12_ways_33 : decode cX12_ways 33 = .ok (.lload_n 3, 1) := by decide +kernel
theorem dX12_ways_34 : decode cX12_ways 34 = .ok (.iload_n 2, 1) := by decide +kernel
theorem dX12_ways_35 : decode cX12_ways 35 = .ok (.iload 5, 2) := by decide +kernel
theorem dX12_ways_37 : decode cX12_ways 37 = .ok (.invokestatic 160, 3) := by decide +kernel
theorem dX12_ways_40 : decode cX12_ways 40 = .ok (.ifCond .eq 9, 3) := by decide +kernel
theorem dX12_ways_43 : decode cX12_ways 43 = .ok (.iload 6, 2) := by decide +kernel
theorem dX12_ways_45 : decode cX12_ways 45 = .ok (.i2l, 1) := by decide +kernel
theorem dX12_ways_46 : decode cX12_ways 46 = .ok (.goto 9, 3) := by decide +kernel
theorem dX12_ways_49 : decode cX12_ways 49 = .ok (.bipush 10, 2) := by decide +kernel
theorem dX12_ways_51 : decode cX12_ways 51 = .ok (.iload 6, 2) := by decide +kernel
theorem dX12_ways_53 : decode cX12_ways 53 = .ok (.isub, 1) := by decide +kernel
theorem dX12_ways_54 : decode cX12_ways 54 = .ok (.i2l, 1) := by decide +kernel
theorem dX12_ways_55 : decode cX12_ways 55 = .ok (.lmul, 1) := by decide +kernel
theorem dX12_ways_56 : decode cX12_ways 56 = .ok (.lstore_n 3, 1) := by decide +kernel
theorem dX12_ways_57 : decode cX12_ways 57 = .ok (.iinc 5 1, 3) := by decide +kernel
theorem dX12_ways_60 : decode cX12_ways 60 = .ok (.goto (-55), 3) := by decide +kernel
theorem dX12_ways_63 : decode cX12_ways 63 = .ok (.lload_n 3, 1) := by decide +kernel
theorem dX12_ways_64 : decode cX12_ways 64 = .ok (.lreturn, 1) := by decide +kernel
theorem dX12_goesAgain_0 : decode cX12_goesAgain 0 = .ok (.iconst 0, 1) := by decide +kernel
theorem dX12_goesAgain_1 : decode cX12_goesAgain 1 = .ok (.istore 4, 2) := by decide +kernel
theorem dX12_goesAgain_3 : decode cX12_goesAgain 3 = .ok (.iload 4, 2) := by decide +kernel
theorem dX12_goesAgain_5 : decode cX12_goesAgain 5 = .ok (.aload_n 0, 1) := by decide +kernel
theorem dX12_goesAgain_6 : decode cX12_goesAgain 6 = .ok (.iconst 1, 1) := by decide +kernel
theorem dX12_goesAgain_7 : decode cX12_goesAgain 7 = .ok (.iaload, 1) := by decide +kernel
theorem dX12_goesAgain_8 : decode cX12_goesAgain 8 = .ok (.if_icmp .ge 68, 3) := by decide +kernel
theorem dX12_goesAgain_11 : decode cX12_goesAgain 11 = .ok (.iload_n 2, 1) := by decide +kernel
theorem dX12_goesAgain_12 : decode cX12_goesAgain 12 = .ok (.iload 4, 2) := by decide +kernel
theorem dX12_goesAgain_14 : decode cX12_goesAgain 14 = .ok (.invokestatic 160, 3) := by decide +kernel
theorem dX12_goesAgain_17 : decode cX12_goesAgain 17 = .ok (.ifCond .eq 17, 3) := by decide +kernel
theorem dX12_goesAgain_20 : decode cX12_goesAgain 20 = .ok (.aload_n 0, 1) := by decide +kernel
theorem dX12_goesAgain_21 : decode cX12_goesAgain 21 = .ok (.iload 4, 2) := by decide +kernel
theorem dX12_goesAgain_23 : decode cX12_goesAgain 23 = .ok (.invokestatic 141, 3) := by decide +kernel
theorem dX12_goesAgain_26 : decode cX12_goesAgain 26 = .ok (.iconst 4, 1) := by decide +kernel
theorem dX12_goesAgain_27 : decode cX12_goesAgain 27 = .ok (.if_icmp .eq 7, 3) := by decide +kernel
theorem dX12_goesAgain_30 : decode cX12_goesAgain 30 = .ok (.iconst 1, 1) := by decide +kernel
theorem dX12_goesAgain_31 : decode cX12_goesAgain 31 = .ok (.goto 4, 3) := by decide +kernel
theorem dX12_goesAgain_34 : decode cX12_goesAgain 34 = .ok (.iconst 0, 1) := by decide +kernel
theorem dX12_goesAgain_35 : decode cX12_goesAgain 35 = .ok (.istore 5, 2) := by decide +kernel
theorem dX12_goesAgain_37 : decode cX12_goesAgain 37 = .ok (.iload 5, 2) := by decide +kernel
theorem dX12_goesAgain_39 : decode cX12_goesAgain 39 = .ok (.ifCond .eq 31, 3) := by decide +kernel
theorem dX12_goesAgain_42 : decode cX12_goesAgain 42 = .ok (.aload_n 1, 1) := by decide +kernel
theorem dX12_goesAgain_43 : decode cX12_goesAgain 43 = .ok (.iload 4, 2) := by decide +kernel
theorem dX12_goesAgain_45 : decode cX12_goesAgain 45 = .ok (.iaload, 1) := by decide +kernel
theorem dX12_goesAgain_46 : decode cX12_goesAgain 46 = .ok (.iconst 2, 1) := by decide +kernel
theorem dX12_goesAgain_47 : decode cX12_goesAgain 47 = .ok (.if_icmp .eq 20, 3) := by decide +kernel
theorem dX12_goesAgain_50 : decode cX12_goesAgain 50 = .ok (.aload_n 1, 1) := by decide +kernel
theorem dX12_goesAgain_51 : decode cX12_goesAgain 51 = .ok (.iload 4, 2) := by decide +kernel
theorem dX12_goesAgain_53 : decode cX12_goesAgain 53 = .ok (.iaload, 1) := by decide +kernel
theorem dX12_goesAgain_54 : decode cX12_goesAgain 54 = .ok (.iconst 1, 1) := by decide +kernel
theorem dX12_goesAgain_55 : decode cX12_goesAgain 55 = .ok (.if_icmp .ne 15, 3) := by decide +kernel
theorem dX12_goesAgain_58 : decode cX12_goesAgain 58 = .ok (.iload_n 3, 1) := by decide +kernel
theorem dX12_goesAgain_59 : decode cX12_goesAgain 59 = .ok (.iload 4, 2) := by decide +kernel
theorem dX12_goesAgain_61 : decode cX12_goesAgain 61 = .ok (.invokestatic 160, 3) := by decide +kernel
theorem dX12_goesAgain_64 : decode cX12_goesAgain 64 = .ok (.ifCond .ne 6, 3) := by decide +kernel
theorem dX12_goesAgain_67 : decode cX12_goesAgain 67 = .ok (.iload 4, 2) := by decide +kernel
theorem dX12_goesAgain_69 : decode cX12_goesAgain 69 = .ok (.ireturn, 1) := by decide +kernel
theorem dX12_goesAgain_70 : decode cX12_goesAgain 70 = .ok (.iinc 4 1, 3) := by decide +kernel
theorem dX12_goesAgain_73 : decode cX12_goesAgain 73 = .ok (.goto (-70), 3) := by decide +kernel
theorem dX12_goesAgain_76 : decode cX12_goesAgain 76 = .ok (.ldc 60, 2) := by decide +kernel
theorem dX12_goesAgain_78 : decode cX12_goesAgain 78 = .ok (.ireturn, 1) := by decide +kernel
theorem dX12_lays_0 : decode cX12_lays 0 = .ok (.aload_n 0, 1) := by decide +kernel
theorem dX12_lays_1 : decode cX12_lays 1 = .ok (.getfield 25, 3) := by decide +kernel
theorem dX12_lays_4 : decode cX12_lays 4 = .ok (.iconst 1, 1) := by decide +kernel
theorem dX12_lays_5 : decode cX12_lays 5 = .ok (.iaload, 1) := by decide +kernel
theorem dX12_lays_6 : decode cX12_lays 6 = .ok (.istore_n 1, 1) := by decide +kernel
theorem dX12_lays_7 : decode cX12_lays 7 = .ok (.iconst 0, 1) := by decide +kernel
theorem dX12_lays_8 : decode cX12_lays 8 = .ok (.istore_n 2, 1) := by decide +kernel
theorem dX12_lays_9 : decode cX12_lays 9 = .ok (.iload_n 2, 1) := by decide +kernel
theorem dX12_lays_10 : decode cX12_lays 10 = .ok (.bipush 8, 2) := by decide +kernel
theorem dX12_lays_12 : decode cX12_lays 12 = .ok (.if_icmp .ge 55, 3) := by decide +kernel
theorem dX12_lays_15 : decode cX12_lays 15 = .ok (.aload_n 0, 1) := by decide +kernel
theorem dX12_lays_16 : decode cX12_lays 16 = .ok (.getfield 47, 3) := by decide +kernel
theorem dX12_lays_19 : decode cX12_lays 19 = .ok (.iload_n 2, 1) := by decide +kernel
theorem dX12_lays_20 : decode cX12_lays 20 = .ok (.iload_n 2, 1) := by decide +kernel
theorem dX12_lays_21 : decode cX12_lays 21 = .ok (.ifCond .ne 7, 3) := by decide +kernel
theorem dX12_lays_24 : decode cX12_lays 24 = .ok (.lconst 1, 1) := by decide +kernel
theorem dX12_lays_25 : decode cX12_lays 25 = .ok (.goto 4, 3) := by decide +kernel
theorem dX12_lays_28 : decode cX12_lays 28 = .ok (.lconst 0, 1) := by decide +kernel
theorem dX12_lays_29 : decode cX12_lays 29 = .ok (.lastore, 1) := by decide +kernel
theorem dX12_lays_30 : decode cX12_lays 30 = .ok (.aload_n 0, 1) := by decide +kernel
theorem dX12_lays_31 : decode cX12_lays 31 = .ok (.getfield 51, 3) := by decide +kernel
theorem dX12_lays_34 : decode cX12_lays 34 = .ok (.iload_n 2, 1) := by decide +kernel
theorem dX12_lays_35 : decode cX12_lays 35 = .ok (.lconst 0, 1) := by decide +kernel
theorem dX12_lays_36 : decode cX12_lays 36 = .ok (.lastore, 1) := by decide +kernel
theorem dX12_lays_37 : decode cX12_lays 37 = .ok (.iconst 0, 1) := by decide +kernel
theorem dX12_lays_38 : decode cX12_lays 38 = .ok (.istore_n 3, 1) := by decide +kernel
theorem dX12_lays_39 : decode cX12_lays 39 = .ok (.iload_n 3, 1) := by decide +kernel
theorem dX12_lays_40 : decode cX12_lays 40 = .ok (.iconst 3, 1) := by decide +kernel
theorem dX12_lays_41 : decode cX12_lays 41 = .ok (.if_icmp .ge 20, 3) := by decide +kernel
theorem dX12_lays_44 : decode cX12_lays 44 = .ok (.aload_n 0, 1) := by decide +kernel
theorem dX12_lays_45 : decode cX12_lays 45 = .ok (.getfield 54, 3) := by decide +kernel
theorem dX12_lays_48 : decode cX12_lays 48 = .ok (.iconst 3, 1) := by decide +kernel
theorem dX12_lays_49 : decode cX12_lays 49 = .ok (.iload_n 2, 1) := by decide +kernel
theorem dX12_lays_50 : decode cX12_lays 50 = .ok (.imul, 1) := by decide +kernel
theorem dX12_lays_51 : decode cX12_lays 51 = .ok (.iload_n 3, 1) := by decide +kernel
theorem dX12_lays_52 : decode cX12_lays 52 = .ok (.iadd, 1) := by decide +kernel
theorem dX12_lays_53 : decode cX12_lays 53 = .ok (.lconst 0, 1) := by decide +kernel
theorem dX12_lays_54 : decode cX12_lays 54 = .ok (.lastore, 1) := by decide +kernel
theorem dX12_lays_55 : decode cX12_lays 55 = .ok (.iinc 3 1, 3) := by decide +kernel
theorem dX12_lays_58 : decode cX12_lays 58 = .ok (.goto (-19), 3) := by decide +kernel
theorem dX12_lays_61 : decode cX12_lays 61 = .ok (.iinc 2 1, 3) := by decide +kernel
theorem dX12_lays_64 : decode cX12_lays 64 = .ok (.goto (-55), 3) := by decide +kernel
theorem dX12_lays_67 : decode cX12_lays 67 = .ok (.iconst 0, 1) := by decide +kernel
theorem dX12_lays_68 : decode cX12_lays 68 = .ok (.istore_n 2, 1) := by decide +kernel
theorem dX12_lays_69 : decode cX12_lays 69 = .ok (.iload_n 2, 1) := by decide +kernel
theorem dX12_lays_70 : decode cX12_lays 70 = .ok (.iconst 1, 1) := by decide +kernel
theorem dX12_lays_71 : decode cX12_lays 71 = .ok (.iload_n 1, 1) := by decide +kernel
theorem dX12_lays_72 : decode cX12_lays 72 = .ok (.ishl, 1) := by decide +kernel
theorem dX12_lays_73 : decode cX12_lays 73 = .ok (.if_icmp .ge 159, 3) := by decide +kernel
theorem dX12_lays_76 : decode cX12_lays 76 = .ok (.iconst 0, 1) := by decide +kernel
theorem dX12_lays_77 : decode cX12_lays 77 = .ok (.istore_n 3, 1) := by decide +kernel
theorem dX12_lays_78 : decode cX12_lays 78 = .ok (.iload_n 3, 1) := by decide +kernel
theorem dX12_lays_79 : decode cX12_lays 79 = .ok (.iconst 1, 1) := by decide +kernel
theorem dX12_lays_80 : decode cX12_lays 80 = .ok (.iload_n 1, 1) := by decide +kernel
theorem dX12_lays_81 : decode cX12_lays 81 = .ok (.ishl, 1) := by decide +kernel
theorem dX12_lays_82 : decode cX12_lays 82 = .ok (.if_icmp .ge 144, 3) := by decide +kernel
theorem dX12_lays_85 : decode cX12_lays 85 = .ok (.aload_n 0, 1) := by decide +kernel
theorem dX12_lays_86 : decode cX12_lays 86 = .ok (.getfield 47, 3) := by decide +kernel
theorem dX12_lays_89 : decode cX12_lays 89 = .ok (.iload_n 2, 1) := by decide +kernel
theorem dX12_lays_90 : decode cX12_lays 90 = .ok (.laload, 1) := by decide +kernel
theorem dX12_lays_91 : decode cX12_lays 91 = .ok (.lconst 0, 1) := by decide +kernel
theorem dX12_lays_92 : decode cX12_lays 92 = .ok (.lcmp, 1) := by decide +kernel
theorem dX12_lays_93 : decode cX12_lays 93 = .ok (.ifCond .le 133, 3) := by decide +kernel
theorem dX12_lays_96 : decode cX12_lays 96 = .ok (.aload_n 0, 1) := by decide +kernel
theorem dX12_lays_97 : decode cX12_lays 97 = .ok (.getfield 47, 3) := by decide +kernel
theorem dX12_lays_100 : decode cX12_lays 100 = .ok (.iload_n 2, 1) := by decide +kernel
theorem dX12_lays_101 : decode cX12_lays 101 = .ok (.laload, 1) := by decide +kernel
theorem dX12_lays_102 : decode cX12_lays 102 = .ok (.aload_n 0, 1) := by decide +kernel
theorem dX12_lays_103 : decode cX12_lays 103 = .ok (.iload_n 2, 1) := by decide +kernel
theorem dX12_lays_104 : decode cX12_lays 104 = .ok (.iload_n 3, 1) := by decide +kernel
theorem dX12_lays_105 : decode cX12_lays 105 = .ok (.invokevirtual 193, 3) := by decide +kernel
theorem dX12_lays_108 : decode cX12_lays 108 = .ok (.lmul, 1) := by decide +kernel
theorem dX12_lays_109 : decode cX12_lays 109 = .ok (.lstore 4, 2) := by decide +kernel
theorem dX12_lays_111 : decode cX12_lays 111 = .ok (.aload_n 0, 1) := by decide +kernel
theorem dX12_lays_112 : decode cX12_lays 112 = .ok (.getfield 25, 3) := by decide +kernel
theorem dX12_lays_115 : decode cX12_lays 115 = .ok (.aload_n 0, 1) := by decide +kernel
theorem dX12_lays_116 : decode cX12_lays 116 = .ok (.getfield 57, 3) := by decide +kernel
theorem dX12_lays_119 : decode cX12_lays 119 = .ok (.aload_n 0, 1) := by decide +kernel
theorem dX12_lays_120 : decode cX12_lays 120 = .ok (.getfield 25, 3) := by decide +kernel
theorem dX12_lays_123 : decode cX12_lays 123 = .ok (.iconst 2, 1) := by decide +kernel
theorem dX12_lays_124 : decode cX12_lays 124 = .ok (.iaload, 1) := by decide +kernel
theorem dX12_lays_125 : decode cX12_lays 125 = .ok (.iload_n 2, 1) := by decide +kernel
theorem dX12_lays_126 : decode cX12_lays 126 = .ok (.iconst (-1), 1) := by decide +kernel
theorem dX12_lays_127 : decode cX12_lays 127 = .ok (.ixor, 1) := by decide +kernel
theorem dX12_lays_128 : decode cX12_lays 128 = .ok (.iand, 1) := by decide +kernel
theorem dX12_lays_129 : decode cX12_lays 129 = .ok (.iload_n 3, 1) := by decide +kernel
theorem dX12_lays_130 : decode cX12_lays 130 = .ok (.invokestatic 197, 3) := by decide +kernel
theorem dX12_lays_133 : decode cX12_lays 133 = .ok (.istore 6, 2) := by decide +kernel
theorem dX12_lays_135 : decode cX12_lays 135 = .ok (.iload 6, 2) := by decide +kernel
theorem dX12_lays_137 : decode cX12_lays 137 = .ok (.ldc 60, 2) := by decide +kernel
theorem dX12_lays_139 : decode cX12_lays 139 = .ok (.if_icmp .eq 22, 3) := by decide +kernel
theorem dX12_lays_142 : decode cX12_lays 142 = .ok (.aload_n 0, 1) := by decide +kernel
theorem dX12_lays_143 : decode cX12_lays 143 = .ok (.getfield 47, 3) := by decide +kernel
theorem dX12_lays_146 : decode cX12_lays 146 = .ok (.iload_n 2, 1) := by decide +kernel
theorem dX12_lays_147 : decode cX12_lays 147 = .ok (.iconst 1, 1) := by decide +kernel
theorem dX12_lays_148 : decode cX12_lays 148 = .ok (.iload 6, 2) := by decide +kernel
theorem dX12_lays_150 : decode cX12_lays 150 = .ok (.ishl, 1) := by decide +kernel
theorem dX12_lays_151 : decode cX12_lays 151 = .ok (.ior, 1) := by decide +kernel
theorem dX12_lays_152 : decode cX12_lays 152 = .ok (.dup2, 1) := by decide +kernel
theorem dX12_lays_153 : decode cX12_lays 153 = .ok (.laload, 1) := by decide +kernel
theorem dX12_lays_154 : decode cX12_lays 154 = .ok (.lload 4, 2) := by decide +kernel
theorem dX12_lays_156 : decode cX12_lays 156 = .ok (.ladd, 1) := by decide +kernel
theorem dX12_lays_157 : decode cX12_lays 157 = .ok (.lastore, 1) := by decide +kernel
theorem dX12_lays_158 : decode cX12_lays 158 = .ok (.goto 62, 3) := by decide +kernel
theorem dX12_lays_161 : decode cX12_lays 161 = .ok (.aload_n 0, 1) := by decide +kernel
theorem dX12_lays_162 : decode cX12_lays 162 = .ok (.getfield 51, 3) := by decide +kernel
theorem dX12_lays_165 : decode cX12_lays 165 = .ok (.iload_n 2, 1) := by decide +kernel
theorem dX12_lays_166 : decode cX12_lays 166 = .ok (.dup2, 1) := by decide +kernel
theorem dX12_lays_167 : decode cX12_lays 167 = .ok (.laload, 1) := by decide +kernel
theorem dX12_lays_168 : decode cX12_lays 168 = .ok (.lload 4, 2) := by decide +kernel
theorem dX12_lays_170 : decode cX12_lays 170 = .ok (.ladd, 1) := by decide +kernel
theorem dX12_lays_171 : decode cX12_lays 171 = .ok (.lastore, 1) := by decide +kernel
theorem dX12_lays_172 : decode cX12_lays 172 = .ok (.iconst 0, 1) := by decide +kernel
theorem dX12_lays_173 : decode cX12_lays 173 = .ok (.istore 7, 2) := by decide +kernel
theorem dX12_lays_175 : decode cX12_lays 175 = .ok (.iload 7, 2) := by decide +kernel
theorem dX12_lays_177 : decode cX12_lays 177 = .ok (.iload_n 1, 1) := by decide +kernel
theorem dX12_lays_178 : decode cX12_lays 178 = .ok (.if_icmp .ge 42, 3) := by decide +kernel
theorem dX12_lays_181 : decode cX12_lays 181 = .ok (.aload_n 0, 1) := by decide +kernel
theorem dX12_lays_182 : decode cX12_lays 182 = .ok (.getfield 54, 3) := by decide +kernel
theorem dX12_lays_185 : decode cX12_lays 185 = .ok (.iconst 3, 1) := by decide +kernel
theorem dX12_lays_186 : decode cX12_lays 186 = .ok (.iload_n 2, 1) := by decide +kernel
theorem dX12_lays_187 : decode cX12_lays 187 = .ok (.imul, 1) := by decide +kernel
theorem dX12_lays_188 : decode cX12_lays 188 = .ok (.iload 7, 2) := by decide +kernel
theorem dX12_lays_190 : decode cX12_lays 190 = .ok (.iadd, 1) := by decide +kernel
theorem dX12_lays_191 : decode cX12_lays 191 = .ok (.dup2, 1) := by decide +kernel
theorem dX12_lays_192 : decode cX12_lays 192 = .ok (.laload, 1) := by decide +kernel
theorem dX12_lays_193 : decode cX12_lays 193 = .ok (.lload 4, 2) := by decide +kernel
theorem dX12_lays_195 : decode cX12_lays 195 = .ok (.aload_n 0, 1) := by decide +kernel
theorem dX12_lays_196 : decode cX12_lays 196 = .ok (.getfield 25, 3) := by decide +kernel
theorem dX12_lays_199 : decode cX12_lays 199 = .ok (.iload 7, 2) := by decide +kernel
theorem dX12_lays_201 : decode cX12_lays 201 = .ok (.iload_n 3, 1) := by decide +kernel
theorem dX12_lays_202 : decode cX12_lays 202 = .ok (.iload 7, 2) := by decide +kernel
theorem dX12_lays_204 : decode cX12_lays 204 = .ok (.invokestatic 160, 3) := by decide +kernel
theorem dX12_lays_207 : decode cX12_lays 207 = .ok (.invokestatic 164, 3) := by decide +kernel
theorem dX12_lays_210 : decode cX12_lays 210 = .ok (.i2l, 1) := by decide +kernel
theorem dX12_lays_211 : decode cX12_lays 211 = .ok (.lmul, 1) := by decide +kernel
theorem dX12_lays_212 : decode cX12_lays 212 = .ok (.ladd, 1) := by decide +kernel
theorem dX12_lays_213 : decode cX12_lays 213 = .ok (.lastore, 1) := by decide +kernel
theorem dX12_lays_214 : decode cX12_lays 214 = .ok (.iinc 7 1, 3) := by decide +kernel
theorem dX12_lays_217 : decode cX12_lays 217 = .ok (.goto (-42), 3) := by decide +kernel
theorem dX12_lays_220 : decode cX12_lays 220 = .ok (.iinc 3 1, 3) := by decide +kernel
theorem dX12_lays_223 : decode cX12_lays 223 = .ok (.goto (-145), 3) := by decide +kernel
theorem dX12_lays_226 : decode cX12_lays 226 = .ok (.iinc 2 1, 3) := by decide +kernel
theorem dX12_lays_229 : decode cX12_lays 229 = .ok (.goto (-160), 3) := by decide +kernel
theorem dX12_lays_232 : decode cX12_lays 232 = .ok (.return_, 1) := by decide +kernel
theorem dX12_meanOf_0 : decode cX12_meanOf 0 = .ok (.aload_n 0, 1) := by decide +kernel
theorem dX12_meanOf_1 : decode cX12_meanOf 1 = .ok (.getfield 25, 3) := by decide +kernel
theorem dX12_meanOf_4 : decode cX12_meanOf 4 = .ok (.iconst 1, 1) := by decide +kernel
theorem dX12_meanOf_5 : decode cX12_meanOf 5 = .ok (.iaload, 1) := by decide +kernel
theorem dX12_meanOf_6 : decode cX12_meanOf 6 = .ok (.istore_n 2, 1) := by decide +kernel
theorem dX12_meanOf_7 : decode cX12_meanOf 7 = .ok (.lconst 0, 1) := by decide +kernel
theorem dX12_meanOf_8 : decode cX12_meanOf 8 = .ok (.lstore_n 3, 1) := by decide +kernel
theorem dX12_meanOf_9 : decode cX12_meanOf 9 = .ok (.iconst 0, 1) := by decide +kernel
theorem dX12_meanOf_10 : decode cX12_meanOf 10 = .ok (.istore 5, 2) := by decide +kernel
theorem dX12_meanOf_12 : decode cX12_meanOf 12 = .ok (.iload 5, 2) := by decide +kernel
theorem dX12_meanOf_14 : decode cX12_meanOf 14 = .ok (.iconst 1, 1) := by decide +kernel
theorem dX12_meanOf_15 : decode cX12_meanOf 15 = .ok (.iload_n 2, 1) := by decide +kernel
theorem dX12_meanOf_16 : decode cX12_meanOf 16 = .ok (.ishl, 1) := by decide +kernel
theorem dX12_meanOf_17 : decode cX12_meanOf 17 = .ok (.if_icmp .ge 36, 3) := by decide +kernel
theorem dX12_meanOf_20 : decode cX12_meanOf 20 = .ok (.lload_n 3, 1) := by decide +kernel
theorem dX12_meanOf_21 : decode cX12_meanOf 21 = .ok (.aload_n 0, 1) := by decide +kernel
theorem dX12_meanOf_22 : decode cX12_meanOf 22 = .ok (.getfield 54, 3) := by decide +kernel
theorem dX12_meanOf_25 : decode cX12_meanOf 25 = .ok (.iconst 3, 1) := by decide +kernel
theorem dX12_meanOf_26 : decode cX12_meanOf 26 = .ok (.iload 5, 2) := by decide +kernel
theorem dX12_meanOf_28 : decode cX12_meanOf 28 = .ok (.imul, 1) := by decide +kernel
theorem dX12_meanOf_29 : decode cX12_meanOf 29 = .ok (.iload_n 1, 1) := by decide +kernel
theorem dX12_meanOf_30 : decode cX12_meanOf 30 = .ok (.iadd, 1) := by decide +kernel
theorem dX12_meanOf_31 : decode cX12_meanOf 31 = .ok (.laload, 1) := by decide +kernel
theorem dX12_meanOf_32 : decode cX12_meanOf 32 = .ok (.iload_n 2, 1) := by decide +kernel
theorem dX12_meanOf_33 : decode cX12_meanOf 33 = .ok (.iconst 3, 1) := by decide +kernel
theorem dX12_meanOf_34 : decode cX12_meanOf 34 = .ok (.iload 5, 2) := by decide +kernel
theorem dX12_meanOf_36 : decode cX12_meanOf 36 = .ok (.invokestatic 190, 3) := by decide +kernel
theorem dX12_meanOf_39 : decode cX12_meanOf 39 = .ok (.isub, 1) := by decide +kernel
theorem dX12_meanOf_40 : decode cX12_meanOf 40 = .ok (.imul, 1) := by decide +kernel
theorem dX12_meanOf_41 : decode cX12_meanOf 41 = .ok (.invokestatic 201, 3) := by decide +kernel
theorem dX12_meanOf_44 : decode cX12_meanOf 44 = .ok (.lmul, 1) := by decide +kernel
theorem dX12_meanOf_45 : decode cX12_meanOf 45 = .ok (.ladd, 1) := by decide +kernel
theorem dX12_meanOf_46 : decode cX12_meanOf 46 = .ok (.lstore_n 3, 1) := by decide +kernel
theorem dX12_meanOf_47 : decode cX12_meanOf 47 = .ok (.iinc 5 1, 3) := by decide +kernel
theorem dX12_meanOf_50 : decode cX12_meanOf 50 = .ok (.goto (-38), 3) := by decide +kernel
theorem dX12_meanOf_53 : decode cX12_meanOf 53 = .ok (.lload_n 3, 1) := by decide +kernel
theorem dX12_meanOf_54 : decode cX12_meanOf 54 = .ok (.lreturn, 1) := by decide +kernel
theorem dX12_notHabits_0 : decode cX12_notHabits 0 = .ok (.aload_n 0, 1) := by decide +kernel
theorem dX12_notHabits_1 : decode cX12_notHabits 1 = .ok (.iload_n 1, 1) := by decide +kernel
theorem dX12_notHabits_2 : decode cX12_notHabits 2 = .ok (.invokevirtual 82, 3) := by decide +kernel
theorem dX12_notHabits_5 : decode cX12_notHabits 5 = .ok (.ifCond .eq 9, 3) := by decide +kernel
theorem dX12_notHabits_8 : decode cX12_notHabits 8 = .ok (.aload_n 0, 1) := by decide +kernel
theorem dX12_notHabits_9 : decode cX12_notHabits 9 = .ok (.iconst 1, 1) := by decide +kernel
theorem dX12_notHabits_10 : decode cX12_notHabits 10 = .ok (.invokevirtual 75, 3) := by decide +kernel
theorem dX12_notHabits_13 : decode cX12_notHabits 13 = .ok (.ireturn, 1) := by decide +kernel
theorem dX12_notHabits_14 : decode cX12_notHabits 14 = .ok (.aload_n 0, 1) := by decide +kernel
theorem dX12_notHabits_15 : decode cX12_notHabits 15 = .ok (.getfield 13, 3) := by decide +kernel
theorem dX12_notHabits_18 : decode cX12_notHabits 18 = .ok (.iload_n 1, 1) := by decide +kernel
theorem dX12_notHabits_19 : decode cX12_notHabits 19 = .ok (.iaload, 1) := by decide +kernel
theorem dX12_notHabits_20 : decode cX12_notHabits 20 = .ok (.aload_n 0, 1) := by decide +kernel
theorem dX12_notHabits_21 : decode cX12_notHabits 21 = .ok (.getfield 25, 3) := by decide +kernel
theorem dX12_notHabits_24 : decode cX12_notHabits 24 = .ok (.iconst 1, 1) := by decide +kernel
theorem dX12_notHabits_25 : decode cX12_notHabits 25 = .ok (.iaload, 1) := by decide +kernel
theorem dX12_notHabits_26 : decode cX12_notHabits 26 = .ok (.if_icmp .ge 9, 3) := by decide +kernel
theorem dX12_notHabits_29 : decode cX12_notHabits 29 = .ok (.aload_n 0, 1) := by decide +kernel
theorem dX12_notHabits_30 : decode cX12_notHabits 30 = .ok (.iconst 2, 1) := by decide +kernel
theorem dX12_notHabits_31 : decode cX12_notHabits 31 = .ok (.invokevirtual 75, 3) := by decide +kernel
theorem dX12_notHabits_34 : decode cX12_notHabits 34 = .ok (.ireturn, 1) := by decide +kernel
theorem dX12_notHabits_35 : decode cX12_notHabits 35 = .ok (.iconst 0, 1) := by decide +kernel
theorem dX12_notHabits_36 : decode cX12_notHabits 36 = .ok (.istore_n 2, 1) := by decide +kernel
theorem dX12_notHabits_37 : decode cX12_notHabits 37 = .ok (.iload_n 2, 1) := by decide +kernel
theorem dX12_notHabits_38 : decode cX12_notHabits 38 = .ok (.aload_n 0, 1) := by decide +kernel
theorem dX12_notHabits_39 : decode cX12_notHabits 39 = .ok (.getfield 25, 3) := by decide +kernel
theorem dX12_notHabits_42 : decode cX12_notHabits 42 = .ok (.iconst 1, 1) := by decide +kernel
theorem dX12_notHabits_43 : decode cX12_notHabits 43 = .ok (.iaload, 1) := by decide +kernel
theorem dX12_notHabits_44 : decode cX12_notHabits 44 = .ok (.if_icmp .ge 43, 3) := by decide +kernel
theorem dX12_notHabits_47 : decode cX12_notHabits 47 = .ok (.aload_n 0, 1) := by decide +kernel
theorem dX12_notHabits_48 : decode cX12_notHabits 48 = .ok (.getfield 57, 3) := by decide +kernel
theorem dX12_notHabits_51 : decode cX12_notHabits 51 = .ok (.iload_n 2, 1) := by decide +kernel
theorem dX12_notHabits_52 : decode cX12_notHabits 52 = .ok (.aload_n 0, 1) := by decide +kernel
theorem dX12_notHabits_53 : decode cX12_notHabits 53 = .ok (.getfield 16, 3) := by decide +kernel
theorem dX12_notHabits_56 : decode cX12_notHabits 56 = .ok (.bipush 40, 2) := by decide +kernel
theorem dX12_notHabits_58 : decode cX12_notHabits 58 = .ok (.iload_n 1, 1) := by decide +kernel
theorem dX12_notHabits_59 : decode cX12_notHabits 59 = .ok (.imul, 1) := by decide +kernel
theorem dX12_notHabits_60 : decode cX12_notHabits 60 = .ok (.iload_n 2, 1) := by decide +kernel
theorem dX12_notHabits_61 : decode cX12_notHabits 61 = .ok (.iadd, 1) := by decide +kernel
theorem dX12_notHabits_62 : decode cX12_notHabits 62 = .ok (.iaload, 1) := by decide +kernel
theorem dX12_notHabits_63 : decode cX12_notHabits 63 = .ok (.iastore, 1) := by decide +kernel
theorem dX12_notHabits_64 : decode cX12_notHabits 64 = .ok (.aload_n 0, 1) := by decide +kernel
theorem dX12_notHabits_65 : decode cX12_notHabits 65 = .ok (.getfield 57, 3) := by decide +kernel
theorem dX12_notHabits_68 : decode cX12_notHabits 68 = .ok (.iload_n 2, 1) := by decide +kernel
theorem dX12_notHabits_69 : decode cX12_notHabits 69 = .ok (.iaload, 1) := by decide +kernel
theorem dX12_notHabits_70 : decode cX12_notHabits 70 = .ok (.iconst 0, 1) := by decide +kernel
theorem dX12_notHabits_71 : decode cX12_notHabits 71 = .ok (.iconst 2, 1) := by decide +kernel
theorem dX12_notHabits_72 : decode cX12_notHabits 72 = .ok (.invokestatic 66, 3) := by decide +kernel
theorem dX12_notHabits_75 : decode cX12_notHabits 75 = .ok (.ifCond .ne 6, 3) := by decide +kernel
theorem dX12_notHabits_78 : decode cX12_notHabits 78 = .ok (.ldc 74, 2) := by decide +kernel
theorem dX12_notHabits_80 : decode cX12_notHabits 80 = .ok (.ireturn, 1) := by decide +kernel
theorem dX12_notHabits_81 : decode cX12_notHabits 81 = .ok (.iinc 2 1, 3) := by decide +kernel
theorem dX12_notHabits_84 : decode cX12_notHabits 84 = .ok (.goto (-47), 3) := by decide +kernel
theorem dX12_notHabits_87 : decode cX12_notHabits 87 = .ok (.iconst 0, 1) := by decide +kernel
theorem dX12_notHabits_88 : decode cX12_notHabits 88 = .ok (.ireturn, 1) := by decide +kernel
theorem dX12_lived_0 : decode cX12_lived 0 = .ok (.aload_n 0, 1) := by decide +kernel
theorem dX12_lived_1 : decode cX12_lived 1 = .ok (.invokevirtual 168, 3) := by decide +kernel
theorem dX12_lived_4 : decode cX12_lived 4 = .ok (.ifCond .ne 7, 3) := by decide +kernel
theorem dX12_lived_7 : decode cX12_lived 7 = .ok (.ldc2_w 205, 3) := by decide +kernel
theorem dX12_lived_10 : decode cX12_lived 10 = .ok (.lreturn, 1) := by decide +kernel
theorem dX12_lived_11 : decode cX12_lived 11 = .ok (.iload_n 1, 1) := by decide +kernel
theorem dX12_lived_12 : decode cX12_lived 12 = .ok (.invokestatic 70, 3) := by decide +kernel
theorem dX12_lived_15 : decode cX12_lived 15 = .ok (.ifCond .eq 12, 3) := by decide +kernel
theorem dX12_lived_18 : decode cX12_lived 18 = .ok (.iload_n 2, 1) := by decide +kernel
theorem dX12_lived_19 : decode cX12_lived 19 = .ok (.iconst 1, 1) := by decide +kernel
theorem dX12_lived_20 : decode cX12_lived 20 = .ok (.iconst 4, 1) := by decide +kernel
theorem dX12_lived_21 : decode cX12_lived 21 = .ok (.invokestatic 66, 3) := by decide +kernel
theorem dX12_lived_24 : decode cX12_lived 24 = .ok (.ifCond .ne 7, 3) := by decide +kernel
theorem dX12_lived_27 : decode cX12_lived 27 = .ok (.ldc2_w 207, 3) := by decide +kernel
theorem dX12_lived_30 : decode cX12_lived 30 = .ok (.lreturn, 1) := by decide +kernel
theorem dX12_lived_31 : decode cX12_lived 31 = .ok (.aload_n 0, 1) := by decide +kernel
theorem dX12_lived_32 : decode cX12_lived 32 = .ok (.iload_n 1, 1) := by decide +kernel
theorem dX12_lived_33 : decode cX12_lived 33 = .ok (.invokevirtual 209, 3) := by decide +kernel
theorem dX12_lived_36 : decode cX12_lived 36 = .ok (.istore 4, 2) := by decide +kernel
theorem dX12_lived_38 : decode cX12_lived 38 = .ok (.iload 4, 2) := by decide +kernel
theorem dX12_lived_40 : decode cX12_lived 40 = .ok (.ifCond .eq 7, 3) := by decide +kernel
theorem dX12_lived_43 : decode cX12_lived 43 = .ok (.iload 4, 2) := by decide +kernel
theorem dX12_lived_45 : decode cX12_lived 45 = .ok (.i2l, 1) := by decide +kernel
theorem dX12_lived_46 : decode cX12_lived 46 = .ok (.lreturn, 1) := by decide +kernel
theorem dX12_lived_47 : decode cX12_lived 47 = .ok (.aload_n 0, 1) := by decide +kernel
theorem dX12_lived_48 : decode cX12_lived 48 = .ok (.iconst 0, 1) := by decide +kernel
theorem dX12_lived_49 : decode cX12_lived 49 = .ok (.putfield 61, 3) := by decide +kernel
theorem dX12_lived_52 : decode cX12_lived 52 = .ok (.aload_n 0, 1) := by decide +kernel
theorem dX12_lived_53 : decode cX12_lived 53 = .ok (.invokevirtual 212, 3) := by decide +kernel
theorem dX12_lived_56 : decode cX12_lived 56 = .ok (.lconst 0, 1) := by decide +kernel
theorem dX12_lived_57 : decode cX12_lived 57 = .ok (.lstore 5, 2) := by decide +kernel
theorem dX12_lived_59 : decode cX12_lived 59 = .ok (.iconst 0, 1) := by decide +kernel
theorem dX12_lived_60 : decode cX12_lived 60 = .ok (.istore 7, 2) := by decide +kernel
theorem dX12_lived_62 : decode cX12_lived 62 = .ok (.iload 7, 2) := by decide +kernel
theorem dX12_lived_64 : decode cX12_lived 64 = .ok (.bipush 8, 2) := by decide +kernel
theorem dX12_lived_66 : decode cX12_lived 66 = .ok (.if_icmp .ge 36, 3) := by decide +kernel
theorem dX12_lived_69 : decode cX12_lived 69 = .ok (.lload 5, 2) := by decide +kernel
theorem dX12_lived_71 : decode cX12_lived 71 = .ok (.iload 7, 2) := by decide +kernel
theorem dX12_lived_73 : decode cX12_lived 73 = .ok (.invokestatic 190, 3) := by decide +kernel
theorem dX12_lived_76 : decode cX12_lived 76 = .ok (.iload_n 2, 1) := by decide +kernel
theorem dX12_lived_77 : decode cX12_lived 77 = .ok (.iconst 1, 1) := by decide +kernel
theorem dX12_lived_78 : decode cX12_lived 78 = .ok (.isub, 1) := by decide +kernel
theorem dX12_lived_79 : decode cX12_lived 79 = .ok (.if_icmp .ne 13, 3) := by decide +kernel
theorem dX12_lived_82 : decode cX12_lived 82 = .ok (.aload_n 0, 1) := by decide +kernel
theorem dX12_lived_83 : decode cX12_lived 83 = .ok (.getfield 51, 3) := by decide +kernel
theorem dX12_lived_86 : decode cX12_lived 86 = .ok (.iload 7, 2) := by decide +kernel
theorem dX12_lived_88 : decode cX12_lived 88 = .ok (.laload, 1) := by decide +kernel
theorem dX12_lived_89 : decode cX12_lived 89 = .ok (.goto 4, 3) := by decide +kernel
theorem dX12_lived_92 : decode cX12_lived 92 = .ok (.lconst 0, 1) := by decide +kernel
theorem dX12_lived_93 : decode cX12_lived 93 = .ok (.ladd, 1) := by decide +kernel
theorem dX12_lived_94 : decode cX12_lived 94 = .ok (.lstore 5, 2) := by decide +kernel
theorem dX12_lived_96 : decode cX12_lived 96 = .ok (.iinc 7 1, 3) := by decide +kernel
theorem dX12_lived_99 : decode cX12_lived 99 = .ok (.goto (-37), 3) := by decide +kernel
theorem dX12_lived_102 : decode cX12_lived 102 = .ok (.lload 5, 2) := by decide +kernel
theorem dX12_lived_104 : decode cX12_lived 104 = .ok (.aload_n 0, 1) := by decide +kernel
theorem dX12_lived_105 : decode cX12_lived 105 = .ok (.getfield 25, 3) := by decide +kernel
theorem dX12_lived_108 : decode cX12_lived 108 = .ok (.iconst 1, 1) := by decide +kernel
theorem dX12_lived_109 : decode cX12_lived 109 = .ok (.iaload, 1) := by decide +kernel
theorem dX12_lived_110 : decode cX12_lived 110 = .ok (.iload_n 2, 1) := by decide +kernel
theorem dX12_lived_111 : decode cX12_lived 111 = .ok (.imul, 1) := by decide +kernel
theorem dX12_lived_112 : decode cX12_lived 112 = .ok (.invokestatic 201, 3) := by decide +kernel
theorem dX12_lived_115 : decode cX12_lived 115 = .ok (.iload_n 3, 1) := by decide +kernel
theorem dX12_lived_116 : decode cX12_lived 116 = .ok (.invokestatic 215, 3) := by decide +kernel
theorem dX12_lived_119 : decode cX12_lived 119 = .ok (.lreturn, 1) := by decide +kernel
theorem dX12_mean_0 : decode cX12_mean 0 = .ok (.aload_n 0, 1) := by decide +kernel
theorem dX12_mean_1 : decode cX12_mean 1 = .ok (.invokevirtual 168, 3) := by decide +kernel
theorem dX12_mean_4 : decode cX12_mean 4 = .ok (.ifCond .ne 7, 3) := by decide +kernel
theorem dX12_mean_7 : decode cX12_mean 7 = .ok (.ldc2_w 205, 3) := by decide +kernel
theorem dX12_mean_10 : decode cX12_mean 10 = .ok (.lreturn, 1) := by decide +kernel
theorem dX12_mean_11 : decode cX12_mean 11 = .ok (.iload_n 1, 1) := by decide +kernel
theorem dX12_mean_12 : decode cX12_mean 12 = .ok (.invokestatic 70, 3) := by decide +kernel
theorem dX12_mean_15 : decode cX12_mean 15 = .ok (.ifCond .eq 11, 3) := by decide +kernel
theorem dX12_mean_18 : decode cX12_mean 18 = .ok (.aload_n 0, 1) := by decide +kernel
theorem dX12_mean_19 : decode cX12_mean 19 = .ok (.iload_n 2, 1) := by decide +kernel
theorem dX12_mean_20 : decode cX12_mean 20 = .ok (.invokevirtual 179, 3) := by decide +kernel
theorem dX12_mean_23 : decode cX12_mean 23 = .ok (.ifCond .ne 7, 3) := by decide +kernel
theorem dX12_mean_26 : decode cX12_mean 26 = .ok (.ldc2_w 207, 3) := by decide +kernel
theorem dX12_mean_29 : decode cX12_mean 29 = .ok (.lreturn, 1) := by decide +kernel
theorem dX12_mean_30 : decode cX12_mean 30 = .ok (.aload_n 0, 1) := by decide +kernel
theorem dX12_mean_31 : decode cX12_mean 31 = .ok (.iload_n 1, 1) := by decide +kernel
theorem dX12_mean_32 : decode cX12_mean 32 = .ok (.invokevirtual 209, 3) := by decide +kernel
theorem dX12_mean_35 : decode cX12_mean 35 = .ok (.istore 4, 2) := by decide +kernel
theorem dX12_mean_37 : decode cX12_mean 37 = .ok (.iload 4, 2) := by decide +kernel
theorem dX12_mean_39 : decode cX12_mean 39 = .ok (.ifCond .eq 7, 3) := by decide +kernel
theorem dX12_mean_42 : decode cX12_mean 42 = .ok (.iload 4, 2) := by decide +kernel
theorem dX12_mean_44 : decode cX12_mean 44 = .ok (.i2l, 1) := by decide +kernel
theorem dX12_mean_45 : decode cX12_mean 45 = .ok (.lreturn, 1) := by decide +kernel
theorem dX12_mean_46 : decode cX12_mean 46 = .ok (.aload_n 0, 1) := by decide +kernel
theorem dX12_mean_47 : decode cX12_mean 47 = .ok (.iconst 0, 1) := by decide +kernel
theorem dX12_mean_48 : decode cX12_mean 48 = .ok (.putfield 61, 3) := by decide +kernel
theorem dX12_mean_51 : decode cX12_mean 51 = .ok (.aload_n 0, 1) := by decide +kernel
theorem dX12_mean_52 : decode cX12_mean 52 = .ok (.invokevirtual 212, 3) := by decide +kernel
theorem dX12_mean_55 : decode cX12_mean 55 = .ok (.aload_n 0, 1) := by decide +kernel
theorem dX12_mean_56 : decode cX12_mean 56 = .ok (.iload_n 2, 1) := by decide +kernel
theorem dX12_mean_57 : decode cX12_mean 57 = .ok (.invokevirtual 219, 3) := by decide +kernel
theorem dX12_mean_60 : decode cX12_mean 60 = .ok (.iconst 4, 1) := by decide +kernel
theorem dX12_mean_61 : decode cX12_mean 61 = .ok (.aload_n 0, 1) := by decide +kernel
theorem dX12_mean_62 : decode cX12_mean 62 = .ok (.getfield 25, 3) := by decide +kernel
theorem dX12_mean_65 : decode cX12_mean 65 = .ok (.iconst 1, 1) := by decide +kernel
theorem dX12_mean_66 : decode cX12_mean 66 = .ok (.iaload, 1) := by decide +kernel
theorem dX12_mean_67 : decode cX12_mean 67 = .ok (.imul, 1) := by decide +kernel
theorem dX12_mean_68 : decode cX12_mean 68 = .ok (.invokestatic 201, 3) := by decide +kernel
theorem dX12_mean_71 : decode cX12_mean 71 = .ok (.iload_n 3, 1) := by decide +kernel
theorem dX12_mean_72 : decode cX12_mean 72 = .ok (.invokestatic 215, 3) := by decide +kernel
theorem dX12_mean_75 : decode cX12_mean 75 = .ok (.lreturn, 1) := by decide +kernel
theorem dX12_bestOf_0 : decode cX12_bestOf 0 = .ok (.aload_n 0, 1) := by decide +kernel
theorem dX12_bestOf_1 : decode cX12_bestOf 1 = .ok (.getfield 57, 3) := by decide +kernel
theorem dX12_bestOf_4 : decode cX12_bestOf 4 = .ok (.iload_n 1, 1) := by decide +kernel
theorem dX12_bestOf_5 : decode cX12_bestOf 5 = .ok (.iaload, 1) := by decide +kernel
theorem dX12_bestOf_6 : decode cX12_bestOf 6 = .ok (.istore_n 2, 1) := by decide +kernel
theorem dX12_bestOf_7 : decode cX12_bestOf 7 = .ok (.iconst 0, 1) := by decide +kernel
theorem dX12_bestOf_8 : decode cX12_bestOf 8 = .ok (.istore_n 3, 1) := by decide +kernel
theorem dX12_bestOf_9 : decode cX12_bestOf 9 = .ok (.lconst 0, 1) := by decide +kernel
theorem dX12_bestOf_10 : decode cX12_bestOf 10 = .ok (.lstore 4, 2) := by decide +kernel
theorem dX12_bestOf_12 : decode cX12_bestOf 12 = .ok (.iconst 0, 1) := by decide +kernel
theorem dX12_bestOf_13 : decode cX12_bestOf 13 = .ok (.istore 6, 2) := by decide +kernel
theorem dX12_bestOf_15 : decode cX12_bestOf 15 = .ok (.iload 6, 2) := by decide +kernel
theorem dX12_bestOf_17 : decode cX12_bestOf 17 = .ok (.iconst 3, 1) := by decide +kernel
theorem dX12_bestOf_18 : decode cX12_bestOf 18 = .ok (.if_icmp .ge 70, 3) := by decide +kernel
theorem dX12_bestOf_21 : decode cX12_bestOf 21 = .ok (.aload_n 0, 1) := by decide +kernel
theorem dX12_bestOf_22 : decode cX12_bestOf 22 = .ok (.getfield 57, 3) := by decide +kernel
theorem dX12_bestOf_25 : decode cX12_bestOf 25 = .ok (.iload_n 1, 1) := by decide +kernel
theorem dX12_bestOf_26 : decode cX12_bestOf 26 = .ok (.iload 6, 2) := by decide +kernel
theorem dX12_bestOf_28 : decode cX12_bestOf 28 = .ok (.iastore, 1) := by decide +kernel
theorem dX12_bestOf_29 : decode cX12_bestOf 29 = .ok (.aload_n 0, 1) := by decide +kernel
theorem dX12_bestOf_30 : decode cX12_bestOf 30 = .ok (.invokevirtual 212, 3) := by decide +kernel
theorem dX12_bestOf_33 : decode cX12_bestOf 33 = .ok (.aload_n 0, 1) := by decide +kernel
theorem dX12_bestOf_34 : decode cX12_bestOf 34 = .ok (.iload_n 1, 1) := by decide +kernel
theorem dX12_bestOf_35 : decode cX12_bestOf 35 = .ok (.invokevirtual 219, 3) := by decide +kernel
theorem dX12_bestOf_38 : decode cX12_bestOf 38 = .ok (.lstore 7, 2) := by decide +kernel
theorem dX12_bestOf_40 : decode cX12_bestOf 40 = .ok (.iload 6, 2) := by decide +kernel
theorem dX12_bestOf_42 : decode cX12_bestOf 42 = .ok (.ifCond .eq 11, 3) := by decide +kernel
theorem dX12_bestOf_45 : decode cX12_bestOf 45 = .ok (.lload 7, 2) := by decide +kernel
theorem dX12_bestOf_47 : decode cX12_bestOf 47 = .ok (.lload 4, 2) := by decide +kernel
theorem dX12_bestOf_49 : decode cX12_bestOf 49 = .ok (.lcmp, 1) := by decide +kernel
theorem dX12_bestOf_50 : decode cX12_bestOf 50 = .ok (.ifCond .le 8, 3) := by decide +kernel
theorem dX12_bestOf_53 : decode cX12_bestOf 53 = .ok (.iload 6, 2) := by decide +kernel
theorem dX12_bestOf_55 : decode cX12_bestOf 55 = .ok (.goto 4, 3) := by decide +kernel
theorem dX12_bestOf_58 : decode cX12_bestOf 58 = .ok (.iload_n 3, 1) := by decide +kernel
theorem dX12_bestOf_59 : decode cX12_bestOf 59 = .ok (.istore_n 3, 1) := by decide +kernel
theorem dX12_bestOf_60 : decode cX12_bestOf 60 = .ok (.iload 6, 2) := by decide +kernel
theorem dX12_bestOf_62 : decode cX12_bestOf 62 = .ok (.ifCond .eq 11, 3) := by decide +kernel
theorem dX12_bestOf_65 : decode cX12_bestOf 65 = .ok (.lload 7, 2) := by decide +kernel
theorem dX12_bestOf_67 : decode cX12_bestOf 67 = .ok (.lload 4, 2) := by decide +kernel
theorem dX12_bestOf_69 : decode cX12_bestOf 69 = .ok (.lcmp, 1) := by decide +kernel
theorem dX12_bestOf_70 : decode cX12_bestOf 70 = .ok (.ifCond .le 8, 3) := by decide +kernel
theorem dX12_bestOf_73 : decode cX12_bestOf 73 = .ok (.lload 7, 2) := by decide +kernel
theorem dX12_bestOf_75 : decode cX12_bestOf 75 = .ok (.goto 5, 3) := by decide +kernel
theorem dX12_bestOf_78 : decode cX12_bestOf 78 = .ok (.lload 4, 2) := by decide +kernel
theorem dX12_bestOf_80 : decode cX12_bestOf 80 = .ok (.lstore 4, 2) := by decide +kernel
theorem dX12_bestOf_82 : decode cX12_bestOf 82 = .ok (.iinc 6 1, 3) := by decide +kernel
theorem dX12_bestOf_85 : decode cX12_bestOf 85 = .ok (.goto (-70), 3) := by decide +kernel
theorem dX12_bestOf_88 : decode cX12_bestOf 88 = .ok (.aload_n 0, 1) := by decide +kernel
theorem dX12_bestOf_89 : decode cX12_bestOf 89 = .ok (.getfield 57, 3) := by decide +kernel
theorem dX12_bestOf_92 : decode cX12_bestOf 92 = .ok (.iload_n 1, 1) := by decide +kernel
theorem dX12_bestOf_93 : decode cX12_bestOf 93 = .ok (.iload_n 2, 1) := by decide +kernel
theorem dX12_bestOf_94 : decode cX12_bestOf 94 = .ok (.iastore, 1) := by decide +kernel
theorem dX12_bestOf_95 : decode cX12_bestOf 95 = .ok (.iload_n 3, 1) := by decide +kernel
theorem dX12_bestOf_96 : decode cX12_bestOf 96 = .ok (.ireturn, 1) := by decide +kernel
theorem dX12_best_0 : decode cX12_best 0 = .ok (.aload_n 0, 1) := by decide +kernel
theorem dX12_best_1 : decode cX12_best 1 = .ok (.invokevirtual 168, 3) := by decide +kernel
theorem dX12_best_4 : decode cX12_best 4 = .ok (.ifCond .ne 6, 3) := by decide +kernel
theorem dX12_best_7 : decode cX12_best 7 = .ok (.ldc 145, 2) := by decide +kernel
theorem dX12_best_9 : decode cX12_best 9 = .ok (.ireturn, 1) := by decide +kernel
theorem dX12_best_10 : decode cX12_best 10 = .ok (.iload_n 1, 1) := by decide +kernel
theorem dX12_best_11 : decode cX12_best 11 = .ok (.invokestatic 70, 3) := by decide +kernel
theorem dX12_best_14 : decode cX12_best 14 = .ok (.ifCond .eq 11, 3) := by decide +kernel
theorem dX12_best_17 : decode cX12_best 17 = .ok (.aload_n 0, 1) := by decide +kernel
theorem dX12_best_18 : decode cX12_best 18 = .ok (.iload_n 2, 1) := by decide +kernel
theorem dX12_best_19 : decode cX12_best 19 = .ok (.invokevirtual 179, 3) := by decide +kernel
theorem dX12_best_22 : decode cX12_best 22 = .ok (.ifCond .ne 6, 3) := by decide +kernel
theorem dX12_best_25 : decode cX12_best 25 = .ok (.ldc 74, 2) := by decide +kernel
theorem dX12_best_27 : decode cX12_best 27 = .ok (.ireturn, 1) := by decide +kernel
theorem dX12_best_28 : decode cX12_best 28 = .ok (.aload_n 0, 1) := by decide +kernel
theorem dX12_best_29 : decode cX12_best 29 = .ok (.iload_n 1, 1) := by decide +kernel
theorem dX12_best_30 : decode cX12_best 30 = .ok (.invokevirtual 209, 3) := by decide +kernel
theorem dX12_best_33 : decode cX12_best 33 = .ok (.istore_n 3, 1) := by decide +kernel
theorem dX12_best_34 : decode cX12_best 34 = .ok (.iload_n 3, 1) := by decide +kernel
theorem dX12_best_35 : decode cX12_best 35 = .ok (.ifCond .eq 7, 3) := by decide +kernel
theorem dX12_best_38 : decode cX12_best 38 = .ok (.iload_n 3, 1) := by decide +kernel
theorem dX12_best_39 : decode cX12_best 39 = .ok (.goto 12, 3) := by decide +kernel
theorem dX12_best_42 : decode cX12_best 42 = .ok (.aload_n 0, 1) := by decide +kernel
theorem dX12_best_43 : decode cX12_best 43 = .ok (.aload_n 0, 1) := by decide +kernel
theorem dX12_best_44 : decode cX12_best 44 = .ok (.iload_n 2, 1) := by decide +kernel
theorem dX12_best_45 : decode cX12_best 45 = .ok (.invokevirtual 222, 3) := by decide +kernel
theorem dX12_best_48 : decode cX12_best 48 = .ok (.invokevirtual 79, 3) := by decide +kernel
theorem dX12_best_51 : decode cX12_best 51 = .ok (.ireturn, 1) := by decide +kernel
theorem dX12_isContent_0 : decode cX12_isContent 0 = .ok (.aload_n 0, 1) := by decide +kernel
theorem dX12_isContent_1 : decode cX12_isContent 1 = .ok (.getfield 57, 3) := by decide +kernel
theorem dX12_isContent_4 : decode cX12_isContent 4 = .ok (.iload_n 1, 1) := by decide +kernel
theorem dX12_isContent_5 : decode cX12_isContent 5 = .ok (.iaload, 1) := by decide +kernel
theorem dX12_isContent_6 : decode cX12_isContent 6 = .ok (.istore_n 2, 1) := by decide +kernel
theorem dX12_isContent_7 : decode cX12_isContent 7 = .ok (.aload_n 0, 1) := by decide +kernel
theorem dX12_isContent_8 : decode cX12_isContent 8 = .ok (.invokevirtual 212, 3) := by decide +kernel
theorem dX12_isContent_11 : decode cX12_isContent 11 = .ok (.aload_n 0, 1) := by decide +kernel
theorem dX12_isContent_12 : decode cX12_isContent 12 = .ok (.iload_n 1, 1) := by decide +kernel
theorem dX12_isContent_13 : decode cX12_isContent 13 = .ok (.invokevirtual 219, 3) := by decide +kernel
theorem dX12_isContent_16 : decode cX12_isContent 16 = .ok (.lstore_n 3, 1) := by decide +kernel
theorem dX12_isContent_17 : decode cX12_isContent 17 = .ok (.iconst 1, 1) := by decide +kernel
theorem dX12_isContent_18 : decode cX12_isContent 18 = .ok (.istore 5, 2) := by decide +kernel
theorem dX12_isContent_20 : decode cX12_isContent 20 = .ok (.iconst 0, 1) := by decide +kernel
theorem dX12_isContent_21 : decode cX12_isContent 21 = .ok (.istore 6, 2) := by decide +kernel
theorem dX12_isContent_23 : decode cX12_isContent 23 = .ok (.iload 6, 2) := by decide +kernel
theorem dX12_isContent_25 : decode cX12_isContent 25 = .ok (.iconst 3, 1) := by decide +kernel
theorem dX12_isContent_26 : decode cX12_isContent 26 = .ok (.if_icmp .ge 43, 3) := by decide +kernel
theorem dX12_isContent_29 : decode cX12_isContent 29 = .ok (.aload_n 0, 1) := by decide +kernel
theorem dX12_isContent_30 : decode cX12_isContent 30 = .ok (.getfield 57, 3) := by decide +kernel
theorem dX12_isContent_33 : decode cX12_isContent 33 = .ok (.iload_n 1, 1) := by decide +kernel
theorem dX12_isContent_34 : decode cX12_isContent 34 = .ok (.iload 6, 2) := by decide +kernel
theorem dX12_isContent_36 : decode cX12_isContent 36 = .ok (.iastore, 1) := by decide +kernel
theorem dX12_isContent_37 : decode cX12_isContent 37 = .ok (.aload_n 0, 1) := by decide +kernel
theorem dX12_isContent_38 : decode cX12_isContent 38 = .ok (.invokevirtual 212, 3) := by decide +kernel
theorem dX12_isContent_41 : decode cX12_isContent 41 = .ok (.iload 5, 2) := by decide +kernel
theorem dX12_isContent_43 : decode cX12_isContent 43 = .ok (.ifCond .eq 17, 3) := by decide +kernel
theorem dX12_isContent_46 : decode cX12_isContent 46 = .ok (.aload_n 0, 1) := by decide +kernel
theorem dX12_isContent_47 : decode cX12_isContent 47 = .ok (.iload_n 1, 1) := by decide +kernel
theorem dX12_isContent_48 : decode cX12_isContent 48 = .ok (.invokevirtual 219, 3) := by decide +kernel
theorem dX12_isContent_51 : decode cX12_isContent 51 = .ok (.lload_n 3, 1) := by decide +kernel
theorem dX12_isContent_52 : decode cX12_isContent 52 = .ok (.lcmp, 1) := by decide +kernel
theorem dX12_isContent_53 : decode cX12_isContent 53 = .ok (.ifCond .gt 7, 3) := by decide +kernel
theorem dX12_isContent_56 : decode cX12_isContent 56 = .ok (.iconst 1, 1) := by decide +kernel
theorem dX12_isContent_57 : decode cX12_isContent 57 = .ok (.goto 4, 3) := by decide +kernel
theorem dX12_isContent_60 : decode cX12_isContent 60 = .ok (.iconst 0, 1) := by decide +kernel
theorem dX12_isContent_61 : decode cX12_isContent 61 = .ok (.istore 5, 2) := by decide +kernel
theorem dX12_isContent_63 : decode cX12_isContent 63 = .ok (.iinc 6 1, 3) := by decide +kernel
theorem dX12_isContent_66 : decode cX12_isContent 66 = .ok (.goto (-43), 3) := by decide +kernel
theorem dX12_isContent_69 : decode cX12_isContent 69 = .ok (.aload_n 0, 1) := by decide +kernel
theorem dX12_isContent_70 : decode cX12_isContent 70 = .ok (.getfield 57, 3) := by decide +kernel
theorem dX12_isContent_73 : decode cX12_isContent 73 = .ok (.iload_n 1, 1) := by decide +kernel
theorem dX12_isContent_74 : decode cX12_isContent 74 = .ok (.iload_n 2, 1) := by decide +kernel
theorem dX12_isContent_75 : decode cX12_isContent 75 = .ok (.iastore, 1) := by decide +kernel
theorem dX12_isContent_76 : decode cX12_isContent 76 = .ok (.iload 5, 2) := by decide +kernel
theorem dX12_isContent_78 : decode cX12_isContent 78 = .ok (.ireturn, 1) := by decide +kernel
theorem dX12_takesHabits_0 : decode cX12_takesHabits 0 = .ok (.iload_n 1, 1) := by decide +kernel
theorem dX12_takesHabits_1 : decode cX12_takesHabits 1 = .ok (.istore_n 2, 1) := by decide +kernel
theorem dX12_takesHabits_2 : decode cX12_takesHabits 2 = .ok (.aload_n 0, 1) := by decide +kernel
theorem dX12_takesHabits_3 : decode cX12_takesHabits 3 = .ok (.getfield 25, 3) := by decide +kernel
theorem dX12_takesHabits_6 : decode cX12_takesHabits 6 = .ok (.iconst 1, 1) := by decide +kernel
theorem dX12_takesHabits_7 : decode cX12_takesHabits 7 = .ok (.iaload, 1) := by decide +kernel
theorem dX12_takesHabits_8 : decode cX12_takesHabits 8 = .ok (.iconst 1, 1) := by decide +kernel
theorem dX12_takesHabits_9 : decode cX12_takesHabits 9 = .ok (.isub, 1) := by decide +kernel
theorem dX12_takesHabits_10 : decode cX12_takesHabits 10 = .ok (.istore_n 3, 1) := by decide +kernel
theorem dX12_takesHabits_11 : decode cX12_takesHabits 11 = .ok (.iload_n 3, 1) := by decide +kernel
theorem dX12_takesHabits_12 : decode cX12_takesHabits 12 = .ok (.ifCond .lt 22, 3) := by decide +kernel
theorem dX12_takesHabits_15 : decode cX12_takesHabits 15 = .ok (.aload_n 0, 1) := by decide +kernel
theorem dX12_takesHabits_16 : decode cX12_takesHabits 16 = .ok (.getfield 57, 3) := by decide +kernel
theorem dX12_takesHabits_19 : decode cX12_takesHabits 19 = .ok (.iload_n 3, 1) := by decide +kernel
theorem dX12_takesHabits_20 : decode cX12_takesHabits 20 = .ok (.iload_n 2, 1) := by decide +kernel
theorem dX12_takesHabits_21 : decode cX12_takesHabits 21 = .ok (.iconst 3, 1) := by decide +kernel
theorem dX12_takesHabits_22 : decode cX12_takesHabits 22 = .ok (.irem, 1) := by decide +kernel
theorem dX12_takesHabits_23 : decode cX12_takesHabits 23 = .ok (.iastore, 1) := by decide +kernel
theorem dX12_takesHabits_24 : decode cX12_takesHabits 24 = .ok (.iload_n 2, 1) := by decide +kernel
theorem dX12_takesHabits_25 : decode cX12_takesHabits 25 = .ok (.iconst 3, 1) := by decide +kernel
theorem dX12_takesHabits_26 : decode cX12_takesHabits 26 = .ok (.idiv, 1) := by decide +kernel
theorem dX12_takesHabits_27 : decode cX12_takesHabits 27 = .ok (.istore_n 2, 1) := by decide +kernel
theorem dX12_takesHabits_28 : decode cX12_takesHabits 28 = .ok (.iinc 3 (-1), 3) := by decide +kernel
theorem dX12_takesHabits_31 : decode cX12_takesHabits 31 = .ok (.goto (-20), 3) := by decide +kernel
theorem dX12_takesHabits_34 : decode cX12_takesHabits 34 = .ok (.return_, 1) := by decide +kernel
theorem dX12_rests_0 : decode cX12_rests 0 = .ok (.aload_n 0, 1) := by decide +kernel
theorem dX12_rests_1 : decode cX12_rests 1 = .ok (.invokevirtual 168, 3) := by decide +kernel
theorem dX12_rests_4 : decode cX12_rests 4 = .ok (.ifCond .ne 6, 3) := by decide +kernel
theorem dX12_rests_7 : decode cX12_rests 7 = .ok (.ldc 145, 2) := by decide +kernel
theorem dX12_rests_9 : decode cX12_rests 9 = .ok (.ireturn, 1) := by decide +kernel
theorem dX12_rests_10 : decode cX12_rests 10 = .ok (.iload_n 1, 1) := by decide +kernel
theorem dX12_rests_11 : decode cX12_rests 11 = .ok (.iconst (-1), 1) := by decide +kernel
theorem dX12_rests_12 : decode cX12_rests 12 = .ok (.if_icmp .eq 14, 3) := by decide +kernel
theorem dX12_rests_15 : decode cX12_rests 15 = .ok (.aload_n 0, 1) := by decide +kernel
theorem dX12_rests_16 : decode cX12_rests 16 = .ok (.iload_n 1, 1) := by decide +kernel
theorem dX12_rests_17 : decode cX12_rests 17 = .ok (.invokevirtual 179, 3) := by decide +kernel
theorem dX12_rests_20 : decode cX12_rests 20 = .ok (.ifCond .ne 6, 3) := by decide +kernel
theorem dX12_rests_23 : decode cX12_rests 23 = .ok (.ldc 74, 2) := by decide +kernel
theorem dX12_rests_25 : decode cX12_rests 25 = .ok (.ireturn, 1) := by decide +kernel
theorem dX12_rests_26 : decode cX12_rests 26 = .ok (.aload_n 0, 1) := by decide +kernel
theorem dX12_rests_27 : decode cX12_rests 27 = .ok (.getfield 25, 3) := by decide +kernel
theorem dX12_rests_30 : decode cX12_rests 30 = .ok (.iconst 1, 1) := by decide +kernel
theorem dX12_rests_31 : decode cX12_rests 31 = .ok (.iaload, 1) := by decide +kernel
theorem dX12_rests_32 : decode cX12_rests 32 = .ok (.ifCond .ne 7, 3) := by decide +kernel
theorem dX12_rests_35 : decode cX12_rests 35 = .ok (.iconst 1, 1) := by decide +kernel
theorem dX12_rests_36 : decode cX12_rests 36 = .ok (.goto 34, 3) := by decide +kernel
theorem dX12_rests_39 : decode cX12_rests 39 = .ok (.aload_n 0, 1) := by decide +kernel
theorem dX12_rests_40 : decode cX12_rests 40 = .ok (.getfield 25, 3) := by decide +kernel
theorem dX12_rests_43 : decode cX12_rests 43 = .ok (.iconst 1, 1) := by decide +kernel
theorem dX12_rests_44 : decode cX12_rests 44 = .ok (.iaload, 1) := by decide +kernel
theorem dX12_rests_45 : decode cX12_rests 45 = .ok (.iconst 1, 1) := by decide +kernel
theorem dX12_rests_46 : decode cX12_rests 46 = .ok (.if_icmp .ne 7, 3) := by decide +kernel
theorem dX12_rests_49 : decode cX12_rests 49 = .ok (.iconst 3, 1) := by decide +kernel
theorem dX12_rests_50 : decode cX12_rests 50 = .ok (.goto 20, 3) := by decide +kernel
theorem dX12_rests_53 : decode cX12_rests 53 = .ok (.aload_n 0, 1) := by decide +kernel
theorem dX12_rests_54 : decode cX12_rests 54 = .ok (.getfield 25, 3) := by decide +kernel
theorem dX12_rests_57 : decode cX12_rests 57 = .ok (.iconst 1, 1) := by decide +kernel
theorem dX12_rests_58 : decode cX12_rests 58 = .ok (.iaload, 1) := by decide +kernel
theorem dX12_rests_59 : decode cX12_rests 59 = .ok (.iconst 2, 1) := by decide +kernel
theorem dX12_rests_60 : decode cX12_rests 60 = .ok (.if_icmp .ne 8, 3) := by decide +kernel
theorem dX12_rests_63 : decode cX12_rests 63 = .ok (.bipush 9, 2) := by decide +kernel
theorem dX12_rests_65 : decode cX12_rests 65 = .ok (.goto 5, 3) := by decide +kernel
theorem dX12_rests_68 : decode cX12_rests 68 = .ok (.bipush 27, 2) := by decide +kernel
theorem dX12_rests_70 : decode cX12_rests 70 = .ok (.istore_n 2, 1) := by decide +kernel
theorem dX12_rests_71 : decode cX12_rests 71 = .ok (.iconst 0, 1) := by decide +kernel
theorem dX12_rests_72 : decode cX12_rests 72 = .ok (.istore_n 3, 1) := by decide +kernel
theorem dX12_rests_73 : decode cX12_rests 73 = .ok (.ldc 60, 2) := by decide +kernel
theorem dX12_rests_75 : decode cX12_rests 75 = .ok (.istore 4, 2) := by decide +kernel
theorem dX12_rests_77 : decode cX12_rests 77 = .ok (.iconst 0, 1) := by decide +kernel
theorem dX12_rests_78 : decode cX12_rests 78 = .ok (.istore 5, 2) := by decide +kernel
theorem dX12_rests_80 : decode cX12_rests 80 = .ok (.iload 5, 2) := by decide +kernel
theorem dX12_rests_82 : decode cX12_rests 82 = .ok (.iload_n 2, 1) := by decide +kernel
theorem dX12_rests_83 : decode cX12_rests 83 = .ok (.if_icmp .ge 90, 3) := by decide +kernel
theorem dX12_rests_86 : decode cX12_rests 86 = .ok (.aload_n 0, 1) := by decide +kernel
theorem dX12_rests_87 : decode cX12_rests 87 = .ok (.iload 5, 2) := by decide +kernel
theorem dX12_rests_89 : decode cX12_rests 89 = .ok (.invokevirtual 225, 3) := by decide +kernel
theorem dX12_rests_92 : decode cX12_rests 92 = .ok (.iconst 1, 1) := by decide +kernel
theorem dX12_rests_93 : decode cX12_rests 93 = .ok (.istore 6, 2) := by decide +kernel
theorem dX12_rests_95 : decode cX12_rests 95 = .ok (.iconst 0, 1) := by decide +kernel
theorem dX12_rests_96 : decode cX12_rests 96 = .ok (.istore 7, 2) := by decide +kernel
theorem dX12_rests_98 : decode cX12_rests 98 = .ok (.iload 7, 2) := by decide +kernel
theorem dX12_rests_100 : decode cX12_rests 100 = .ok (.aload_n 0, 1) := by decide +kernel
theorem dX12_rests_101 : decode cX12_rests 101 = .ok (.getfield 25, 3) := by decide +kernel
theorem dX12_rests_104 : decode cX12_rests 104 = .ok (.iconst 1, 1) := by decide +kernel
theorem dX12_rests_105 : decode cX12_rests 105 = .ok (.iaload, 1) := by decide +kernel
theorem dX12_rests_106 : decode cX12_rests 106 = .ok (.if_icmp .ge 30, 3) := by decide +kernel
theorem dX12_rests_109 : decode cX12_rests 109 = .ok (.iload 6, 2) := by decide +kernel
theorem dX12_rests_111 : decode cX12_rests 111 = .ok (.ifCond .eq 16, 3) := by decide +kernel
theorem dX12_rests_114 : decode cX12_rests 114 = .ok (.aload_n 0, 1) := by decide +kernel
theorem dX12_rests_115 : decode cX12_rests 115 = .ok (.iload 7, 2) := by decide +kernel
theorem dX12_rests_117 : decode cX12_rests 117 = .ok (.invokevirtual 229, 3) := by decide +kernel
theorem dX12_rests_120 : decode cX12_rests 120 = .ok (.ifCond .eq 7, 3) := by decide +kernel
theorem dX12_rests_123 : decode cX12_rests 123 = .ok (.iconst 1, 1) := by decide +kernel
theorem dX12_rests_124 : decode cX12_rests 124 = .ok (.goto 4, 3) := by decide +kernel
theorem dX12_rests_127 : decode cX12_rests 127 = .ok (.iconst 0, 1) := by decide +kernel
theorem dX12_rests_128 : decode cX12_rests 128 = .ok (.istore 6, 2) := by decide +kernel
theorem dX12_rests_130 : decode cX12_rests 130 = .ok (.iinc 7 1, 3) := by decide +kernel
theorem dX12_rests_133 : decode cX12_rests 133 = .ok (.goto (-35), 3) := by decide +kernel
theorem dX12_rests_136 : decode cX12_rests 136 = .ok (.iload 6, 2) := by decide +kernel
theorem dX12_rests_138 : decode cX12_rests 138 = .ok (.ifCond .eq 12, 3) := by decide +kernel
theorem dX12_rests_141 : decode cX12_rests 141 = .ok (.iload_n 3, 1) := by decide +kernel
theorem dX12_rests_142 : decode cX12_rests 142 = .ok (.ifCond .ne 8, 3) := by decide +kernel
theorem dX12_rests_145 : decode cX12_rests 145 = .ok (.iload 5, 2) := by decide +kernel
theorem dX12_rests_147 : decode cX12_rests 147 = .ok (.goto 5, 3) := by decide +kernel
theorem dX12_rests_150 : decode cX12_rests 150 = .ok (.iload 4, 2) := by decide +kernel
theorem dX12_rests_152 : decode cX12_rests 152 = .ok (.istore 4, 2) := by decide +kernel
theorem dX12_rests_154 : decode cX12_rests 154 = .ok (.iload_n 3, 1) := by decide +kernel
theorem dX12_rests_155 : decode cX12_rests 155 = .ok (.iload 6, 2) := by decide +kernel
theorem dX12_rests_157 : decode cX12_rests 157 = .ok (.ifCond .eq 7, 3) := by decide +kernel
theorem dX12_rests_160 : decode cX12_rests 160 = .ok (.iconst 1, 1) := by decide +kernel
theorem dX12_rests_161 : decode cX12_rests 161 = .ok (.goto 4, 3) := by decide +kernel
theorem dX12_rests_164 : decode cX12_rests 164 = .ok (.iconst 0, 1) := by decide +kernel
theorem dX12_rests_165 : decode cX12_rests 165 = .ok (.iadd, 1) := by decide +kernel
theorem dX12_rests_166 : decode cX12_rests 166 = .ok (.istore_n 3, 1) := by decide +kernel
theorem dX12_rests_167 : decode cX12_rests 167 = .ok (.iinc 5 1, 3) := by decide +kernel
theorem dX12_rests_170 : decode cX12_rests 170 = .ok (.goto (-90), 3) := by decide +kernel
theorem dX12_rests_173 : decode cX12_rests 173 = .ok (.iload_n 1, 1) := by decide +kernel
theorem dX12_rests_174 : decode cX12_rests 174 = .ok (.iconst (-1), 1) := by decide +kernel
theorem dX12_rests_175 : decode cX12_rests 175 = .ok (.if_icmp .eq 10, 3) := by decide +kernel
theorem dX12_rests_178 : decode cX12_rests 178 = .ok (.iload 4, 2) := by decide +kernel
theorem dX12_rests_180 : decode cX12_rests 180 = .ok (.ldc 60, 2) := by decide +kernel
theorem dX12_rests_182 : decode cX12_rests 182 = .ok (.if_icmp .ne 15, 3) := by decide +kernel
theorem dX12_rests_185 : decode cX12_rests 185 = .ok (.iload_n 1, 1) := by decide +kernel
theorem dX12_rests_186 : decode cX12_rests 186 = .ok (.iconst (-1), 1) := by decide +kernel
theorem dX12_rests_187 : decode cX12_rests 187 = .ok (.if_icmp .ne 7, 3) := by decide +kernel
theorem dX12_rests_190 : decode cX12_rests 190 = .ok (.iload_n 3, 1) := by decide +kernel
theorem dX12_rests_191 : decode cX12_rests 191 = .ok (.goto 5, 3) := by decide +kernel
theorem dX12_rests_194 : decode cX12_rests 194 = .ok (.ldc 60, 2) := by decide +kernel
theorem dX12_rests_196 : decode cX12_rests 196 = .ok (.ireturn, 1) := by decide +kernel
theorem dX12_rests_197 : decode cX12_rests 197 = .ok (.aload_n 0, 1) := by decide +kernel
theorem dX12_rests_198 : decode cX12_rests 198 = .ok (.iload 4, 2) := by decide +kernel
theorem dX12_rests_200 : decode cX12_rests 200 = .ok (.invokevirtual 225, 3) := by decide +kernel
theorem dX12_rests_203 : decode cX12_rests 203 = .ok (.aload_n 0, 1) := by decide +kernel
theorem dX12_rests_204 : decode cX12_rests 204 = .ok (.getfield 57, 3) := by decide +kernel
theorem dX12_rests_207 : decode cX12_rests 207 = .ok (.iload_n 1, 1) := by decide +kernel
theorem dX12_rests_208 : decode cX12_rests 208 = .ok (.iaload, 1) := by decide +kernel
theorem dX12_rests_209 : decode cX12_rests 209 = .ok (.ireturn, 1) := by decide +kernel
theorem dX12_worth_0 : decode cX12_worth 0 = .ok (.aload_n 0, 1) := by decide +kernel
theorem dX12_worth_1 : decode cX12_worth 1 = .ok (.iload_n 1, 1) := by decide +kernel
theorem dX12_worth_2 : decode cX12_worth 2 = .ok (.invokevirtual 179, 3) := by decide +kernel
theorem dX12_worth_5 : decode cX12_worth 5 = .ok (.ifCond .eq 12, 3) := by decide +kernel
theorem dX12_worth_8 : decode cX12_worth 8 = .ok (.iload_n 2, 1) := by decide +kernel
theorem dX12_worth_9 : decode cX12_worth 9 = .ok (.iconst 1, 1) := by decide +kernel
theorem dX12_worth_10 : decode cX12_worth 10 = .ok (.iconst 3, 1) := by decide +kernel
theorem dX12_worth_11 : decode cX12_worth 11 = .ok (.invokestatic 66, 3) := by decide +kernel
theorem dX12_worth_14 : decode cX12_worth 14 = .ok (.ifCond .ne 7, 3) := by decide +kernel
theorem dX12_worth_17 : decode cX12_worth 17 = .ok (.ldc2_w 207, 3) := by decide +kernel
theorem dX12_worth_20 : decode cX12_worth 20 = .ok (.lreturn, 1) := by decide +kernel
theorem dX12_worth_21 : decode cX12_worth 21 = .ok (.aload_n 0, 1) := by decide +kernel
theorem dX12_worth_22 : decode cX12_worth 22 = .ok (.getfield 25, 3) := by decide +kernel
theorem dX12_worth_25 : decode cX12_worth 25 = .ok (.iload_n 1, 1) := by decide +kernel
theorem dX12_worth_26 : decode cX12_worth 26 = .ok (.invokestatic 141, 3) := by decide +kernel
theorem dX12_worth_29 : decode cX12_worth 29 = .ok (.iconst 4, 1) := by decide +kernel
theorem dX12_worth_30 : decode cX12_worth 30 = .ok (.if_icmp .ne 13, 3) := by decide +kernel
theorem dX12_worth_33 : decode cX12_worth 33 = .ok (.iload_n 3, 1) := by decide +kernel
theorem dX12_worth_34 : decode cX12_worth 34 = .ok (.ifCond .eq 7, 3) := by decide +kernel
theorem dX12_worth_37 : decode cX12_worth 37 = .ok (.lconst 0, 1) := by decide +kernel
theorem dX12_worth_38 : decode cX12_worth 38 = .ok (.goto 4, 3) := by decide +kernel
theorem dX12_worth_41 : decode cX12_worth 41 = .ok (.lconst 1, 1) := by decide +kernel
theorem dX12_worth_42 : decode cX12_worth 42 = .ok (.lreturn, 1) := by decide +kernel
theorem dX12_worth_43 : decode cX12_worth 43 = .ok (.aload_n 0, 1) := by decide +kernel
theorem dX12_worth_44 : decode cX12_worth 44 = .ok (.getfield 25, 3) := by decide +kernel
theorem dX12_worth_47 : decode cX12_worth 47 = .ok (.iload_n 1, 1) := by decide +kernel
theorem dX12_worth_48 : decode cX12_worth 48 = .ok (.iconst 0, 1) := by decide +kernel
theorem dX12_worth_49 : decode cX12_worth 49 = .ok (.invokestatic 156, 3) := by decide +kernel
theorem dX12_worth_52 : decode cX12_worth 52 = .ok (.istore 4, 2) := by decide +kernel
theorem dX12_worth_54 : decode cX12_worth 54 = .ok (.aload_n 0, 1) := by decide +kernel
theorem dX12_worth_55 : decode cX12_worth 55 = .ok (.getfield 25, 3) := by decide +kernel
theorem dX12_worth_58 : decode cX12_worth 58 = .ok (.iload_n 1, 1) := by decide +kernel
theorem dX12_worth_59 : decode cX12_worth 59 = .ok (.iconst 1, 1) := by decide +kernel
theorem dX12_worth_60 : decode cX12_worth 60 = .ok (.invokestatic 156, 3) := by decide +kernel
theorem dX12_worth_63 : decode cX12_worth 63 = .ok (.istore 5, 2) := by decide +kernel
theorem dX12_worth_65 : decode cX12_worth 65 = .ok (.aload_n 0, 1) := by decide +kernel
theorem dX12_worth_66 : decode cX12_worth 66 = .ok (.getfield 25, 3) := by decide +kernel
theorem dX12_worth_69 : decode cX12_worth 69 = .ok (.iload_n 1, 1) := by decide +kernel
theorem dX12_worth_70 : decode cX12_worth 70 = .ok (.iconst 1, 1) := by decide +kernel
theorem dX12_worth_71 : decode cX12_worth 71 = .ok (.invokestatic 164, 3) := by decide +kernel
theorem dX12_worth_74 : decode cX12_worth 74 = .ok (.istore 6, 2) := by decide +kernel
theorem dX12_worth_76 : decode cX12_worth 76 = .ok (.aload_n 0, 1) := by decide +kernel
theorem dX12_worth_77 : decode cX12_worth 77 = .ok (.getfield 25, 3) := by decide +kernel
theorem dX12_worth_80 : decode cX12_worth 80 = .ok (.iload_n 1, 1) := by decide +kernel
theorem dX12_worth_81 : decode cX12_worth 81 = .ok (.iconst 0, 1) := by decide +kernel
theorem dX12_worth_82 : decode cX12_worth 82 = .ok (.invokestatic 164, 3) := by decide +kernel
theorem dX12_worth_85 : decode cX12_worth 85 = .ok (.istore 7, 2) := by decide +kernel
theorem dX12_worth_87 : decode cX12_worth 87 = .ok (.iload 4, 2) := by decide +kernel
theorem dX12_worth_89 : decode cX12_worth 89 = .ok (.iload 6, 2) := by decide +kernel
theorem dX12_worth_91 : decode cX12_worth 91 = .ok (.imul, 1) := by decide +kernel
theorem dX12_worth_92 : decode cX12_worth 92 = .ok (.bipush 10, 2) := by decide +kernel
theorem dX12_worth_94 : decode cX12_worth 94 = .ok (.iload 4, 2) := by decide +kernel
theorem dX12_worth_96 : decode cX12_worth 96 = .ok (.isub, 1) := by decide +kernel
theorem dX12_worth_97 : decode cX12_worth 97 = .ok (.iload 7, 2) := by decide +kernel
theorem dX12_worth_99 : decode cX12_worth 99 = .ok (.imul, 1) := by decide +kernel
theorem dX12_worth_100 : decode cX12_worth 100 = .ok (.iadd, 1) := by decide +kernel
theorem dX12_worth_101 : decode cX12_worth 101 = .ok (.i2l, 1) := by decide +kernel
theorem dX12_worth_102 : decode cX12_worth 102 = .ok (.lstore 8, 2) := by decide +kernel
theorem dX12_worth_104 : decode cX12_worth 104 = .ok (.iload 5, 2) := by decide +kernel
theorem dX12_worth_106 : decode cX12_worth 106 = .ok (.iload 6, 2) := by decide +kernel
theorem dX12_worth_108 : decode cX12_worth 108 = .ok (.imul, 1) := by decide +kernel
theorem dX12_worth_109 : decode cX12_worth 109 = .ok (.bipush 10, 2) := by decide +kernel
theorem dX12_worth_111 : decode cX12_worth 111 = .ok (.iload 5, 2) := by decide +kernel
theorem dX12_worth_113 : decode cX12_worth 113 = .ok (.isub, 1) := by decide +kernel
theorem dX12_worth_114 : decode cX12_worth 114 = .ok (.iload 7, 2) := by decide +kernel
theorem dX12_worth_116 : decode cX12_worth 116 = .ok (.imul, 1) := by decide +kernel
theorem dX12_worth_117 : decode cX12_worth 117 = .ok (.iadd, 1) := by decide +kernel
theorem dX12_worth_118 : decode cX12_worth 118 = .ok (.i2l, 1) := by decide +kernel
theorem dX12_worth_119 : decode cX12_worth 119 = .ok (.lstore 10, 2) := by decide +kernel
theorem dX12_worth_121 : decode cX12_worth 121 = .ok (.lconst 0, 1) := by decide +kernel
theorem dX12_worth_122 : decode cX12_worth 122 = .ok (.lstore 12, 2) := by decide +kernel
theorem dX12_worth_124 : decode cX12_worth 124 = .ok (.iconst 1, 1) := by decide +kernel
theorem dX12_worth_125 : decode cX12_worth 125 = .ok (.istore 14, 2) := by decide +kernel
theorem dX12_worth_127 : decode cX12_worth 127 = .ok (.iload 14, 2) := by decide +kernel
theorem dX12_worth_129 : decode cX12_worth 129 = .ok (.iload_n 2, 1) := by decide +kernel
theorem dX12_worth_130 : decode cX12_worth 130 = .ok (.if_icmp .gt 102, 3) := by decide +kernel
theorem dX12_worth_133 : decode cX12_worth 133 = .ok (.lload 10, 2) := by decide +kernel
theorem dX12_worth_135 : decode cX12_worth 135 = .ok (.iload 14, 2) := by decide +kernel
theorem dX12_worth_137 : decode cX12_worth 137 = .ok (.iconst 1, 1) := by decide +kernel
theorem dX12_worth_138 : decode cX12_worth 138 = .ok (.isub, 1) := by decide +kernel
theorem dX12_worth_139 : decode cX12_worth 139 = .ok (.i2l, 1) := by decide +kernel
theorem dX12_worth_140 : decode cX12_worth 140 = .ok (.lload 8, 2) := by decide +kernel
theorem dX12_worth_142 : decode cX12_worth 142 = .ok (.lmul, 1) := by decide +kernel
theorem dX12_worth_143 : decode cX12_worth 143 = .ok (.ladd, 1) := by decide +kernel
theorem dX12_worth_144 : decode cX12_worth 144 = .ok (.iload 14, 2) := by decide +kernel
theorem dX12_worth_146 : decode cX12_worth 146 = .ok (.iconst 1, 1) := by decide +kernel
theorem dX12_worth_147 : decode cX12_worth 147 = .ok (.isub, 1) := by decide +kernel
theorem dX12_worth_148 : decode cX12_worth 148 = .ok (.invokestatic 201, 3) := by decide +kernel
theorem dX12_worth_151 : decode cX12_worth 151 = .ok (.lmul, 1) := by decide +kernel
theorem dX12_worth_152 : decode cX12_worth 152 = .ok (.lstore 15, 2) := by decide +kernel
theorem dX12_worth_154 : decode cX12_worth 154 = .ok (.iload 6, 2) := by decide +kernel
theorem dX12_worth_156 : decode cX12_worth 156 = .ok (.i2l, 1) := by decide +kernel
theorem dX12_worth_157 : decode cX12_worth 157 = .ok (.iload 14, 2) := by decide +kernel
theorem dX12_worth_159 : decode cX12_worth 159 = .ok (.invokestatic 201, 3) := by decide +kernel
theorem dX12_worth_162 : decode cX12_worth 162 = .ok (.lmul, 1) := by decide +kernel
theorem dX12_worth_163 : decode cX12_worth 163 = .ok (.lload 12, 2) := by decide +kernel
theorem dX12_worth_165 : decode cX12_worth 165 = .ok (.ladd, 1) := by decide +kernel
theorem dX12_worth_166 : decode cX12_worth 166 = .ok (.lstore 17, 2) := by decide +kernel
theorem dX12_worth_168 : decode cX12_worth 168 = .ok (.iload 7, 2) := by decide +kernel
theorem dX12_worth_170 : decode cX12_worth 170 = .ok (.i2l, 1) := by decide +kernel
theorem dX12_worth_171 : decode cX12_worth 171 = .ok (.iload 14, 2) := by decide +kernel
theorem dX12_worth_173 : decode cX12_worth 173 = .ok (.invokestatic 201, 3) := by decide +kernel
theorem dX12_worth_176 : decode cX12_worth 176 = .ok (.lmul, 1) := by decide +kernel
theorem dX12_worth_177 : decode cX12_worth 177 = .ok (.lload 12, 2) := by decide +kernel
theorem dX12_worth_179 : decode cX12_worth 179 = .ok (.ladd, 1) := by decide +kernel
theorem dX12_worth_180 : decode cX12_worth 180 = .ok (.lstore 19, 2) := by decide +kernel
theorem dX12_worth_182 : decode cX12_worth 182 = .ok (.iload 4, 2) := by decide +kernel
theorem dX12_worth_184 : decode cX12_worth 184 = .ok (.i2l, 1) := by decide +kernel
theorem dX12_worth_185 : decode cX12_worth 185 = .ok (.lload 15, 2) := by decide +kernel
theorem dX12_worth_187 : decode cX12_worth 187 = .ok (.lload 17, 2) := by decide +kernel
theorem dX12_worth_189 : decode cX12_worth 189 = .ok (.lcmp, 1) := by decide +kernel
theorem dX12_worth_190 : decode cX12_worth 190 = .ok (.ifCond .le 8, 3) := by decide +kernel
theorem dX12_worth_193 : decode cX12_worth 193 = .ok (.lload 15, 2) := by decide +kernel
theorem dX12_worth_195 : decode cX12_worth 195 = .ok (.goto 5, 3) := by decide +kernel
theorem dX12_worth_198 : decode cX12_worth 198 = .ok (.lload 17, 2) := by decide +kernel
theorem dX12_worth_200 : decode cX12_worth 200 = .ok (.lmul, 1) := by decide +kernel
theorem dX12_worth_201 : decode cX12_worth 201 = .ok (.bipush 10, 2) := by decide +kernel
theorem dX12_worth_203 : decode cX12_worth 203 = .ok (.iload 4, 2) := by decide +kernel
theorem dX12_worth_205 : decode cX12_worth 205 = .ok (.isub, 1) := by decide +kernel
theorem dX12_worth_206 : decode cX12_worth 206 = .ok (.i2l, 1) := by decide +kernel
theorem dX12_worth_207 : decode cX12_worth 207 = .ok (.lload 15, 2) := by decide +kernel
theorem dX12_worth_209 : decode cX12_worth 209 = .ok (.lload 19, 2) := by decide +kernel
theorem dX12_worth_211 : decode cX12_worth 211 = .ok (.lcmp, 1) := by decide +kernel
theorem dX12_worth_212 : decode cX12_worth 212 = .ok (.ifCond .le 8, 3) := by decide +kernel
theorem dX12_worth_215 : decode cX12_worth 215 = .ok (.lload 15, 2) := by decide +kernel
theorem dX12_worth_217 : decode cX12_worth 217 = .ok (.goto 5, 3) := by decide +kernel
theorem dX12_worth_220 : decode cX12_worth 220 = .ok (.lload 19, 2) := by decide +kernel
theorem dX12_worth_222 : decode cX12_worth 222 = .ok (.lmul, 1) := by decide +kernel
theorem dX12_worth_223 : decode cX12_worth 223 = .ok (.ladd, 1) := by decide +kernel
theorem dX12_worth_224 : decode cX12_worth 224 = .ok (.lstore 12, 2) := by decide +kernel
theorem dX12_worth_226 : decode cX12_worth 226 = .ok (.iinc 14 1, 3) := by decide +kernel
theorem dX12_worth_229 : decode cX12_worth 229 = .ok (.goto (-102), 3) := by decide +kernel
theorem dX12_worth_232 : decode cX12_worth 232 = .ok (.lload 12, 2) := by decide +kernel
theorem dX12_worth_234 : decode cX12_worth 234 = .ok (.iload_n 2, 1) := by decide +kernel
theorem dX12_worth_235 : decode cX12_worth 235 = .ok (.i2l, 1) := by decide +kernel
theorem dX12_worth_236 : decode cX12_worth 236 = .ok (.lload 8, 2) := by decide +kernel
theorem dX12_worth_238 : decode cX12_worth 238 = .ok (.lmul, 1) := by decide +kernel
theorem dX12_worth_239 : decode cX12_worth 239 = .ok (.iload_n 2, 1) := by decide +kernel
theorem dX12_worth_240 : decode cX12_worth 240 = .ok (.invokestatic 201, 3) := by decide +kernel
theorem dX12_worth_243 : decode cX12_worth 243 = .ok (.lmul, 1) := by decide +kernel
theorem dX12_worth_244 : decode cX12_worth 244 = .ok (.lsub, 1) := by decide +kernel
theorem dX12_worth_245 : decode cX12_worth 245 = .ok (.iload_n 2, 1) := by decide +kernel
theorem dX12_worth_246 : decode cX12_worth 246 = .ok (.iconst 1, 1) := by decide +kernel
theorem dX12_worth_247 : decode cX12_worth 247 = .ok (.iadd, 1) := by decide +kernel
theorem dX12_worth_248 : decode cX12_worth 248 = .ok (.invokestatic 201, 3) := by decide +kernel
theorem dX12_worth_251 : decode cX12_worth 251 = .ok (.iload_n 3, 1) := by decide +kernel
theorem dX12_worth_252 : decode cX12_worth 252 = .ok (.invokestatic 215, 3) := by decide +kernel
theorem dX12_worth_255 : decode cX12_worth 255 = .ok (.lreturn, 1) := by decide +kernel
theorem dX12_knows_0 : decode cX12_knows 0 = .ok (.aload_n 0, 1) := by decide +kernel
theorem dX12_knows_1 : decode cX12_knows 1 = .ok (.iload_n 1, 1) := by decide +kernel
theorem dX12_knows_2 : decode cX12_knows 2 = .ok (.invokevirtual 179, 3) := by decide +kernel
theorem dX12_knows_5 : decode cX12_knows 5 = .ok (.ifCond .eq 22, 3) := by decide +kernel
theorem dX12_knows_8 : decode cX12_knows 8 = .ok (.iload_n 2, 1) := by decide +kernel
theorem dX12_knows_9 : decode cX12_knows 9 = .ok (.iconst 0, 1) := by decide +kernel
theorem dX12_knows_10 : decode cX12_knows 10 = .ok (.bipush 10, 2) := by decide +kernel
theorem dX12_knows_12 : decode cX12_knows 12 = .ok (.invokestatic 66, 3) := by decide +kernel
theorem dX12_knows_15 : decode cX12_knows 15 = .ok (.ifCond .eq 12, 3) := by decide +kernel
theorem dX12_knows_18 : decode cX12_knows 18 = .ok (.iload_n 3, 1) := by decide +kernel
theorem dX12_knows_19 : decode cX12_knows 19 = .ok (.iconst 0, 1) := by decide +kernel
theorem dX12_knows_20 : decode cX12_knows 20 = .ok (.iconst 1, 1) := by decide +kernel
theorem dX12_knows_21 : decode cX12_knows 21 = .ok (.invokestatic 66, 3) := by decide +kernel
theorem dX12_knows_24 : decode cX12_knows 24 = .ok (.ifCond .ne 7, 3) := by decide +kernel
theorem dX12_knows_27 : decode cX12_knows 27 = .ok (.ldc2_w 207, 3) := by decide +kernel
theorem dX12_knows_30 : decode cX12_knows 30 = .ok (.lreturn, 1) := by decide +kernel
theorem dX12_knows_31 : decode cX12_knows 31 = .ok (.aload_n 0, 1) := by decide +kernel
theorem dX12_knows_32 : decode cX12_knows 32 = .ok (.getfield 25, 3) := by decide +kernel
theorem dX12_knows_35 : decode cX12_knows 35 = .ok (.iload_n 1, 1) := by decide +kernel
theorem dX12_knows_36 : decode cX12_knows 36 = .ok (.iconst 0, 1) := by decide +kernel
theorem dX12_knows_37 : decode cX12_knows 37 = .ok (.invokestatic 156, 3) := by decide +kernel
theorem dX12_knows_40 : decode cX12_knows 40 = .ok (.istore 5, 2) := by decide +kernel
theorem dX12_knows_42 : decode cX12_knows 42 = .ok (.aload_n 0, 1) := by decide +kernel
theorem dX12_knows_43 : decode cX12_knows 43 = .ok (.getfield 25, 3) := by decide +kernel
theorem dX12_knows_46 : decode cX12_knows 46 = .ok (.iload_n 1, 1) := by decide +kernel
theorem dX12_knows_47 : decode cX12_knows 47 = .ok (.iconst 1, 1) := by decide +kernel
theorem dX12_knows_48 : decode cX12_knows 48 = .ok (.invokestatic 156, 3) := by decide +kernel
theorem dX12_knows_51 : decode cX12_knows 51 = .ok (.istore 6, 2) := by decide +kernel
theorem dX12_knows_53 : decode cX12_knows 53 = .ok (.iload_n 2, 1) := by decide +kernel
theorem dX12_knows_54 : decode cX12_knows 54 = .ok (.iload_n 3, 1) := by decide +kernel
theorem dX12_knows_55 : decode cX12_knows 55 = .ok (.iconst 1, 1) := by decide +kernel
theorem dX12_knows_56 : decode cX12_knows 56 = .ok (.if_icmp .ne 8, 3) := by decide +kernel
theorem dX12_knows_59 : decode cX12_knows 59 = .ok (.iload 6, 2) := by decide +kernel
theorem dX12_knows_61 : decode cX12_knows 61 = .ok (.goto 8, 3) := by decide +kernel
theorem dX12_knows_64 : decode cX12_knows 64 = .ok (.bipush 10, 2) := by decide +kernel
theorem dX12_knows_66 : decode cX12_knows 66 = .ok (.iload 6, 2) := by decide +kernel
theorem dX12_knows_68 : decode cX12_knows 68 = .ok (.isub, 1) := by decide +kernel
theorem dX12_knows_69 : decode cX12_knows 69 = .ok (.imul, 1) := by decide +kernel
theorem dX12_knows_70 : decode cX12_knows 70 = .ok (.i2l, 1) := by decide +kernel
theorem dX12_knows_71 : decode cX12_knows 71 = .ok (.lstore 7, 2) := by decide +kernel
theorem dX12_knows_73 : decode cX12_knows 73 = .ok (.bipush 10, 2) := by decide +kernel
theorem dX12_knows_75 : decode cX12_knows 75 = .ok (.iload_n 2, 1) := by decide +kernel
theorem dX12_knows_76 : decode cX12_knows 76 = .ok (.isub, 1) := by decide +kernel
theorem dX12_knows_77 : decode cX12_knows 77 = .ok (.iload_n 3, 1) := by decide +kernel
theorem dX12_knows_78 : decode cX12_knows 78 = .ok (.iconst 1, 1) := by decide +kernel
theorem dX12_knows_79 : decode cX12_knows 79 = .ok (.if_icmp .ne 8, 3) := by decide +kernel
theorem dX12_knows_82 : decode cX12_knows 82 = .ok (.iload 5, 2) := by decide +kernel
theorem dX12_knows_84 : decode cX12_knows 84 = .ok (.goto 8, 3) := by decide +kernel
theorem dX12_knows_87 : decode cX12_knows 87 = .ok (.bipush 10, 2) := by decide +kernel
theorem dX12_knows_89 : decode cX12_knows 89 = .ok (.iload 5, 2) := by decide +kernel
theorem dX12_knows_91 : decode cX12_knows 91 = .ok (.isub, 1) := by decide +kernel
theorem dX12_knows_92 : decode cX12_knows 92 = .ok (.imul, 1) := by decide +kernel
theorem dX12_knows_93 : decode cX12_knows 93 = .ok (.i2l, 1) := by decide +kernel
theorem dX12_knows_94 : decode cX12_knows 94 = .ok (.lstore 9, 2) := by decide +kernel
theorem dX12_knows_96 : decode cX12_knows 96 = .ok (.lload 7, 2) := by decide +kernel
theorem dX12_knows_98 : decode cX12_knows 98 = .ok (.lload 9, 2) := by decide +kernel
theorem dX12_knows_100 : decode cX12_knows 100 = .ok (.ladd, 1) := by decide +kernel
theorem dX12_knows_101 : decode cX12_knows 101 = .ok (.lconst 0, 1) := by decide +kernel
theorem dX12_knows_102 : decode cX12_knows 102 = .ok (.lcmp, 1) := by decide +kernel
theorem dX12_knows_103 : decode cX12_knows 103 = .ok (.ifCond .ne 9, 3) := by decide +kernel
theorem dX12_knows_106 : decode cX12_knows 106 = .ok (.ldc2_w 232, 3) := by decide +kernel
theorem dX12_knows_109 : decode cX12_knows 109 = .ok (.goto 15, 3) := by decide +kernel
theorem dX12_knows_112 : decode cX12_knows 112 = .ok (.lload 7, 2) := by decide +kernel
theorem dX12_knows_114 : decode cX12_knows 114 = .ok (.lload 7, 2) := by decide +kernel
theorem dX12_knows_116 : decode cX12_knows 116 = .ok (.lload 9, 2) := by decide +kernel
theorem dX12_knows_118 : decode cX12_knows 118 = .ok (.ladd, 1) := by decide +kernel
theorem dX12_knows_119 : decode cX12_knows 119 = .ok (.iload 4, 2) := by decide +kernel
theorem dX12_knows_121 : decode cX12_knows 121 = .ok (.invokestatic 215, 3) := by decide +kernel
theorem dX12_knows_124 : decode cX12_knows 124 = .ok (.lreturn, 1) := by decide +kernel
theorem dX12_often_0 : decode cX12_often 0 = .ok (.aload_n 0, 1) := by decide +kernel
theorem dX12_often_1 : decode cX12_often 1 = .ok (.invokevirtual 168, 3) := by decide +kernel
theorem dX12_often_4 : decode cX12_often 4 = .ok (.ifCond .ne 6, 3) := by decide +kernel
theorem dX12_often_7 : decode cX12_often 7 = .ok (.ldc 145, 2) := by decide +kernel
theorem dX12_often_9 : decode cX12_often 9 = .ok (.ireturn, 1) := by decide +kernel
theorem dX12_often_10 : decode cX12_often 10 = .ok (.iload_n 1, 1) := by decide +kernel
theorem dX12_often_11 : decode cX12_often 11 = .ok (.invokestatic 70, 3) := by decide +kernel
theorem dX12_often_14 : decode cX12_often 14 = .ok (.ifCond .eq 32, 3) := by decide +kernel
theorem dX12_often_17 : decode cX12_often 17 = .ok (.iload_n 3, 1) := by decide +kernel
theorem dX12_often_18 : decode cX12_often 18 = .ok (.iconst 0, 1) := by decide +kernel
theorem dX12_often_19 : decode cX12_often 19 = .ok (.bipush 10, 2) := by decide +kernel
theorem dX12_often_21 : decode cX12_often 21 = .ok (.invokestatic 66, 3) := by decide +kernel
theorem dX12_often_24 : decode cX12_often 24 = .ok (.ifCond .eq 22, 3) := by decide +kernel
theorem dX12_often_27 : decode cX12_often 27 = .ok (.iload 4, 2) := by decide +kernel
theorem dX12_often_29 : decode cX12_often 29 = .ok (.iconst 0, 1) := by decide +kernel
theorem dX12_often_30 : decode cX12_often 30 = .ok (.iconst 1, 1) := by decide +kernel
theorem dX12_often_31 : decode cX12_often 31 = .ok (.aload_n 0, 1) := by decide +kernel
theorem dX12_often_32 : decode cX12_often 32 = .ok (.getfield 25, 3) := by decide +kernel
theorem dX12_often_35 : decode cX12_often 35 = .ok (.iconst 1, 1) := by decide +kernel
theorem dX12_often_36 : decode cX12_often 36 = .ok (.iaload, 1) := by decide +kernel
theorem dX12_often_37 : decode cX12_often 37 = .ok (.ishl, 1) := by decide +kernel
theorem dX12_often_38 : decode cX12_often 38 = .ok (.iconst 1, 1) := by decide +kernel
theorem dX12_often_39 : decode cX12_often 39 = .ok (.isub, 1) := by decide +kernel
theorem dX12_often_40 : decode cX12_often 40 = .ok (.invokestatic 66, 3) := by decide +kernel
theorem dX12_often_43 : decode cX12_often 43 = .ok (.ifCond .ne 6, 3) := by decide +kernel
theorem dX12_often_46 : decode cX12_often 46 = .ok (.ldc 74, 2) := by decide +kernel
theorem dX12_often_48 : decode cX12_often 48 = .ok (.ireturn, 1) := by decide +kernel
theorem dX12_often_49 : decode cX12_often 49 = .ok (.aload_n 0, 1) := by decide +kernel
theorem dX12_often_50 : decode cX12_often 50 = .ok (.iload_n 1, 1) := by decide +kernel
theorem dX12_often_51 : decode cX12_often 51 = .ok (.invokevirtual 82, 3) := by decide +kernel
theorem dX12_often_54 : decode cX12_often 54 = .ok (.ifCond .eq 9, 3) := by decide +kernel
theorem dX12_often_57 : decode cX12_often 57 = .ok (.aload_n 0, 1) := by decide +kernel
theorem dX12_often_58 : decode cX12_often 58 = .ok (.iconst 1, 1) := by decide +kernel
theorem dX12_often_59 : decode cX12_often 59 = .ok (.invokevirtual 75, 3) := by decide +kernel
theorem dX12_often_62 : decode cX12_often 62 = .ok (.ireturn, 1) := by decide +kernel
