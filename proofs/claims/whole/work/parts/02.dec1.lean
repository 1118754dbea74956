theorem dX9_numberAtStart_0 : decode cX9_numberAtStart 0 = .ok (.iconst 0, 1) := by decide +kernel
theorem dX9_numberAtStart_1 : decode cX9_numberAtStart 1 = .ok (.istore_n 1, 1) := by decide +kernel
theorem dX9_numberAtStart_2 : decode cX9_numberAtStart 2 = .ok (.aload_n 0, 1) := by decide +kernel
theorem dX9_numberAtStart_3 : decode cX9_numberAtStart 3 = .ok (.getfield 51, 3) := by decide +kernel
theorem dX9_numberAtStart_6 : decode cX9_numberAtStart 6 = .ok (.istore_n 2, 1) := by decide +kernel
theorem dX9_numberAtStart_7 : decode cX9_numberAtStart 7 = .ok (.iload_n 2, 1) := by decide +kernel
theorem dX9_numberAtStart_8 : decode cX9_numberAtStart 8 = .ok (.aload_n 0, 1) := by decide +kernel
theorem dX9_numberAtStart_9 : decode cX9_numberAtStart 9 = .ok (.getfield 29, 3) := by decide +kernel
theorem dX9_numberAtStart_12 : decode cX9_numberAtStart 12 = .ok (.if_icmp .ge 24, 3) := by decide +kernel
theorem dX9_numberAtStart_15 : decode cX9_numberAtStart 15 = .ok (.iload_n 1, 1) := by decide +kernel
theorem dX9_numberAtStart_16 : decode cX9_numberAtStart 16 = .ok (.bipush 10, 2) := by decide +kernel
theorem dX9_numberAtStart_18 : decode cX9_numberAtStart 18 = .ok (.imul, 1) := by decide +kernel
theorem dX9_numberAtStart_19 : decode cX9_numberAtStart 19 = .ok (.aload_n 0, 1) := by decide +kernel
theorem dX9_numberAtStart_20 : decode cX9_numberAtStart 20 = .ok (.getfield 9, 3) := by decide +kernel
theorem dX9_numberAtStart_23 : decode cX9_numberAtStart 23 = .ok (.iload_n 2, 1) := by decide +kernel
theorem dX9_numberAtStart_24 : decode cX9_numberAtStart 24 = .ok (.baload, 1) := by decide +kernel
theorem dX9_numberAtStart_25 : decode cX9_numberAtStart 25 = .ok (.iadd, 1) := by decide +kernel
theorem dX9_numberAtStart_26 : decode cX9_numberAtStart 26 = .ok (.bipush 48, 2) := by decide +kernel
theorem dX9_numberAtStart_28 : decode cX9_numberAtStart 28 = .ok (.isub, 1) := by decide +kernel
theorem dX9_numberAtStart_29 : decode cX9_numberAtStart 29 = .ok (.istore_n 1, 1) := by decide +kernel
theorem dX9_numberAtStart_30 : decode cX9_numberAtStart 30 = .ok (.iinc 2 1, 3) := by decide +kernel
theorem dX9_numberAtStart_33 : decode cX9_numberAtStart 33 = .ok (.goto (-26), 3) := by decide +kernel
theorem dX9_numberAtStart_36 : decode cX9_numberAtStart 36 = .ok (.iload_n 1, 1) := by decide +kernel
theorem dX9_numberAtStart_37 : decode cX9_numberAtStart 37 = .ok (.ireturn, 1) := by decide +kernel
theorem dX9_spells_0 : decode cX9_spells 0 = .ok (.aload_n 0, 1) := by decide +kernel
theorem dX9_spells_1 : decode cX9_spells 1 = .ok (.getfield 29, 3) := by decide +kernel
theorem dX9_spells_4 : decode cX9_spells 4 = .ok (.aload_n 0, 1) := by decide +kernel
theorem dX9_spells_5 : decode cX9_spells 5 = .ok (.getfield 51, 3) := by decide +kernel
theorem dX9_spells_8 : decode cX9_spells 8 = .ok (.isub, 1) := by decide +kernel
theorem dX9_spells_9 : decode cX9_spells 9 = .ok (.aload_n 1, 1) := by decide +kernel
theorem dX9_spells_10 : decode cX9_spells 10 = .ok (.invokevirtual 114, 3) := by decide +kernel
theorem dX9_spells_13 : decode cX9_spells 13 = .ok (.if_icmp .eq 5, 3) := by decide +kernel
theorem dX9_spells_16 : decode cX9_spells 16 = .ok (.iconst 0, 1) := by decide +kernel
theorem dX9_spells_17 : decode cX9_spells 17 = .ok (.ireturn, 1) := by decide +kernel
theorem dX9_spells_18 : decode cX9_spells 18 = .ok (.iconst 0, 1) := by decide +kernel
theorem dX9_spells_19 : decode cX9_spells 19 = .ok (.istore_n 2, 1) := by decide +kernel
theorem dX9_spells_20 : decode cX9_spells 20 = .ok (.iload_n 2, 1) := by decide +kernel
theorem dX9_spells_21 : decode cX9_spells 21 = .ok (.aload_n 1, 1) := by decide +kernel
theorem dX9_spells_22 : decode cX9_spells 22 = .ok (.invokevirtual 114, 3) := by decide +kernel
theorem dX9_spells_25 : decode cX9_spells 25 = .ok (.if_icmp .ge 30, 3) := by decide +kernel
theorem dX9_spells_28 : decode cX9_spells 28 = .ok (.aload_n 0, 1) := by decide +kernel
theorem dX9_spells_29 : decode cX9_spells 29 = .ok (.getfield 9, 3) := by decide +kernel
theorem dX9_spells_32 : decode cX9_spells 32 = .ok (.aload_n 0, 1) := by decide +kernel
theorem dX9_spells_33 : decode cX9_spells 33 = .ok (.getfield 51, 3) := by decide +kernel
theorem dX9_spells_36 : decode cX9_spells 36 = .ok (.iload_n 2, 1) := by decide +kernel
theorem dX9_spells_37 : decode cX9_spells 37 = .ok (.iadd, 1) := by decide +kernel
theorem dX9_spells_38 : decode cX9_spells 38 = .ok (.baload, 1) := by decide +kernel
theorem dX9_spells_39 : decode cX9_spells 39 = .ok (.aload_n 1, 1) := by decide +kernel
theorem dX9_spells_40 : decode cX9_spells 40 = .ok (.iload_n 2, 1) := by decide +kernel
theorem dX9_spells_41 : decode cX9_spells 41 = .ok (.invokevirtual 118, 3) := by decide +kernel
theorem dX9_spells_44 : decode cX9_spells 44 = .ok (.if_icmp .eq 5, 3) := by decide +kernel
theorem dX9_spells_47 : decode cX9_spells 47 = .ok (.iconst 0, 1) := by decide +kernel
theorem dX9_spells_48 : decode cX9_spells 48 = .ok (.ireturn, 1) := by decide +kernel
theorem dX9_spells_49 : decode cX9_spells 49 = .ok (.iinc 2 1, 3) := by decide +kernel
theorem dX9_spells_52 : decode cX9_spells 52 = .ok (.goto (-32), 3) := by decide +kernel
theorem dX9_spells_55 : decode cX9_spells 55 = .ok (.iconst 1, 1) := by decide +kernel
theorem dX9_spells_56 : decode cX9_spells 56 = .ok (.ireturn, 1) := by decide +kernel
theorem dX10_init_0 : decode cX10_init 0 = .ok (.aload_n 0, 1) := by decide +kernel
theorem dX10_init_1 : decode cX10_init 1 = .ok (.invokespecial 1, 3) := by decide +kernel
theorem dX10_init_4 : decode cX10_init 4 = .ok (.aload_n 0, 1) := by decide +kernel
theorem dX10_init_5 : decode cX10_init 5 = .ok (.bipush 6, 2) := by decide +kernel
theorem dX10_init_7 : decode cX10_init 7 = .ok (.anewarray 7, 3) := by decide +kernel
theorem dX10_init_10 : decode cX10_init 10 = .ok (.dup, 1) := by decide +kernel
theorem dX10_init_11 : decode cX10_init 11 = .ok (.iconst 0, 1) := by decide +kernel
theorem dX10_init_12 : decode cX10_init 12 = .ok (.new 7, 3) := by decide +kernel
theorem dX10_init_15 : decode cX10_init 15 = .ok (.dup, 1) := by decide +kernel
theorem dX10_init_16 : decode cX10_init 16 = .ok (.invokespecial 9, 3) := by decide +kernel
theorem dX10_init_19 : decode cX10_init 19 = .ok (.aastore, 1) := by decide +kernel
theorem dX10_init_20 : decode cX10_init 20 = .ok (.dup, 1) := by decide +kernel
theorem dX10_init_21 : decode cX10_init 21 = .ok (.iconst 1, 1) := by decide +kernel
theorem dX10_init_22 : decode cX10_init 22 = .ok (.new 10, 3) := by decide +kernel
theorem dX10_init_25 : decode cX10_init 25 = .ok (.dup, 1) := by decide +kernel
theorem dX10_init_26 : decode cX10_init 26 = .ok (.invokespecial 12, 3) := by decide +kernel
theorem dX10_init_29 : decode cX10_init 29 = .ok (.aastore, 1) := by decide +kernel
theorem dX10_init_30 : decode cX10_init 30 = .ok (.dup, 1) := by decide +kernel
theorem dX10_init_31 : decode cX10_init 31 = .ok (.iconst 2, 1) := by decide +kernel
theorem dX10_init_32 : decode cX10_init 32 = .ok (.new 13, 3) := by decide +kernel
theorem dX10_init_35 : decode cX10_init 35 = .ok (.dup, 1) := by decide +kernel
theorem dX10_init_36 : decode cX10_init 36 = .ok (.invokespecial 15, 3) := by decide +kernel
theorem dX10_init_39 : decode cX10_init 39 = .ok (.aastore, 1) := by decide +kernel
theorem dX10_init_40 : decode cX10_init 40 = .ok (.dup, 1) := by decide +kernel
theorem dX10_init_41 : decode cX10_init 41 = .ok (.iconst 3, 1) := by decide +kernel
theorem dX10_init_42 : decode cX10_init 42 = .ok (.new 16, 3) := by decide +kernel
theorem dX10_init_45 : decode cX10_init 45 = .ok (.dup, 1) := by decide +kernel
theorem dX10_init_46 : decode cX10_init 46 = .ok (.invokespecial 18, 3) := by decide +kernel
theorem dX10_init_49 : decode cX10_init 49 = .ok (.aastore, 1) := by decide +kernel
theorem dX10_init_50 : decode cX10_init 50 = .ok (.dup, 1) := by decide +kernel
theorem dX10_init_51 : decode cX10_init 51 = .ok (.iconst 4, 1) := by decide +kernel
theorem dX10_init_52 : decode cX10_init 52 = .ok (.new 19, 3) := by decide +kernel
theorem dX10_init_55 : decode cX10_init 55 = .ok (.dup, 1) := by decide +kernel
theorem dX10_init_56 : decode cX10_init 56 = .ok (.invokespecial 21, 3) := by decide +kernel
theorem dX10_init_59 : decode cX10_init 59 = .ok (.aastore, 1) := by decide +kernel
theorem dX10_init_60 : decode cX10_init 60 = .ok (.dup, 1) := by decide +kernel
theorem dX10_init_61 : decode cX10_init 61 = .ok (.iconst 5, 1) := by decide +kernel
theorem dX10_init_62 : decode cX10_init 62 = .ok (.new 22, 3) := by decide +kernel
theorem dX10_init_65 : decode cX10_init 65 = .ok (.dup, 1) := by decide +kernel
theorem dX10_init_66 : decode cX10_init 66 = .ok (.invokespecial 24, 3) := by decide +kernel
theorem dX10_init_69 : decode cX10_init 69 = .ok (.aastore, 1) := by decide +kernel
theorem dX10_init_70 : decode cX10_init 70 = .ok (.putfield 25, 3) := by decide +kernel
theorem dX10_init_73 : decode cX10_init 73 = .ok (.aload_n 0, 1) := by decide +kernel
theorem dX10_init_74 : decode cX10_init 74 = .ok (.new 31, 3) := by decide +kernel
theorem dX10_init_77 : decode cX10_init 77 = .ok (.dup, 1) := by decide +kernel
theorem dX10_init_78 : decode cX10_init 78 = .ok (.invokespecial 33, 3) := by decide +kernel
theorem dX10_init_81 : decode cX10_init 81 = .ok (.putfield 34, 3) := by decide +kernel
theorem dX10_init_84 : decode cX10_init 84 = .ok (.aload_n 0, 1) := by decide +kernel
theorem dX10_init_85 : decode cX10_init 85 = .ok (.new 31, 3) := by decide +kernel
theorem dX10_init_88 : decode cX10_init 88 = .ok (.dup, 1) := by decide +kernel
theorem dX10_init_89 : decode cX10_init 89 = .ok (.invokespecial 33, 3) := by decide +kernel
theorem dX10_init_92 : decode cX10_init 92 = .ok (.putfield 38, 3) := by decide +kernel
theorem dX10_init_95 : decode cX10_init 95 = .ok (.aload_n 0, 1) := by decide +kernel
theorem dX10_init_96 : decode cX10_init 96 = .ok (.iconst 2, 1) := by decide +kernel
theorem dX10_init_97 : decode cX10_init 97 = .ok (.anewarray 31, 3) := by decide +kernel
theorem dX10_init_100 : decode cX10_init 100 = .ok (.dup, 1) := by decide +kernel
theorem dX10_init_101 : decode cX10_init 101 = .ok (.iconst 0, 1) := by decide +kernel
theorem dX10_init_102 : decode cX10_init 102 = .ok (.new 31, 3) := by decide +kernel
theorem dX10_init_105 : decode cX10_init 105 = .ok (.dup, 1) := by decide +kernel
theorem dX10_init_106 : decode cX10_init 106 = .ok (.invokespecial 33, 3) := by decide +kernel
theorem dX10_init_109 : decode cX10_init 109 = .ok (.aastore, 1) := by decide +kernel
theorem dX10_init_110 : decode cX10_init 110 = .ok (.dup, 1) := by decide +kernel
theorem dX10_init_111 : decode cX10_init 111 = .ok (.iconst 1, 1) := by decide +kernel
theorem dX10_init_112 : decode cX10_init 112 = .ok (.new 31, 3) := by decide +kernel
theorem dX10_init_115 : decode cX10_init 115 = .ok (.dup, 1) := by decide +kernel
theorem dX10_init_116 : decode cX10_init 116 = .ok (.invokespecial 33, 3) := by decide +kernel
theorem dX10_init_119 : decode cX10_init 119 = .ok (.aastore, 1) := by decide +kernel
theorem dX10_init_120 : decode cX10_init 120 = .ok (.putfield 41, 3) := by decide +kernel
theorem dX10_init_123 : decode cX10_init 123 = .ok (.aload_n 0, 1) := by decide +kernel
theorem dX10_init_124 : decode cX10_init 124 = .ok (.iconst 2, 1) := by decide +kernel
theorem dX10_init_125 : decode cX10_init 125 = .ok (.newarray .boolean, 2) := by decide +kernel
theorem dX10_init_127 : decode cX10_init 127 = .ok (.putfield 45, 3) := by decide +kernel
theorem dX10_init_130 : decode cX10_init 130 = .ok (.aload_n 0, 1) := by decide +kernel
theorem dX10_init_131 : decode cX10_init 131 = .ok (.new 49, 3) := by decide +kernel
theorem dX10_init_134 : decode cX10_init 134 = .ok (.dup, 1) := by decide +kernel
theorem dX10_init_135 : decode cX10_init 135 = .ok (.aload_n 0, 1) := by decide +kernel
theorem dX10_init_136 : decode cX10_init 136 = .ok (.getfield 34, 3) := by decide +kernel
theorem dX10_init_139 : decode cX10_init 139 = .ok (.aload_n 0, 1) := by decide +kernel
theorem dX10_init_140 : decode cX10_init 140 = .ok (.getfield 25, 3) := by decide +kernel
theorem dX10_init_143 : decode cX10_init 143 = .ok (.invokespecial 51, 3) := by decide +kernel
theorem dX10_init_146 : decode cX10_init 146 = .ok (.putfield 54, 3) := by decide +kernel
theorem dX10_init_149 : decode cX10_init 149 = .ok (.aload_n 0, 1) := by decide +kernel
theorem dX10_init_150 : decode cX10_init 150 = .ok (.sipush 150, 3) := by decide +kernel
theorem dX10_init_153 : decode cX10_init 153 = .ok (.newarray .byte, 2) := by decide +kernel
theorem dX10_init_155 : decode cX10_init 155 = .ok (.putfield 58, 3) := by decide +kernel
theorem dX10_init_158 : decode cX10_init 158 = .ok (.aload_n 0, 1) := by decide +kernel
theorem dX10_init_159 : decode cX10_init 159 = .ok (.new 62, 3) := by decide +kernel
theorem dX10_init_162 : decode cX10_init 162 = .ok (.dup, 1) := by decide +kernel
theorem dX10_init_163 : decode cX10_init 163 = .ok (.aload_n 0, 1) := by decide +kernel
theorem dX10_init_164 : decode cX10_init 164 = .ok (.getfield 58, 3) := by decide +kernel
theorem dX10_init_167 : decode cX10_init 167 = .ok (.aload_n 0, 1) := by decide +kernel
theorem dX10_init_168 : decode cX10_init 168 = .ok (.getfield 38, 3) := by decide +kernel
theorem dX10_init_171 : decode cX10_init 171 = .ok (.invokespecial 64, 3) := by decide +kernel
theorem dX10_init_174 : decode cX10_init 174 = .ok (.putfield 67, 3) := by decide +kernel
theorem dX10_init_177 : decode cX10_init 177 = .ok (.aload_n 0, 1) := by decide +kernel
theorem dX10_init_178 : decode cX10_init 178 = .ok (.bipush 6, 2) := by decide +kernel
theorem dX10_init_180 : decode cX10_init 180 = .ok (.newarray .int, 2) := by decide +kernel
theorem dX10_init_182 : decode cX10_init 182 = .ok (.putfield 71, 3) := by decide +kernel
theorem dX10_init_185 : decode cX10_init 185 = .ok (.aload_n 0, 1) := by decide +kernel
theorem dX10_init_186 : decode cX10_init 186 = .ok (.bipush 6, 2) := by decide +kernel
theorem dX10_init_188 : decode cX10_init 188 = .ok (.newarray .int, 2) := by decide +kernel
theorem dX10_init_190 : decode cX10_init 190 = .ok (.putfield 75, 3) := by decide +kernel
theorem dX10_init_193 : decode cX10_init 193 = .ok (.aload_n 0, 1) := by decide +kernel
theorem dX10_init_194 : decode cX10_init 194 = .ok (.lconst 0, 1) := by decide +kernel
theorem dX10_init_195 : decode cX10_init 195 = .ok (.putfield 78, 3) := by decide +kernel
theorem dX10_init_198 : decode cX10_init 198 = .ok (.aload_n 0, 1) := by decide +kernel
theorem dX10_init_199 : decode cX10_init 199 = .ok (.lconst 1, 1) := by decide +kernel
theorem dX10_init_200 : decode cX10_init 200 = .ok (.putfield 82, 3) := by decide +kernel
theorem dX10_init_203 : decode cX10_init 203 = .ok (.return_, 1) := by decide +kernel
theorem dX10_wood_0 : decode cX10_wood 0 = .ok (.iload_n 1, 1) := by decide +kernel
theorem dX10_wood_1 : decode cX10_wood 1 = .ok (.iconst 0, 1) := by decide +kernel
theorem dX10_wood_2 : decode cX10_wood 2 = .ok (.bipush 99, 2) := by decide +kernel
theorem dX10_wood_4 : decode cX10_wood 4 = .ok (.invokestatic 85, 3) := by decide +kernel
theorem dX10_wood_7 : decode cX10_wood 7 = .ok (.ifCond .ne 8, 3) := by decide +kernel
theorem dX10_wood_10 : decode cX10_wood 10 = .ok (.aload_n 0, 1) := by decide +kernel
theorem dX10_wood_11 : decode cX10_wood 11 = .ok (.invokevirtual 89, 3) := by decide +kernel
theorem dX10_wood_14 : decode cX10_wood 14 = .ok (.ireturn, 1) := by decide +kernel
theorem dX10_wood_15 : decode cX10_wood 15 = .ok (.aload_n 0, 1) := by decide +kernel
theorem dX10_wood_16 : decode cX10_wood 16 = .ok (.getfield 34, 3) := by decide +kernel
theorem dX10_wood_19 : decode cX10_wood 19 = .ok (.getfield 93, 3) := by decide +kernel
theorem dX10_wood_22 : decode cX10_wood 22 = .ok (.istore_n 2, 1) := by decide +kernel
theorem dX10_wood_23 : decode cX10_wood 23 = .ok (.aload_n 0, 1) := by decide +kernel
theorem dX10_wood_24 : decode cX10_wood 24 = .ok (.getfield 34, 3) := by decide +kernel
theorem dX10_wood_27 : decode cX10_wood 27 = .ok (.iload_n 1, 1) := by decide +kernel
theorem dX10_wood_28 : decode cX10_wood 28 = .ok (.invokevirtual 97, 3) := by decide +kernel
theorem dX10_wood_31 : decode cX10_wood 31 = .ok (.iload_n 2, 1) := by decide +kernel
theorem dX10_wood_32 : decode cX10_wood 32 = .ok (.ireturn, 1) := by decide +kernel
theorem dX10_tree_0 : decode cX10_tree 0 = .ok (.iload_n 1, 1) := by decide +kernel
theorem dX10_tree_1 : decode cX10_tree 1 = .ok (.iconst 0, 1) := by decide +kernel
theorem dX10_tree_2 : decode cX10_tree 2 = .ok (.iconst 5, 1) := by decide +kernel
theorem dX10_tree_3 : decode cX10_tree 3 = .ok (.invokestatic 85, 3) := by decide +kernel
theorem dX10_tree_6 : decode cX10_tree 6 = .ok (.ifCond .ne 8, 3) := by decide +kernel
theorem dX10_tree_9 : decode cX10_tree 9 = .ok (.aload_n 0, 1) := by decide +kernel
theorem dX10_tree_10 : decode cX10_tree 10 = .ok (.invokevirtual 89, 3) := by decide +kernel
theorem dX10_tree_13 : decode cX10_tree 13 = .ok (.ireturn, 1) := by decide +kernel
theorem dX10_tree_14 : decode cX10_tree 14 = .ok (.aload_n 0, 1) := by decide +kernel
theorem dX10_tree_15 : decode cX10_tree 15 = .ok (.getfield 34, 3) := by decide +kernel
theorem dX10_tree_18 : decode cX10_tree 18 = .ok (.getfield 93, 3) := by decide +kernel
theorem dX10_tree_21 : decode cX10_tree 21 = .ok (.bipush 7, 2) := by decide +kernel
theorem dX10_tree_23 : decode cX10_tree 23 = .ok (.if_icmp .lt 8, 3) := by decide +kernel
theorem dX10_tree_26 : decode cX10_tree 26 = .ok (.aload_n 0, 1) := by decide +kernel
theorem dX10_tree_27 : decode cX10_tree 27 = .ok (.invokevirtual 101, 3) := by decide +kernel
theorem dX10_tree_30 : decode cX10_tree 30 = .ok (.ireturn, 1) := by decide +kernel
theorem dX10_tree_31 : decode cX10_tree 31 = .ok (.aload_n 0, 1) := by decide +kernel
theorem dX10_tree_32 : decode cX10_tree 32 = .ok (.getfield 34, 3) := by decide +kernel
theorem dX10_tree_35 : decode cX10_tree 35 = .ok (.iload_n 1, 1) := by decide +kernel
theorem dX10_tree_36 : decode cX10_tree 36 = .ok (.invokevirtual 104, 3) := by decide +kernel
theorem dX10_tree_39 : decode cX10_tree 39 = .ok (.aload_n 0, 1) := by decide +kernel
theorem dX10_tree_40 : decode cX10_tree 40 = .ok (.getfield 34, 3) := by decide +kernel
theorem dX10_tree_43 : decode cX10_tree 43 = .ok (.iconst 0, 1) := by decide +kernel
theorem dX10_tree_44 : decode cX10_tree 44 = .ok (.putfield 107, 3) := by decide +kernel
theorem dX10_tree_47 : decode cX10_tree 47 = .ok (.aload_n 0, 1) := by decide +kernel
theorem dX10_tree_48 : decode cX10_tree 48 = .ok (.getfield 34, 3) := by decide +kernel
theorem dX10_tree_51 : decode cX10_tree 51 = .ok (.getfield 93, 3) := by decide +kernel
theorem dX10_tree_54 : decode cX10_tree 54 = .ok (.iconst 1, 1) := by decide +kernel
theorem dX10_tree_55 : decode cX10_tree 55 = .ok (.isub, 1) := by decide +kernel
theorem dX10_tree_56 : decode cX10_tree 56 = .ok (.ireturn, 1) := by decide +kernel
theorem dX10_touch_0 : decode cX10_touch 0 = .ok (.aload_n 0, 1) := by decide +kernel
theorem dX10_touch_1 : decode cX10_touch 1 = .ok (.iload_n 1, 1) := by decide +kernel
theorem dX10_touch_2 : decode cX10_touch 2 = .ok (.invokevirtual 110, 3) := by decide +kernel
theorem dX10_touch_5 : decode cX10_touch 5 = .ok (.ifCond .eq 25, 3) := by decide +kernel
theorem dX10_touch_8 : decode cX10_touch 8 = .ok (.aload_n 0, 1) := by decide +kernel
theorem dX10_touch_9 : decode cX10_touch 9 = .ok (.iload_n 2, 1) := by decide +kernel
theorem dX10_touch_10 : decode cX10_touch 10 = .ok (.invokevirtual 110, 3) := by decide +kernel
theorem dX10_touch_13 : decode cX10_touch 13 = .ok (.ifCond .eq 17, 3) := by decide +kernel
theorem dX10_touch_16 : decode cX10_touch 16 = .ok (.iload_n 1, 1) := by decide +kernel
theorem dX10_touch_17 : decode cX10_touch 17 = .ok (.iload_n 2, 1) := by decide +kernel
theorem dX10_touch_18 : decode cX10_touch 18 = .ok (.if_icmp .eq 12, 3) := by decide +kernel
theorem dX10_touch_21 : decode cX10_touch 21 = .ok (.iload_n 3, 1) := by decide +kernel
theorem dX10_touch_22 : decode cX10_touch 22 = .ok (.iconst 0, 1) := by decide +kernel
theorem dX10_touch_23 : decode cX10_touch 23 = .ok (.iconst 1, 1) := by decide +kernel
theorem dX10_touch_24 : decode cX10_touch 24 = .ok (.invokestatic 85, 3) := by decide +kernel
theorem dX10_touch_27 : decode cX10_touch 27 = .ok (.ifCond .ne 8, 3) := by decide +kernel
theorem dX10_touch_30 : decode cX10_touch 30 = .ok (.aload_n 0, 1) := by decide +kernel
theorem dX10_touch_31 : decode cX10_touch 31 = .ok (.invokevirtual 89, 3) := by decide +kernel
theorem dX10_touch_34 : decode cX10_touch 34 = .ok (.ireturn, 1) := by decide +kernel
theorem dX10_touch_35 : decode cX10_touch 35 = .ok (.aload_n 0, 1) := by decide +kernel
theorem dX10_touch_36 : decode cX10_touch 36 = .ok (.getfield 34, 3) := by decide +kernel
theorem dX10_touch_39 : decode cX10_touch 39 = .ok (.getfield 114, 3) := by decide +kernel
theorem dX10_touch_42 : decode cX10_touch 42 = .ok (.iload_n 1, 1) := by decide +kernel
theorem dX10_touch_43 : decode cX10_touch 43 = .ok (.iaload, 1) := by decide +kernel
theorem dX10_touch_44 : decode cX10_touch 44 = .ok (.iload_n 2, 1) := by decide +kernel
theorem dX10_touch_45 : decode cX10_touch 45 = .ok (.ishr, 1) := by decide +kernel
theorem dX10_touch_46 : decode cX10_touch 46 = .ok (.iconst 1, 1) := by decide +kernel
theorem dX10_touch_47 : decode cX10_touch 47 = .ok (.iand, 1) := by decide +kernel
theorem dX10_touch_48 : decode cX10_touch 48 = .ok (.istore 4, 2) := by decide +kernel
theorem dX10_touch_50 : decode cX10_touch 50 = .ok (.aload_n 0, 1) := by decide +kernel
theorem dX10_touch_51 : decode cX10_touch 51 = .ok (.getfield 34, 3) := by decide +kernel
theorem dX10_touch_54 : decode cX10_touch 54 = .ok (.iload_n 1, 1) := by decide +kernel
theorem dX10_touch_55 : decode cX10_touch 55 = .ok (.iload_n 2, 1) := by decide +kernel
theorem dX10_touch_56 : decode cX10_touch 56 = .ok (.iload_n 3, 1) := by decide +kernel
theorem dX10_touch_57 : decode cX10_touch 57 = .ok (.invokevirtual 117, 3) := by decide +kernel
theorem dX10_touch_60 : decode cX10_touch 60 = .ok (.aload_n 0, 1) := by decide +kernel
theorem dX10_touch_61 : decode cX10_touch 61 = .ok (.getfield 34, 3) := by decide +kernel
theorem dX10_touch_64 : decode cX10_touch 64 = .ok (.iconst 0, 1) := by decide +kernel
theorem dX10_touch_65 : decode cX10_touch 65 = .ok (.putfield 107, 3) := by decide +kernel
theorem dX10_touch_68 : decode cX10_touch 68 = .ok (.iload 4, 2) := by decide +kernel
theorem dX10_touch_70 : decode cX10_touch 70 = .ok (.ireturn, 1) := by decide +kernel
theorem dX10_type_0 : decode cX10_type 0 = .ok (.iload_n 1, 1) := by decide +kernel
theorem dX10_type_1 : decode cX10_type 1 = .ok (.iconst 0, 1) := by decide +kernel
theorem dX10_type_2 : decode cX10_type 2 = .ok (.bipush 127, 2) := by decide +kernel
theorem dX10_type_4 : decode cX10_type 4 = .ok (.invokestatic 85, 3) := by decide +kernel
theorem dX10_type_7 : decode cX10_type 7 = .ok (.ifCond .ne 8, 3) := by decide +kernel
theorem dX10_type_10 : decode cX10_type 10 = .ok (.aload_n 0, 1) := by decide +kernel
theorem dX10_type_11 : decode cX10_type 11 = .ok (.invokevirtual 89, 3) := by decide +kernel
theorem dX10_type_14 : decode cX10_type 14 = .ok (.ireturn, 1) := by decide +kernel
theorem dX10_type_15 : decode cX10_type 15 = .ok (.aload_n 0, 1) := by decide +kernel
theorem dX10_type_16 : decode cX10_type 16 = .ok (.getfield 121, 3) := by decide +kernel
theorem dX10_type_19 : decode cX10_type 19 = .ok (.sipush 150, 3) := by decide +kernel
theorem dX10_type_22 : decode cX10_type 22 = .ok (.if_icmp .lt 8, 3) := by decide +kernel
theorem dX10_type_25 : decode cX10_type 25 = .ok (.aload_n 0, 1) := by decide +kernel
theorem dX10_type_26 : decode cX10_type 26 = .ok (.invokevirtual 101, 3) := by decide +kernel
theorem dX10_type_29 : decode cX10_type 29 = .ok (.ireturn, 1) := by decide +kernel
theorem dX10_type_30 : decode cX10_type 30 = .ok (.aload_n 0, 1) := by decide +kernel
theorem dX10_type_31 : decode cX10_type 31 = .ok (.getfield 58, 3) := by decide +kernel
theorem dX10_type_34 : decode cX10_type 34 = .ok (.aload_n 0, 1) := by decide +kernel
theorem dX10_type_35 : decode cX10_type 35 = .ok (.getfield 121, 3) := by decide +kernel
theorem dX10_type_38 : decode cX10_type 38 = .ok (.iload_n 1, 1) := by decide +kernel
theorem dX10_type_39 : decode cX10_type 39 = .ok (.i2b, 1) := by decide +kernel
theorem dX10_type_40 : decode cX10_type 40 = .ok (.bastore, 1) := by decide +kernel
theorem dX10_type_41 : decode cX10_type 41 = .ok (.aload_n 0, 1) := by decide +kernel
theorem dX10_type_42 : decode cX10_type 42 = .ok (.dup, 1) := by decide +kernel
theorem dX10_type_43 : decode cX10_type 43 = .ok (.getfield 121, 3) := by decide +kernel
theorem dX10_type_46 : decode cX10_type 46 = .ok (.iconst 1, 1) := by decide +kernel
theorem dX10_type_47 : decode cX10_type 47 = .ok (.iadd, 1) := by decide +kernel
theorem dX10_type_48 : decode cX10_type 48 = .ok (.putfield 121, 3) := by decide +kernel
theorem dX10_type_51 : decode cX10_type 51 = .ok (.aload_n 0, 1) := by decide +kernel
theorem dX10_type_52 : decode cX10_type 52 = .ok (.getfield 121, 3) := by decide +kernel
theorem dX10_type_55 : decode cX10_type 55 = .ok (.ireturn, 1) := by decide +kernel
theorem dX10_clear_0 : decode cX10_clear 0 = .ok (.aload_n 0, 1) := by decide +kernel
theorem dX10_clear_1 : decode cX10_clear 1 = .ok (.getfield 121, 3) := by decide +kernel
theorem dX10_clear_4 : decode cX10_clear 4 = .ok (.istore_n 1, 1) := by decide +kernel
theorem dX10_clear_5 : decode cX10_clear 5 = .ok (.aload_n 0, 1) := by decide +kernel
theorem dX10_clear_6 : decode cX10_clear 6 = .ok (.iconst 0, 1) := by decide +kernel
theorem dX10_clear_7 : decode cX10_clear 7 = .ok (.putfield 121, 3) := by decide +kernel
theorem dX10_clear_10 : decode cX10_clear 10 = .ok (.iload_n 1, 1) := by decide +kernel
theorem dX10_clear_11 : decode cX10_clear 11 = .ok (.ireturn, 1) := by decide +kernel
theorem dX10_read_0 : decode cX10_read 0 = .ok (.aload_n 0, 1) := by decide +kernel
theorem dX10_read_1 : decode cX10_read 1 = .ok (.getfield 67, 3) := by decide +kernel
theorem dX10_read_4 : decode cX10_read 4 = .ok (.aload_n 0, 1) := by decide +kernel
theorem dX10_read_5 : decode cX10_read 5 = .ok (.getfield 121, 3) := by decide +kernel
theorem dX10_read_8 : decode cX10_read 8 = .ok (.invokevirtual 124, 3) := by decide +kernel
theorem dX10_read_11 : decode cX10_read 11 = .ok (.istore_n 1, 1) := by decide +kernel
theorem dX10_read_12 : decode cX10_read 12 = .ok (.iload_n 1, 1) := by decide +kernel
theorem dX10_read_13 : decode cX10_read 13 = .ok (.ifCond .lt 14, 3) := by decide +kernel
theorem dX10_read_16 : decode cX10_read 16 = .ok (.aload_n 0, 1) := by decide +kernel
theorem dX10_read_17 : decode cX10_read 17 = .ok (.getfield 34, 3) := by decide +kernel
theorem dX10_read_20 : decode cX10_read 20 = .ok (.aload_n 0, 1) := by decide +kernel
theorem dX10_read_21 : decode cX10_read 21 = .ok (.getfield 38, 3) := by decide +kernel
theorem dX10_read_24 : decode cX10_read 24 = .ok (.invokevirtual 128, 3) := by decide +kernel
theorem dX10_read_27 : decode cX10_read 27 = .ok (.iload_n 1, 1) := by decide +kernel
theorem dX10_read_28 : decode cX10_read 28 = .ok (.ireturn, 1) := by decide +kernel
theorem dX10_fell_0 : decode cX10_fell 0 = .ok (.aload_n 0, 1) := by decide +kernel
theorem dX10_fell_1 : decode cX10_fell 1 = .ok (.iload_n 1, 1) := by decide +kernel
theorem dX10_fell_2 : decode cX10_fell 2 = .ok (.invokevirtual 110, 3) := by decide +kernel
theorem dX10_fell_5 : decode cX10_fell 5 = .ok (.ifCond .eq 12, 3) := by decide +kernel
theorem dX10_fell_8 : decode cX10_fell 8 = .ok (.iload_n 2, 1) := by decide +kernel
theorem dX10_fell_9 : decode cX10_fell 9 = .ok (.iconst 0, 1) := by decide +kernel
theorem dX10_fell_10 : decode cX10_fell 10 = .ok (.iconst 1, 1) := by decide +kernel
theorem dX10_fell_11 : decode cX10_fell 11 = .ok (.invokestatic 85, 3) := by decide +kernel
theorem dX10_fell_14 : decode cX10_fell 14 = .ok (.ifCond .ne 8, 3) := by decide +kernel
theorem dX10_fell_17 : decode cX10_fell 17 = .ok (.aload_n 0, 1) := by decide +kernel
theorem dX10_fell_18 : decode cX10_fell 18 = .ok (.invokevirtual 89, 3) := by decide +kernel
theorem dX10_fell_21 : decode cX10_fell 21 = .ok (.ireturn, 1) := by decide +kernel
theorem dX10_fell_22 : decode cX10_fell 22 = .ok (.aload_n 0, 1) := by decide +kernel
theorem dX10_fell_23 : decode cX10_fell 23 = .ok (.getfield 34, 3) := by decide +kernel
theorem dX10_fell_26 : decode cX10_fell 26 = .ok (.getfield 132, 3) := by decide +kernel
theorem dX10_fell_29 : decode cX10_fell 29 = .ok (.iload_n 1, 1) := by decide +kernel
theorem dX10_fell_30 : decode cX10_fell 30 = .ok (.ishr, 1) := by decide +kernel
theorem dX10_fell_31 : decode cX10_fell 31 = .ok (.iconst 1, 1) := by decide +kernel
theorem dX10_fell_32 : decode cX10_fell 32 = .ok (.iand, 1) := by decide +kernel
theorem dX10_fell_33 : decode cX10_fell 33 = .ok (.istore_n 3, 1) := by decide +kernel
theorem dX10_fell_34 : decode cX10_fell 34 = .ok (.aload_n 0, 1) := by decide +kernel
theorem dX10_fell_35 : decode cX10_fell 35 = .ok (.getfield 34, 3) := by decide +kernel
theorem dX10_fell_38 : decode cX10_fell 38 = .ok (.invokevirtual 135, 3) := by decide +kernel
theorem dX10_fell_41 : decode cX10_fell 41 = .ok (.aload_n 0, 1) := by decide +kernel
theorem dX10_fell_42 : decode cX10_fell 42 = .ok (.getfield 34, 3) := by decide +kernel
theorem dX10_fell_45 : decode cX10_fell 45 = .ok (.iload_n 1, 1) := by decide +kernel
theorem dX10_fell_46 : decode cX10_fell 46 = .ok (.iload_n 2, 1) := by decide +kernel
theorem dX10_fell_47 : decode cX10_fell 47 = .ok (.invokevirtual 138, 3) := by decide +kernel
theorem dX10_fell_50 : decode cX10_fell 50 = .ok (.iload_n 3, 1) := by decide +kernel
theorem dX10_fell_51 : decode cX10_fell 51 = .ok (.ireturn, 1) := by decide +kernel
theorem dX10_season_0 : decode cX10_season 0 = .ok (.iload_n 1, 1) := by decide +kernel
theorem dX10_season_1 : decode cX10_season 1 = .ok (.iconst 1, 1) := by decide +kernel
theorem dX10_season_2 : decode cX10_season 2 = .ok (.bipush 60, 2) := by decide +kernel
theorem dX10_season_4 : decode cX10_season 4 = .ok (.invokestatic 85, 3) := by decide +kernel
theorem dX10_season_7 : decode cX10_season 7 = .ok (.ifCond .ne 8, 3) := by decide +kernel
theorem dX10_season_10 : decode cX10_season 10 = .ok (.aload_n 0, 1) := by decide +kernel
theorem dX10_season_11 : decode cX10_season 11 = .ok (.invokevirtual 89, 3) := by decide +kernel
theorem dX10_season_14 : decode cX10_season 14 = .ok (.ireturn, 1) := by decide +kernel
theorem dX10_season_15 : decode cX10_season 15 = .ok (.aload_n 0, 1) := by decide +kernel
theorem dX10_season_16 : decode cX10_season 16 = .ok (.getfield 34, 3) := by decide +kernel
theorem dX10_season_19 : decode cX10_season 19 = .ok (.invokevirtual 135, 3) := by decide +kernel
theorem dX10_season_22 : decode cX10_season 22 = .ok (.aload_n 0, 1) := by decide +kernel
theorem dX10_season_23 : decode cX10_season 23 = .ok (.getfield 34, 3) := by decide +kernel
theorem dX10_season_26 : decode cX10_season 26 = .ok (.aload_n 0, 1) := by decide +kernel
theorem dX10_season_27 : decode cX10_season 27 = .ok (.getfield 34, 3) := by decide +kernel
theorem dX10_season_30 : decode cX10_season 30 = .ok (.getfield 142, 3) := by decide +kernel
theorem dX10_season_33 : decode cX10_season 33 = .ok (.iload_n 1, 1) := by decide +kernel
theorem dX10_season_34 : decode cX10_season 34 = .ok (.iadd, 1) := by decide +kernel
theorem dX10_season_35 : decode cX10_season 35 = .ok (.sipush 999, 3) := by decide +kernel
theorem dX10_season_38 : decode cX10_season 38 = .ok (.invokestatic 145, 3) := by decide +kernel
theorem dX10_season_41 : decode cX10_season 41 = .ok (.putfield 142, 3) := by decide +kernel
theorem dX10_season_44 : decode cX10_season 44 = .ok (.aload_n 0, 1) := by decide +kernel
theorem dX10_season_45 : decode cX10_season 45 = .ok (.getfield 34, 3) := by decide +kernel
theorem dX10_season_48 : decode cX10_season 48 = .ok (.getfield 142, 3) := by decide +kernel
theorem dX10_season_51 : decode cX10_season 51 = .ok (.ireturn, 1) := by decide +kernel
theorem dX10_undo_0 : decode cX10_undo 0 = .ok (.aload_n 0, 1) := by decide +kernel
theorem dX10_undo_1 : decode cX10_undo 1 = .ok (.getfield 34, 3) := by decide +kernel
theorem dX10_undo_4 : decode cX10_undo 4 = .ok (.getfield 107, 3) := by decide +kernel
theorem dX10_undo_7 : decode cX10_undo 7 = .ok (.ifCond .ne 8, 3) := by decide +kernel
theorem dX10_undo_10 : decode cX10_undo 10 = .ok (.aload_n 0, 1) := by decide +kernel
theorem dX10_undo_11 : decode cX10_undo 11 = .ok (.invokevirtual 151, 3) := by decide +kernel
theorem dX10_undo_14 : decode cX10_undo 14 = .ok (.ireturn, 1) := by decide +kernel
theorem dX10_undo_15 : decode cX10_undo 15 = .ok (.aload_n 0, 1) := by decide +kernel
theorem dX10_undo_16 : decode cX10_undo 16 = .ok (.getfield 34, 3) := by decide +kernel
theorem dX10_undo_19 : decode cX10_undo 19 = .ok (.invokevirtual 154, 3) := by decide +kernel
theorem dX10_undo_22 : decode cX10_undo 22 = .ok (.aload_n 0, 1) := by decide +kernel
theorem dX10_undo_23 : decode cX10_undo 23 = .ok (.getfield 34, 3) := by decide +kernel
theorem dX10_undo_26 : decode cX10_undo 26 = .ok (.getfield 142, 3) := by decide +kernel
theorem dX10_undo_29 : decode cX10_undo 29 = .ok (.ireturn, 1) := by decide +kernel
theorem dX10_of_0 : decode cX10_of 0 = .ok (.aload_n 0, 1) := by decide +kernel
theorem dX10_of_1 : decode cX10_of 1 = .ok (.iload_n 1, 1) := by decide +kernel
theorem dX10_of_2 : decode cX10_of 2 = .ok (.invokevirtual 110, 3) := by decide +kernel
theorem dX10_of_5 : decode cX10_of 5 = .ok (.ifCond .eq 12, 3) := by decide +kernel
theorem dX10_of_8 : decode cX10_of 8 = .ok (.iload_n 2, 1) := by decide +kernel
theorem dX10_of_9 : decode cX10_of 9 = .ok (.iconst 0, 1) := by decide +kernel
theorem dX10_of_10 : decode cX10_of 10 = .ok (.iconst 2, 1) := by decide +kernel
theorem dX10_of_11 : decode cX10_of 11 = .ok (.invokestatic 85, 3) := by decide +kernel
theorem dX10_of_14 : decode cX10_of 14 = .ok (.ifCond .ne 8, 3) := by decide +kernel
theorem dX10_of_17 : decode cX10_of 17 = .ok (.aload_n 0, 1) := by decide +kernel
theorem dX10_of_18 : decode cX10_of 18 = .ok (.invokevirtual 89, 3) := by decide +kernel
theorem dX10_of_21 : decode cX10_of 21 = .ok (.ireturn, 1) := by decide +kernel
theorem dX10_of_22 : decode cX10_of 22 = .ok (.iload_n 2, 1) := by decide +kernel
theorem dX10_of_23 : decode cX10_of 23 = .ok (.ifCond .ne 13, 3) := by decide +kernel
theorem dX10_of_26 : decode cX10_of 26 = .ok (.aload_n 0, 1) := by decide +kernel
theorem dX10_of_27 : decode cX10_of 27 = .ok (.getfield 34, 3) := by decide +kernel
theorem dX10_of_30 : decode cX10_of 30 = .ok (.getfield 157, 3) := by decide +kernel
theorem dX10_of_33 : decode cX10_of 33 = .ok (.iload_n 1, 1) := by decide +kernel
theorem dX10_of_34 : decode cX10_of 34 = .ok (.iaload, 1) := by decide +kernel
theorem dX10_of_35 : decode cX10_of 35 = .ok (.ireturn, 1) := by decide +kernel
theorem dX10_of_36 : decode cX10_of 36 = .ok (.iload_n 2, 1) := by decide +kernel
theorem dX10_of_37 : decode cX10_of 37 = .ok (.iconst 1, 1) := by decide +kernel
theorem dX10_of_38 : decode cX10_of 38 = .ok (.if_icmp .ne 17, 3) := by decide +kernel
theorem dX10_of_41 : decode cX10_of 41 = .ok (.aload_n 0, 1) := by decide +kernel
theorem dX10_of_42 : decode cX10_of 42 = .ok (.getfield 34, 3) := by decide +kernel
theorem dX10_of_45 : decode cX10_of 45 = .ok (.getfield 132, 3) := by decide +kernel
theorem dX10_of_48 : decode cX10_of 48 = .ok (.iload_n 1, 1) := by decide +kernel
theorem dX10_of_49 : decode cX10_of 49 = .ok (.ishr, 1) := by decide +kernel
theorem dX10_of_50 : decode cX10_of 50 = .ok (.iconst 1, 1) := by decide +kernel
theorem dX10_of_51 : decode cX10_of 51 = .ok (.iand, 1) := by decide +kernel
theorem dX10_of_52 : decode cX10_of 52 = .ok (.goto 12, 3) := by decide +kernel
theorem dX10_of_55 : decode cX10_of 55 = .ok (.aload_n 0, 1) := by decide +kernel
theorem dX10_of_56 : decode cX10_of 56 = .ok (.getfield 34, 3) := by decide +kernel
theorem dX10_of_59 : decode cX10_of 59 = .ok (.getfield 114, 3) := by decide +kernel
theorem dX10_of_62 : decode cX10_of 62 = .ok (.iload_n 1, 1) := by decide +kernel
theorem dX10_of_63 : decode cX10_of 63 = .ok (.iaload, 1) := by decide +kernel
theorem dX10_of_64 : decode cX10_of 64 = .ok (.ireturn, 1) := by decide +kernel
theorem dX10_copy_0 : decode cX10_copy 0 = .ok (.aload_n 0, 1) := by decide +kernel
theorem dX10_copy_1 : decode cX10_copy 1 = .ok (.iload_n 1, 1) := by decide +kernel
theorem dX10_copy_2 : decode cX10_copy 2 = .ok (.invokevirtual 110, 3) := by decide +kernel
theorem dX10_copy_5 : decode cX10_copy 5 = .ok (.ifCond .eq 19, 3) := by decide +kernel
theorem dX10_copy_8 : decode cX10_copy 8 = .ok (.iload_n 2, 1) := by decide +kernel
theorem dX10_copy_9 : decode cX10_copy 9 = .ok (.invokestatic 160, 3) := by decide +kernel
theorem dX10_copy_12 : decode cX10_copy 12 = .ok (.ifCond .eq 12, 3) := by decide +kernel
theorem dX10_copy_15 : decode cX10_copy 15 = .ok (.iload_n 3, 1) := by decide +kernel
theorem dX10_copy_16 : decode cX10_copy 16 = .ok (.iconst 0, 1) := by decide +kernel
theorem dX10_copy_17 : decode cX10_copy 17 = .ok (.iconst 1, 1) := by decide +kernel
theorem dX10_copy_18 : decode cX10_copy 18 = .ok (.invokestatic 85, 3) := by decide +kernel
theorem dX10_copy_21 : decode cX10_copy 21 = .ok (.ifCond .ne 8, 3) := by decide +kernel
theorem dX10_copy_24 : decode cX10_copy 24 = .ok (.aload_n 0, 1) := by decide +kernel
theorem dX10_copy_25 : decode cX10_copy 25 = .ok (.invokevirtual 89, 3) := by decide +kernel
theorem dX10_copy_28 : decode cX10_copy 28 = .ok (.ireturn, 1) := by decide +kernel
theorem dX10_copy_29 : decode cX10_copy 29 = .ok (.aload_n 0, 1) := by decide +kernel
theorem dX10_copy_30 : decode cX10_copy 30 = .ok (.getfield 25, 3) := by decide +kernel
theorem dX10_copy_33 : decode cX10_copy 33 = .ok (.aload_n 0, 1) := by decide +kernel
theorem dX10_copy_34 : decode cX10_copy 34 = .ok (.getfield 34, 3) := by decide +kernel
theorem dX10_copy_37 : decode cX10_copy 37 = .ok (.getfield 157, 3) := by decide +kernel
theorem dX10_copy_40 : decode cX10_copy 40 = .ok (.iload_n 1, 1) := by decide +kernel
theorem dX10_copy_41 : decode cX10_copy 41 = .ok (.iaload, 1) := by decide +kernel
theorem dX10_copy_42 : decode cX10_copy 42 = .ok (.aaload, 1) := by decide +kernel
theorem dX10_copy_43 : decode cX10_copy 43 = .ok (.astore 4, 2) := by decide +kernel
theorem dX10_copy_45 : decode cX10_copy 45 = .ok (.iload_n 3, 1) := by decide +kernel
theorem dX10_copy_46 : decode cX10_copy 46 = .ok (.ifCond .ne 19, 3) := by decide +kernel
theorem dX10_copy_49 : decode cX10_copy 49 = .ok (.aload 4, 2) := by decide +kernel
theorem dX10_copy_51 : decode cX10_copy 51 = .ok (.iload_n 2, 1) := by decide +kernel
theorem dX10_copy_52 : decode cX10_copy 52 = .ok (.aload_n 0, 1) := by decide +kernel
theorem dX10_copy_53 : decode cX10_copy 53 = .ok (.getfield 34, 3) := by decide +kernel
theorem dX10_copy_56 : decode cX10_copy 56 = .ok (.getfield 142, 3) := by decide +kernel
theorem dX10_copy_59 : decode cX10_copy 59 = .ok (.invokevirtual 165, 3) := by decide +kernel
theorem dX10_copy_62 : decode cX10_copy 62 = .ok (.goto 15, 3) := by decide +kernel
theorem dX10_copy_65 : decode cX10_copy 65 = .ok (.aload 4, 2) := by decide +kernel
theorem dX10_copy_67 : decode cX10_copy 67 = .ok (.aload_n 0, 1) := by decide +kernel
theorem dX10_copy_68 : decode cX10_copy 68 = .ok (.getfield 34, 3) := by decide +kernel
theorem dX10_copy_71 : decode cX10_copy 71 = .ok (.getfield 142, 3) := by decide +kernel
theorem dX10_copy_74 : decode cX10_copy 74 = .ok (.invokevirtual 168, 3) := by decide +kernel
theorem dX10_copy_77 : decode cX10_copy 77 = .ok (.ireturn, 1) := by decide +kernel
theorem dX10_byRow_0 : decode cX10_byRow 0 = .ok (.aload_n 0, 1) := by decide +kernel
theorem dX10_byRow_1 : decode cX10_byRow 1 = .ok (.getfield 54, 3) := by decide +kernel
theorem dX10_byRow_4 : decode cX10_byRow 4 = .ok (.iload_n 1, 1) := by decide +kernel
theorem dX10_byRow_5 : decode cX10_byRow 5 = .ok (.invokevirtual 171, 3) := by decide +kernel
theorem dX10_byRow_8 : decode cX10_byRow 8 = .ok (.ifCond .eq 19, 3) := by decide +kernel
theorem dX10_byRow_11 : decode cX10_byRow 11 = .ok (.iload_n 2, 1) := by decide +kernel
theorem dX10_byRow_12 : decode cX10_byRow 12 = .ok (.invokestatic 160, 3) := by decide +kernel
theorem dX10_byRow_15 : decode cX10_byRow 15 = .ok (.ifCond .eq 12, 3) := by decide +kernel
theorem dX10_byRow_18 : decode cX10_byRow 18 = .ok (.iload_n 3, 1) := by decide +kernel
theorem dX10_byRow_19 : decode cX10_byRow 19 = .ok (.iconst 0, 1) := by decide +kernel
theorem dX10_byRow_20 : decode cX10_byRow 20 = .ok (.iconst 1, 1) := by decide +kernel
theorem dX10_byRow_21 : decode cX10_byRow 21 = .ok (.invokestatic 85, 3) := by decide +kernel
theorem dX10_byRow_24 : decode cX10_byRow 24 = .ok (.ifCond .ne 8, 3) := by decide +kernel
theorem dX10_byRow_27 : decode cX10_byRow 27 = .ok (.aload_n 0, 1) := by decide +kernel
theorem dX10_byRow_28 : decode cX10_byRow 28 = .ok (.invokevirtual 89, 3) := by decide +kernel
theorem dX10_byRow_31 : decode cX10_byRow 31 = .ok (.ireturn, 1) := by decide +kernel
theorem dX10_byRow_32 : decode cX10_byRow 32 = .ok (.aload_n 0, 1) := by decide +kernel
theorem dX10_byRow_33 : decode cX10_byRow 33 = .ok (.getfield 54, 3) := by decide +kernel
theorem dX10_byRow_36 : decode cX10_byRow 36 = .ok (.iload_n 1, 1) := by decide +kernel
theorem dX10_byRow_37 : decode cX10_byRow 37 = .ok (.invokevirtual 174, 3) := by decide +kernel
theorem dX10_byRow_40 : decode cX10_byRow 40 = .ok (.ifCond .ne 5, 3) := by decide +kernel
theorem dX10_byRow_43 : decode cX10_byRow 43 = .ok (.iconst (-1), 1) := by decide +kernel
theorem dX10_byRow_44 : decode cX10_byRow 44 = .ok (.ireturn, 1) := by decide +kernel
theorem dX10_byRow_45 : decode cX10_byRow 45 = .ok (.aload_n 0, 1) := by decide +kernel
theorem dX10_byRow_46 : decode cX10_byRow 46 = .ok (.getfield 54, 3) := by decide +kernel
theorem dX10_byRow_49 : decode cX10_byRow 49 = .ok (.iload_n 1, 1) := by decide +kernel
theorem dX10_byRow_50 : decode cX10_byRow 50 = .ok (.iload_n 2, 1) := by decide +kernel
theorem dX10_byRow_51 : decode cX10_byRow 51 = .ok (.aload_n 0, 1) := by decide +kernel
theorem dX10_byRow_52 : decode cX10_byRow 52 = .ok (.getfield 34, 3) := by decide +kernel
theorem dX10_byRow_55 : decode cX10_byRow 55 = .ok (.getfield 142, 3) := by decide +kernel
theorem dX10_byRow_58 : decode cX10_byRow 58 = .ok (.invokevirtual 177, 3) := by decide +kernel
theorem dX10_byRow_61 : decode cX10_byRow 61 = .ok (.iload_n 3, 1) := by decide +kernel
theorem dX10_byRow_62 : decode cX10_byRow 62 = .ok (.ifCond .ne 13, 3) := by decide +kernel
theorem dX10_byRow_65 : decode cX10_byRow 65 = .ok (.aload_n 0, 1) := by decide +kernel
theorem dX10_byRow_66 : decode cX10_byRow 66 = .ok (.getfield 54, 3) := by decide +kernel
theorem dX10_byRow_69 : decode cX10_byRow 69 = .ok (.getfield 180, 3) := by decide +kernel
theorem dX10_byRow_72 : decode cX10_byRow 72 = .ok (.goto 10, 3) := by decide +kernel
theorem dX10_byRow_75 : decode cX10_byRow 75 = .ok (.aload_n 0, 1) := by decide +kernel
theorem dX10_byRow_76 : decode cX10_byRow 76 = .ok (.getfield 54, 3) := by decide +kernel
theorem dX10_byRow_79 : decode cX10_byRow 79 = .ok (.getfield 183, 3) := by decide +kernel
theorem dX10_byRow_82 : decode cX10_byRow 82 = .ok (.ireturn, 1) := by decide +kernel
theorem dX10_soonest_0 : decode cX10_soonest 0 = .ok (.aload_n 0, 1) := by decide +kernel
theorem dX10_soonest_1 : decode cX10_soonest 1 = .ok (.iload_n 1, 1) := by decide +kernel
theorem dX10_soonest_2 : decode cX10_soonest 2 = .ok (.invokevirtual 110, 3) := by decide +kernel
theorem dX10_soonest_5 : decode cX10_soonest 5 = .ok (.ifCond .eq 28, 3) := by decide +kernel
theorem dX10_soonest_8 : decode cX10_soonest 8 = .ok (.aload_n 0, 1) := by decide +kernel
theorem dX10_soonest_9 : decode cX10_soonest 9 = .ok (.iload_n 2, 1) := by decide +kernel
theorem dX10_soonest_10 : decode cX10_soonest 10 = .ok (.invokevirtual 110, 3) := by decide +kernel
theorem dX10_soonest_13 : decode cX10_soonest 13 = .ok (.ifCond .eq 20, 3) := by decide +kernel
theorem dX10_soonest_16 : decode cX10_soonest 16 = .ok (.iload_n 3, 1) := by decide +kernel
theorem dX10_soonest_17 : decode cX10_soonest 17 = .ok (.invokestatic 160, 3) := by decide +kernel
theorem dX10_soonest_20 : decode cX10_soonest 20 = .ok (.ifCond .eq 13, 3) := by decide +kernel
theorem dX10_soonest_23 : decode cX10_soonest 23 = .ok (.iload 4, 2) := by decide +kernel
theorem dX10_soonest_25 : decode cX10_soonest 25 = .ok (.iconst 0, 1) := by decide +kernel
theorem dX10_soonest_26 : decode cX10_soonest 26 = .ok (.iconst 2, 1) := by decide +kernel
theorem dX10_soonest_27 : decode cX10_soonest 27 = .ok (.invokestatic 85, 3) := by decide +kernel
theorem dX10_soonest_30 : decode cX10_soonest 30 = .ok (.ifCond .ne 8, 3) := by decide +kernel
theorem dX10_soonest_33 : decode cX10_soonest 33 = .ok (.aload_n 0, 1) := by decide +kernel
theorem dX10_soonest_34 : decode cX10_soonest 34 = .ok (.invokevirtual 89, 3) := by decide +kernel
theorem dX10_soonest_37 : decode cX10_soonest 37 = .ok (.ireturn, 1) := by decide +kernel
theorem dX10_soonest_38 : decode cX10_soonest 38 = .ok (.aload_n 0, 1) := by decide +kernel
theorem dX10_soonest_39 : decode cX10_soonest 39 = .ok (.getfield 54, 3) := by decide +kernel
theorem dX10_soonest_42 : decode cX10_soonest 42 = .ok (.iload_n 1, 1) := by decide +kernel
theorem dX10_soonest_43 : decode cX10_soonest 43 = .ok (.iload_n 2, 1) := by decide +kernel
theorem dX10_soonest_44 : decode cX10_soonest 44 = .ok (.iload_n 3, 1) := by decide +kernel
theorem dX10_soonest_45 : decode cX10_soonest 45 = .ok (.iconst (-1), 1) := by decide +kernel
theorem dX10_soonest_46 : decode cX10_soonest 46 = .ok (.invokevirtual 186, 3) := by decide +kernel
theorem dX10_soonest_49 : decode cX10_soonest 49 = .ok (.ifCond .ne 5, 3) := by decide +kernel
theorem dX10_soonest_52 : decode cX10_soonest 52 = .ok (.iconst (-1), 1) := by decide +kernel
theorem dX10_soonest_53 : decode cX10_soonest 53 = .ok (.ireturn, 1) := by decide +kernel
theorem dX10_soonest_54 : decode cX10_soonest 54 = .ok (.iload 4, 2) := by decide +kernel
theorem dX10_soonest_56 : decode cX10_soonest 56 = .ok (.ifCond .ne 11, 3) := by decide +kernel
theorem dX10_soonest_59 : decode cX10_soonest 59 = .ok (.aload_n 0, 1) := by decide +kernel
theorem dX10_soonest_60 : decode cX10_soonest 60 = .ok (.getfield 54, 3) := by decide +kernel
theorem dX10_soonest_63 : decode cX10_soonest 63 = .ok (.getfield 190, 3) := by decide +kernel
theorem dX10_soonest_66 : decode cX10_soonest 66 = .ok (.ireturn, 1) := by decide +kernel
theorem dX10_soonest_67 : decode cX10_soonest 67 = .ok (.iload 4, 2) := by decide +kernel
theorem dX10_soonest_69 : decode cX10_soonest 69 = .ok (.iconst 1, 1) := by decide +kernel
theorem dX10_soonest_70 : decode cX10_soonest 70 = .ok (.if_icmp .ne 13, 3) := by decide +kernel
theorem dX10_soonest_73 : decode cX10_soonest 73 = .ok (.aload_n 0, 1) := by decide +kernel
theorem dX10_soonest_74 : decode cX10_soonest 74 = .ok (.getfield 54, 3) := by decide +kernel
theorem dX10_soonest_77 : decode cX10_soonest 77 = .ok (.getfield 183, 3) := by decide +kernel
theorem dX10_soonest_80 : decode cX10_soonest 80 = .ok (.goto 10, 3) := by decide +kernel
theorem dX10_soonest_83 : decode cX10_soonest 83 = .ok (.aload_n 0, 1) := by decide +kernel
theorem dX10_soonest_84 : decode cX10_soonest 84 = .ok (.getfield 54, 3) := by decide +kernel
theorem dX10_soonest_87 : decode cX10_soonest 87 = .ok (.getfield 180, 3) := by decide +kernel
theorem dX10_soonest_90 : decode cX10_soonest 90 = .ok (.ireturn, 1) := by decide +kernel
theorem dX10_whole_0 : decode cX10_whole 0 = .ok (.aload_n 0, 1) := by decide +kernel
theorem dX10_whole_1 : decode cX10_whole 1 = .ok (.iload_n 1, 1) := by decide +kernel
theorem dX10_whole_2 : decode cX10_whole 2 = .ok (.invokevirtual 110, 3) := by decide +kernel
theorem dX10_whole_5 : decode cX10_whole 5 = .ok (.ifCond .eq 28, 3) := by decide +kernel
theorem dX10_whole_8 : decode cX10_whole 8 = .ok (.aload_n 0, 1) := by decide +kernel
theorem dX10_whole_9 : decode cX10_whole 9 = .ok (.iload_n 2, 1) := by decide +kernel
theorem dX10_whole_10 : decode cX10_whole 10 = .ok (.invokevirtual 110, 3) := by decide +kernel
theorem dX10_whole_13 : decode cX10_whole 13 = .ok (.ifCond .eq 20, 3) := by decide +kernel
theorem dX10_whole_16 : decode cX10_whole 16 = .ok (.iload_n 3, 1) := by decide +kernel
theorem dX10_whole_17 : decode cX10_whole 17 = .ok (.invokestatic 160, 3) := by decide +kernel
theorem dX10_whole_20 : decode cX10_whole 20 = .ok (.ifCond .eq 13, 3) := by decide +kernel
theorem dX10_whole_23 : decode cX10_whole 23 = .ok (.iload 4, 2) := by decide +kernel
theorem dX10_whole_25 : decode cX10_whole 25 = .ok (.iconst 0, 1) := by decide +kernel
theorem dX10_whole_26 : decode cX10_whole 26 = .ok (.iconst 1, 1) := by decide +kernel
theorem dX10_whole_27 : decode cX10_whole 27 = .ok (.invokestatic 85, 3) := by decide +kernel
theorem dX10_whole_30 : decode cX10_whole 30 = .ok (.ifCond .ne 8, 3) := by decide +kernel
theorem dX10_whole_33 : decode cX10_whole 33 = .ok (.aload_n 0, 1) := by decide +kernel
theorem dX10_whole_34 : decode cX10_whole 34 = .ok (.invokevirtual 89, 3) := by decide +kernel
theorem dX10_whole_37 : decode cX10_whole 37 = .ok (.ireturn, 1) := by decide +kernel
theorem dX10_whole_38 : decode cX10_whole 38 = .ok (.aload_n 0, 1) := by decide +kernel
theorem dX10_whole_39 : decode cX10_whole 39 = .ok (.getfield 54, 3) := by decide +kernel
theorem dX10_whole_42 : decode cX10_whole 42 = .ok (.iload_n 1, 1) := by decide +kernel
theorem dX10_whole_43 : decode cX10_whole 43 = .ok (.iload_n 2, 1) := by decide +kernel
theorem dX10_whole_44 : decode cX10_whole 44 = .ok (.iload_n 3, 1) := by decide +kernel
theorem dX10_whole_45 : decode cX10_whole 45 = .ok (.iload_n 3, 1) := by decide +kernel
theorem dX10_whole_46 : decode cX10_whole 46 = .ok (.invokevirtual 186, 3) := by decide +kernel
theorem dX10_whole_49 : decode cX10_whole 49 = .ok (.ifCond .ne 5, 3) := by decide +kernel
theorem dX10_whole_52 : decode cX10_whole 52 = .ok (.iconst (-1), 1) := by decide +kernel
theorem dX10_whole_53 : decode cX10_whole 53 = .ok (.ireturn, 1) := by decide +kernel
theorem dX10_whole_54 : decode cX10_whole 54 = .ok (.iload 4, 2) := by decide +kernel
theorem dX10_whole_56 : decode cX10_whole 56 = .ok (.ifCond .ne 13, 3) := by decide +kernel
theorem dX10_whole_59 : decode cX10_whole 59 = .ok (.aload_n 0, 1) := by decide +kernel
theorem dX10_whole_60 : decode cX10_whole 60 = .ok (.getfield 54, 3) := by decide +kernel
theorem dX10_whole_63 : decode cX10_whole 63 = .ok (.getfield 190, 3) := by decide +kernel
theorem dX10_whole_66 : decode cX10_whole 66 = .ok (.goto 10, 3) := by decide +kernel
theorem dX10_whole_69 : decode cX10_whole 69 = .ok (.aload_n 0, 1) := by decide +kernel
theorem dX10_whole_70 : decode cX10_whole 70 = .ok (.getfield 54, 3) := by decide +kernel
theorem dX10_whole_73 : decode cX10_whole 73 = .ok (.getfield 183, 3) := by decide +kernel
theorem dX10_whole_76 : decode cX10_whole 76 = .ok (.ireturn, 1) := by decide +kernel
theorem dX10_ways_0 : decode cX10_ways 0 = .ok (.aload_n 0, 1) := by decide +kernel
theorem dX10_ways_1 : decode cX10_ways 1 = .ok (.iload_n 1, 1) := by decide +kernel
theorem dX10_ways_2 : decode cX10_ways 2 = .ok (.invokevirtual 110, 3) := by decide +kernel
theorem dX10_ways_5 : decode cX10_ways 5 = .ok (.ifCond .eq 11, 3) := by decide +kernel
theorem dX10_ways_8 : decode cX10_ways 8 = .ok (.aload_n 0, 1) := by decide +kernel
theorem dX10_ways_9 : decode cX10_ways 9 = .ok (.iload_n 2, 1) := by decide +kernel
theorem dX10_ways_10 : decode cX10_ways 10 = .ok (.invokevirtual 110, 3) := by decide +kernel
theorem dX10_ways_13 : decode cX10_ways 13 = .ok (.ifCond .ne 8, 3) := by decide +kernel
theorem dX10_ways_16 : decode cX10_ways 16 = .ok (.aload_n 0, 1) := by decide +kernel
theorem dX10_ways_17 : decode cX10_ways 17 = .ok (.invokevirtual 89, 3) := by decide +kernel
theorem dX10_ways_20 : decode cX10_ways 20 = .ok (.ireturn, 1) := by decide +kernel
theorem dX10_ways_21 : decode cX10_ways 21 = .ok (.aload_n 0, 1) := by decide +kernel
theorem dX10_ways_22 : decode cX10_ways 22 = .ok (.getfield 54, 3) := by decide +kernel
theorem dX10_ways_25 : decode cX10_ways 25 = .ok (.iload_n 1, 1) := by decide +kernel
theorem dX10_ways_26 : decode cX10_ways 26 = .ok (.iload_n 2, 1) := by decide +kernel
theorem dX10_ways_27 : decode cX10_ways 27 = .ok (.invokevirtual 193, 3) := by decide +kernel
theorem dX10_ways_30 : decode cX10_ways 30 = .ok (.ireturn, 1) := by decide +kernel
theorem dX10_put_0 : decode cX10_put 0 = .ok (.aload_n 0, 1) := by decide +kernel
theorem dX10_put_1 : decode cX10_put 1 = .ok (.iload_n 1, 1) := by decide +kernel
theorem dX10_put_2 : decode cX10_put 2 = .ok (.invokevirtual 110, 3) := by decide +kernel
theorem dX10_put_5 : decode cX10_put 5 = .ok (.ifCond .eq 28, 3) := by decide +kernel
theorem dX10_put_8 : decode cX10_put 8 = .ok (.aload_n 0, 1) := by decide +kernel
theorem dX10_put_9 : decode cX10_put 9 = .ok (.iload_n 2, 1) := by decide +kernel
theorem dX10_put_10 : decode cX10_put 10 = .ok (.invokevirtual 110, 3) := by decide +kernel
theorem dX10_put_13 : decode cX10_put 13 = .ok (.ifCond .eq 20, 3) := by decide +kernel
theorem dX10_put_16 : decode cX10_put 16 = .ok (.iload_n 3, 1) := by decide +kernel
theorem dX10_put_17 : decode cX10_put 17 = .ok (.invokestatic 160, 3) := by decide +kernel
theorem dX10_put_20 : decode cX10_put 20 = .ok (.ifCond .eq 13, 3) := by decide +kernel
theorem dX10_put_23 : decode cX10_put 23 = .ok (.iload 4, 2) := by decide +kernel
theorem dX10_put_25 : decode cX10_put 25 = .ok (.iconst 0, 1) := by decide +kernel
theorem dX10_put_26 : decode cX10_put 26 = .ok (.iconst 1, 1) := by decide +kernel
theorem dX10_put_27 : decode cX10_put 27 = .ok (.invokestatic 85, 3) := by decide +kernel
theorem dX10_put_30 : decode cX10_put 30 = .ok (.ifCond .ne 8, 3) := by decide +kernel
theorem dX10_put_33 : decode cX10_put 33 = .ok (.aload_n 0, 1) := by decide +kernel
theorem dX10_put_34 : decode cX10_put 34 = .ok (.invokevirtual 89, 3) := by decide +kernel
theorem dX10_put_37 : decode cX10_put 37 = .ok (.ireturn, 1) := by decide +kernel
theorem dX10_put_38 : decode cX10_put 38 = .ok (.aload_n 0, 1) := by decide +kernel
theorem dX10_put_39 : decode cX10_put 39 = .ok (.getfield 54, 3) := by decide +kernel
theorem dX10_put_42 : decode cX10_put 42 = .ok (.iload_n 1, 1) := by decide +kernel
theorem dX10_put_43 : decode cX10_put 43 = .ok (.iload_n 2, 1) := by decide +kernel
theorem dX10_put_44 : decode cX10_put 44 = .ok (.iconst 0, 1) := by decide +kernel
theorem dX10_put_45 : decode cX10_put 45 = .ok (.iconst (-1), 1) := by decide +kernel
theorem dX10_put_46 : decode cX10_put 46 = .ok (.invokevirtual 186, 3) := by decide +kernel
theorem dX10_put_49 : decode cX10_put 49 = .ok (.ifCond .ne 5, 3) := by decide +kernel
theorem dX10_put_52 : decode cX10_put 52 = .ok (.iconst (-1), 1) := by decide +kernel
theorem dX10_put_53 : decode cX10_put 53 = .ok (.ireturn, 1) := by decide +kernel
theorem dX10_put_54 : decode cX10_put 54 = .ok (.aload_n 0, 1) := by decide +kernel
theorem dX10_put_55 : decode cX10_put 55 = .ok (.getfield 54, 3) := by decide +kernel
theorem dX10_put_58 : decode cX10_put 58 = .ok (.getfield 190, 3) := by decide +kernel
theorem dX10_put_61 : decode cX10_put 61 = .ok (.istore 5, 2) := by decide +kernel
theorem dX10_put_63 : decode cX10_put 63 = .ok (.iconst 0, 1) := by decide +kernel
theorem dX10_put_64 : decode cX10_put 64 = .ok (.istore 6, 2) := by decide +kernel
theorem dX10_put_66 : decode cX10_put 66 = .ok (.iconst (-1), 1) := by decide +kernel
theorem dX10_put_67 : decode cX10_put 67 = .ok (.istore 7, 2) := by decide +kernel
theorem dX10_put_69 : decode cX10_put 69 = .ok (.iconst 0, 1) := by decide +kernel
theorem dX10_put_70 : decode cX10_put 70 = .ok (.istore 8, 2) := by decide +kernel
theorem dX10_put_72 : decode cX10_put 72 = .ok (.iload 8, 2) := by decide +kernel
theorem dX10_put_74 : decode cX10_put 74 = .ok (.bipush 85, 2) := by decide +kernel
theorem dX10_put_76 : decode cX10_put 76 = .ok (.if_icmp .ge 62, 3) := by decide +kernel
theorem dX10_put_79 : decode cX10_put 79 = .ok (.iload 8, 2) := by decide +kernel
theorem dX10_put_81 : decode cX10_put 81 = .ok (.invokestatic 196, 3) := by decide +kernel
theorem dX10_put_84 : decode cX10_put 84 = .ok (.istore 9, 2) := by decide +kernel
theorem dX10_put_86 : decode cX10_put 86 = .ok (.aload_n 0, 1) := by decide +kernel
theorem dX10_put_87 : decode cX10_put 87 = .ok (.getfield 54, 3) := by decide +kernel
theorem dX10_put_90 : decode cX10_put 90 = .ok (.iload 5, 2) := by decide +kernel
theorem dX10_put_92 : decode cX10_put 92 = .ok (.iload 9, 2) := by decide +kernel
theorem dX10_put_94 : decode cX10_put 94 = .ok (.aload_n 0, 1) := by decide +kernel
theorem dX10_put_95 : decode cX10_put 95 = .ok (.getfield 34, 3) := by decide +kernel
theorem dX10_put_98 : decode cX10_put 98 = .ok (.getfield 142, 3) := by decide +kernel
theorem dX10_put_101 : decode cX10_put 101 = .ok (.invokevirtual 177, 3) := by decide +kernel
theorem dX10_put_104 : decode cX10_put 104 = .ok (.aload_n 0, 1) := by decide +kernel
theorem dX10_put_105 : decode cX10_put 105 = .ok (.getfield 54, 3) := by decide +kernel
theorem dX10_put_108 : decode cX10_put 108 = .ok (.getfield 180, 3) := by decide +kernel
theorem dX10_put_111 : decode cX10_put 111 = .ok (.iload_n 3, 1) := by decide +kernel
theorem dX10_put_112 : decode cX10_put 112 = .ok (.if_icmp .ne 20, 3) := by decide +kernel
theorem dX10_put_115 : decode cX10_put 115 = .ok (.iload 6, 2) := by decide +kernel
theorem dX10_put_117 : decode cX10_put 117 = .ok (.ifCond .ne 8, 3) := by decide +kernel
theorem dX10_put_120 : decode cX10_put 120 = .ok (.iload 9, 2) := by decide +kernel
theorem dX10_put_122 : decode cX10_put 122 = .ok (.goto 5, 3) := by decide +kernel
theorem dX10_put_125 : decode cX10_put 125 = .ok (.iload 7, 2) := by decide +kernel
theorem dX10_put_127 : decode cX10_put 127 = .ok (.istore 7, 2) := by decide +kernel
theorem dX10_put_129 : decode cX10_put 129 = .ok (.iinc 6 1, 3) := by decide +kernel
theorem dX10_put_132 : decode cX10_put 132 = .ok (.iinc 8 1, 3) := by decide +kernel
theorem dX10_put_135 : decode cX10_put 135 = .ok (.goto (-63), 3) := by decide +kernel
theorem dX10_put_138 : decode cX10_put 138 = .ok (.iload 4, 2) := by decide +kernel
theorem dX10_put_140 : decode cX10_put 140 = .ok (.ifCond .ne 8, 3) := by decide +kernel
theorem dX10_put_143 : decode cX10_put 143 = .ok (.iload 6, 2) := by decide +kernel
theorem dX10_put_145 : decode cX10_put 145 = .ok (.goto 5, 3) := by decide +kernel
theorem dX10_put_148 : decode cX10_put 148 = .ok (.iload 7, 2) := by decide +kernel
theorem dX10_put_150 : decode cX10_put 150 = .ok (.ireturn, 1) := by decide +kernel
theorem dX10_meet_0 : decode cX10_meet 0 = .ok (.iload_n 1, 1) := by decide +kernel
theorem dX10_meet_1 : decode cX10_meet 1 = .ok (.invokestatic 160, 3) := by decide +kernel
theorem dX10_meet_4 : decode cX10_meet 4 = .ok (.ifCond .eq 10, 3) := by decide +kernel
theorem dX10_meet_7 : decode cX10_meet 7 = .ok (.iload_n 2, 1) := by decide +kernel
theorem dX10_meet_8 : decode cX10_meet 8 = .ok (.invokestatic 160, 3) := by decide +kernel
theorem dX10_meet_11 : decode cX10_meet 11 = .ok (.ifCond .ne 8, 3) := by decide +kernel
theorem dX10_meet_14 : decode cX10_meet 14 = .ok (.aload_n 0, 1) := by decide +kernel
theorem dX10_meet_15 : decode cX10_meet 15 = .ok (.invokevirtual 89, 3) := by decide +kernel
theorem dX10_meet_18 : decode cX10_meet 18 = .ok (.ireturn, 1) := by decide +kernel
theorem dX10_meet_19 : decode cX10_meet 19 = .ok (.iload_n 1, 1) := by decide +kernel
theorem dX10_meet_20 : decode cX10_meet 20 = .ok (.iload_n 2, 1) := by decide +kernel
theorem dX10_meet_21 : decode cX10_meet 21 = .ok (.invokestatic 199, 3) := by decide +kernel
theorem dX10_meet_24 : decode cX10_meet 24 = .ok (.ireturn, 1) := by decide +kernel
theorem dX10_apart_0 : decode cX10_apart 0 = .ok (.aload_n 0, 1) := by decide +kernel
theorem dX10_apart_1 : decode cX10_apart 1 = .ok (.iload_n 1, 1) := by decide +kernel
theorem dX10_apart_2 : decode cX10_apart 2 = .ok (.invokevirtual 110, 3) := by decide +kernel
theorem dX10_apart_5 : decode cX10_apart 5 = .ok (.ifCond .eq 11, 3) := by decide +kernel
theorem dX10_apart_8 : decode cX10_apart 8 = .ok (.aload_n 0, 1) := by decide +kernel
theorem dX10_apart_9 : decode cX10_apart 9 = .ok (.iload_n 2, 1) := by decide +kernel
theorem dX10_apart_10 : decode cX10_apart 10 = .ok (.invokevirtual 110, 3) := by decide +kernel
theorem dX10_apart_13 : decode cX10_apart 13 = .ok (.ifCond .ne 8, 3) := by decide +kernel
theorem dX10_apart_16 : decode cX10_apart 16 = .ok (.aload_n 0, 1) := by decide +kernel
theorem dX10_apart_17 : decode cX10_apart 17 = .ok (.invokevirtual 89, 3) := by decide +kernel
theorem dX10_apart_20 : decode cX10_apart 20 = .ok (.ireturn, 1) := by decide +kernel
theorem dX10_apart_21 : decode cX10_apart 21 = .ok (.aload_n 0, 1) := by decide +kernel
theorem dX10_apart_22 : decode cX10_apart 22 = .ok (.getfield 54, 3) := by decide +kernel
theorem dX10_apart_25 : decode cX10_apart 25 = .ok (.iload_n 1, 1) := by decide +kernel
theorem dX10_apart_26 : decode cX10_apart 26 = .ok (.iload_n 2, 1) := by decide +kernel
theorem dX10_apart_27 : decode cX10_apart 27 = .ok (.invokevirtual 202, 3) := by decide +kernel
theorem dX10_apart_30 : decode cX10_apart 30 = .ok (.ireturn, 1) := by decide +kernel
theorem dX10_most_0 : decode cX10_most 0 = .ok (.aload_n 0, 1) := by decide +kernel
theorem dX10_most_1 : decode cX10_most 1 = .ok (.getfield 54, 3) := by decide +kernel
theorem dX10_most_4 : decode cX10_most 4 = .ok (.invokevirtual 205, 3) := by decide +kernel
theorem dX10_most_7 : decode cX10_most 7 = .ok (.ireturn, 1) := by decide +kernel
theorem dX10_note_0 : decode cX10_note 0 = .ok (.aload_n 0, 1) := by decide +kernel
theorem dX10_note_1 : decode cX10_note 1 = .ok (.iload_n 1, 1) := by decide +kernel
theorem dX10_note_2 : decode cX10_note 2 = .ok (.invokevirtual 110, 3) := by decide +kernel
theorem dX10_note_5 : decode cX10_note 5 = .ok (.ifCond .eq 39, 3) := by decide +kernel
theorem dX10_note_8 : decode cX10_note 8 = .ok (.iload_n 2, 1) := by decide +kernel
theorem dX10_note_9 : decode cX10_note 9 = .ok (.invokestatic 160, 3) := by decide +kernel
theorem dX10_note_12 : decode cX10_note 12 = .ok (.ifCond .eq 32, 3) := by decide +kernel
theorem dX10_note_15 : decode cX10_note 15 = .ok (.iload_n 3, 1) := by decide +kernel
theorem dX10_note_16 : decode cX10_note 16 = .ok (.iconst 0, 1) := by decide +kernel
theorem dX10_note_17 : decode cX10_note 17 = .ok (.bipush 99, 2) := by decide +kernel
theorem dX10_note_19 : decode cX10_note 19 = .ok (.invokestatic 85, 3) := by decide +kernel
theorem dX10_note_22 : decode cX10_note 22 = .ok (.ifCond .eq 22, 3) := by decide +kernel
theorem dX10_note_25 : decode cX10_note 25 = .ok (.iload 4, 2) := by decide +kernel
theorem dX10_note_27 : decode cX10_note 27 = .ok (.invokestatic 160, 3) := by decide +kernel
theorem dX10_note_30 : decode cX10_note 30 = .ok (.ifCond .eq 14, 3) := by decide +kernel
theorem dX10_note_33 : decode cX10_note 33 = .ok (.iload 5, 2) := by decide +kernel
theorem dX10_note_35 : decode cX10_note 35 = .ok (.iconst 0, 1) := by decide +kernel
theorem dX10_note_36 : decode cX10_note 36 = .ok (.bipush 20, 2) := by decide +kernel
theorem dX10_note_38 : decode cX10_note 38 = .ok (.invokestatic 85, 3) := by decide +kernel
theorem dX10_note_41 : decode cX10_note 41 = .ok (.ifCond .ne 8, 3) := by decide +kernel
theorem dX10_note_44 : decode cX10_note 44 = .ok (.aload_n 0, 1) := by decide +kernel
theorem dX10_note_45 : decode cX10_note 45 = .ok (.invokevirtual 89, 3) := by decide +kernel
theorem dX10_note_48 : decode cX10_note 48 = .ok (.ireturn, 1) := by decide +kernel
theorem dX10_note_49 : decode cX10_note 49 = .ok (.aload_n 0, 1) := by decide +kernel
theorem dX10_note_50 : decode cX10_note 50 = .ok (.getfield 34, 3) := by decide +kernel
theorem dX10_note_53 : decode cX10_note 53 = .ok (.getfield 208, 3) := by decide +kernel
theorem dX10_note_56 : decode cX10_note 56 = .ok (.bipush 6, 2) := by decide +kernel
theorem dX10_note_58 : decode cX10_note 58 = .ok (.if_icmp .lt 8, 3) := by decide +kernel
theorem dX10_note_61 : decode cX10_note 61 = .ok (.aload_n 0, 1) := by decide +kernel
theorem dX10_note_62 : decode cX10_note 62 = .ok (.invokevirtual 101, 3) := by decide +kernel
theorem dX10_note_65 : decode cX10_note 65 = .ok (.ireturn, 1) := by decide +kernel
theorem dX10_note_66 : decode cX10_note 66 = .ok (.aload_n 0, 1) := by decide +kernel
theorem dX10_note_67 : decode cX10_note 67 = .ok (.getfield 34, 3) := by decide +kernel
theorem dX10_note_70 : decode cX10_note 70 = .ok (.iload_n 1, 1) := by decide +kernel
theorem dX10_note_71 : decode cX10_note 71 = .ok (.iload_n 2, 1) := by decide +kernel
theorem dX10_note_72 : decode cX10_note 72 = .ok (.iload_n 3, 1) := by decide +kernel
theorem dX10_note_73 : decode cX10_note 73 = .ok (.iload 4, 2) := by decide +kernel
theorem dX10_note_75 : decode cX10_note 75 = .ok (.iload 5, 2) := by decide +kernel
theorem dX10_note_77 : decode cX10_note 77 = .ok (.invokevirtual 211, 3) := by decide +kernel
theorem dX10_note_80 : decode cX10_note 80 = .ok (.aload_n 0, 1) := by decide +kernel
theorem dX10_note_81 : decode cX10_note 81 = .ok (.getfield 34, 3) := by decide +kernel
theorem dX10_note_84 : decode cX10_note 84 = .ok (.getfield 208, 3) := by decide +kernel
theorem dX10_note_87 : decode cX10_note 87 = .ok (.ireturn, 1) := by decide +kernel
theorem dX10_came_0 : decode cX10_came 0 = .ok (.aload_n 0, 1) := by decide +kernel
theorem dX10_came_1 : decode cX10_came 1 = .ok (.getfield 54, 3) := by decide +kernel
theorem dX10_came_4 : decode cX10_came 4 = .ok (.iload_n 1, 1) := by decide +kernel
theorem dX10_came_5 : decode cX10_came 5 = .ok (.invokevirtual 171, 3) := by decide +kernel
theorem dX10_came_8 : decode cX10_came 8 = .ok (.ifCond .eq 20, 3) := by decide +kernel
theorem dX10_came_11 : decode cX10_came 11 = .ok (.iload_n 2, 1) := by decide +kernel
theorem dX10_came_12 : decode cX10_came 12 = .ok (.iconst 0, 1) := by decide +kernel
theorem dX10_came_13 : decode cX10_came 13 = .ok (.bipush 99, 2) := by decide +kernel
theorem dX10_came_15 : decode cX10_came 15 = .ok (.invokestatic 85, 3) := by decide +kernel
theorem dX10_came_18 : decode cX10_came 18 = .ok (.ifCond .eq 10, 3) := by decide +kernel
theorem dX10_came_21 : decode cX10_came 21 = .ok (.iload_n 3, 1) := by decide +kernel
theorem dX10_came_22 : decode cX10_came 22 = .ok (.invokestatic 160, 3) := by decide +kernel
theorem dX10_came_25 : decode cX10_came 25 = .ok (.ifCond .ne 8, 3) := by decide +kernel
theorem dX10_came_28 : decode cX10_came 28 = .ok (.aload_n 0, 1) := by decide +kernel
theorem dX10_came_29 : decode cX10_came 29 = .ok (.invokevirtual 89, 3) := by decide +kernel
theorem dX10_came_32 : decode cX10_came 32 = .ok (.ireturn, 1) := by decide +kernel
theorem dX10_came_33 : decode cX10_came 33 = .ok (.aload_n 0, 1) := by decide +kernel
theorem dX10_came_34 : decode cX10_came 34 = .ok (.getfield 34, 3) := by decide +kernel
theorem dX10_came_37 : decode cX10_came 37 = .ok (.getfield 215, 3) := by decide +kernel
theorem dX10_came_40 : decode cX10_came 40 = .ok (.bipush 6, 2) := by decide +kernel
theorem dX10_came_42 : decode cX10_came 42 = .ok (.if_icmp .lt 8, 3) := by decide +kernel
theorem dX10_came_45 : decode cX10_came 45 = .ok (.aload_n 0, 1) := by decide +kernel
theorem dX10_came_46 : decode cX10_came 46 = .ok (.invokevirtual 101, 3) := by decide +kernel
theorem dX10_came_49 : decode cX10_came 49 = .ok (.ireturn, 1) := by decide +kernel
theorem dX10_came_50 : decode cX10_came 50 = .ok (.aload_n 0, 1) := by decide +kernel
theorem dX10_came_51 : decode cX10_came 51 = .ok (.getfield 34, 3) := by decide +kernel
theorem dX10_came_54 : decode cX10_came 54 = .ok (.iload_n 1, 1) := by decide +kernel
theorem dX10_came_55 : decode cX10_came 55 = .ok (.iload_n 2, 1) := by decide +kernel
theorem dX10_came_56 : decode cX10_came 56 = .ok (.iload_n 3, 1) := by decide +kernel
theorem dX10_came_57 : decode cX10_came 57 = .ok (.invokevirtual 218, 3) := by decide +kernel
theorem dX10_came_60 : decode cX10_came 60 = .ok (.aload_n 0, 1) := by decide +kernel
theorem dX10_came_61 : decode cX10_came 61 = .ok (.getfield 34, 3) := by decide +kernel
theorem dX10_came_64 : decode cX10_came 64 = .ok (.getfield 215, 3) := by decide +kernel
theorem dX10_came_67 : decode cX10_came 67 = .ok (.ireturn, 1) := by decide +kernel
theorem dX10_forget_0 : decode cX10_forget 0 = .ok (.iload_n 1, 1) := by decide +kernel
theorem dX10_forget_1 : decode cX10_forget 1 = .ok (.iconst 0, 1) := by decide +kernel
theorem dX10_forget_2 : decode cX10_forget 2 = .ok (.iconst 1, 1) := by decide +kernel
theorem dX10_forget_3 : decode cX10_forget 3 = .ok (.invokestatic 85, 3) := by decide +kernel
theorem dX10_forget_6 : decode cX10_forget 6 = .ok (.ifCond .ne 8, 3) := by decide +kernel
theorem dX10_forget_9 : decode cX10_forget 9 = .ok (.aload_n 0, 1) := by decide +kernel
theorem dX10_forget_10 : decode cX10_forget 10 = .ok (.invokevirtual 89, 3) := by decide +kernel
theorem dX10_forget_13 : decode cX10_forget 13 = .ok (.ireturn, 1) := by decide +kernel
theorem dX10_forget_14 : decode cX10_forget 14 = .ok (.iload_n 1, 1) := by decide +kernel
theorem dX10_forget_15 : decode cX10_forget 15 = .ok (.ifCond .ne 13, 3) := by decide +kernel
theorem dX10_forget_18 : decode cX10_forget 18 = .ok (.aload_n 0, 1) := by decide +kernel
theorem dX10_forget_19 : decode cX10_forget 19 = .ok (.getfield 34, 3) := by decide +kernel
theorem dX10_forget_22 : decode cX10_forget 22 = .ok (.getfield 208, 3) := by decide +kernel
theorem dX10_forget_25 : decode cX10_forget 25 = .ok (.goto 10, 3) := by decide +kernel
theorem dX10_forget_28 : decode cX10_forget 28 = .ok (.aload_n 0, 1) := by decide +kernel
theorem dX10_forget_29 : decode cX10_forget 29 = .ok (.getfield 34, 3) := by decide +kernel
theorem dX10_forget_32 : decode cX10_forget 32 = .ok (.getfield 215, 3) := by decide +kernel
theorem dX10_forget_35 : decode cX10_forget 35 = .ok (.istore_n 2, 1) := by decide +kernel
theorem dX10_forget_36 : decode cX10_forget 36 = .ok (.iload_n 1, 1) := by decide +kernel
theorem dX10_forget_37 : decode cX10_forget 37 = .ok (.ifCond .ne 14, 3) := by decide +kernel
theorem dX10_forget_40 : decode cX10_forget 40 = .ok (.aload_n 0, 1) := by decide +kernel
theorem dX10_forget_41 : decode cX10_forget 41 = .ok (.getfield 34, 3) := by decide +kernel
theorem dX10_forget_44 : decode cX10_forget 44 = .ok (.iconst 0, 1) := by decide +kernel
theorem dX10_forget_45 : decode cX10_forget 45 = .ok (.putfield 208, 3) := by decide +kernel
theorem dX10_forget_48 : decode cX10_forget 48 = .ok (.goto 11, 3) := by decide +kernel
theorem dX10_forget_51 : decode cX10_forget 51 = .ok (.aload_n 0, 1) := by decide +kernel
theorem dX10_forget_52 : decode cX10_forget 52 = .ok (.getfield 34, 3) := by decide +kernel
theorem dX10_forget_55 : decode cX10_forget 55 = .ok (.iconst 0, 1) := by decide +kernel
theorem dX10_forget_56 : decode cX10_forget 56 = .ok (.putfield 215, 3) := by decide +kernel
theorem dX10_forget_59 : decode cX10_forget 59 = .ok (.iload_n 2, 1) := by decide +kernel
theorem dX10_forget_60 : decode cX10_forget 60 = .ok (.ireturn, 1) := by decide +kernel
theorem dX10_is_0 : decode cX10_is 0 = .ok (.aload_n 0, 1) := by decide +kernel
theorem dX10_is_1 : decode cX10_is 1 = .ok (.iload_n 1, 1) := by decide +kernel
theorem dX10_is_2 : decode cX10_is 2 = .ok (.invokevirtual 110, 3) := by decide +kernel
theorem dX10_is_5 : decode cX10_is 5 = .ok (.ifCond .ne 8, 3) := by decide +kernel
theorem dX10_is_8 : decode cX10_is 8 = .ok (.aload_n 0, 1) := by decide +kernel
theorem dX10_is_9 : decode cX10_is 9 = .ok (.invokevirtual 89, 3) := by decide +kernel
theorem dX10_is_12 : decode cX10_is 12 = .ok (.ireturn, 1) := by decide +kernel
theorem dX10_is_13 : decode cX10_is 13 = .ok (.aload_n 0, 1) := by decide +kernel
theorem dX10_is_14 : decode cX10_is 14 = .ok (.iload_n 1, 1) := by decide +kernel
theorem dX10_is_15 : decode cX10_is 15 = .ok (.invokevirtual 221, 3) := by decide +kernel
theorem dX10_is_18 : decode cX10_is 18 = .ok (.ireturn, 1) := by decide +kernel
theorem dX10_next_0 : decode cX10_next 0 = .ok (.aload_n 0, 1) := by decide +kernel
theorem dX10_next_1 : decode cX10_next 1 = .ok (.iload_n 1, 1) := by decide +kernel
theorem dX10_next_2 : decode cX10_next 2 = .ok (.invokevirtual 110, 3) := by decide +kernel
theorem dX10_next_5 : decode cX10_next 5 = .ok (.ifCond .ne 8, 3) := by decide +kernel
theorem dX10_next_8 : decode cX10_next 8 = .ok (.aload_n 0, 1) := by decide +kernel
theorem dX10_next_9 : decode cX10_next 9 = .ok (.invokevirtual 89, 3) := by decide +kernel
theorem dX10_next_12 : decode cX10_next 12 = .ok (.ireturn, 1) := by decide +kernel
theorem dX10_next_13 : decode cX10_next 13 = .ok (.aload_n 0, 1) := by decide +kernel
theorem dX10_next_14 : decode cX10_next 14 = .ok (.iload_n 1, 1) := by decide +kernel
theorem dX10_next_15 : decode cX10_next 15 = .ok (.invokevirtual 221, 3) := by decide +kernel
theorem dX10_next_18 : decode cX10_next 18 = .ok (.istore_n 2, 1) := by decide +kernel
theorem dX10_next_19 : decode cX10_next 19 = .ok (.bipush 7, 2) := by decide +kernel
theorem dX10_next_21 : decode cX10_next 21 = .ok (.istore_n 3, 1) := by decide +kernel
theorem dX10_next_22 : decode cX10_next 22 = .ok (.iconst (-1), 1) := by decide +kernel
theorem dX10_next_23 : decode cX10_next 23 = .ok (.istore 4, 2) := by decide +kernel
theorem dX10_next_25 : decode cX10_next 25 = .ok (.iconst 1, 1) := by decide +kernel
theorem dX10_next_26 : decode cX10_next 26 = .ok (.istore 5, 2) := by decide +kernel
theorem dX10_next_28 : decode cX10_next 28 = .ok (.iload 5, 2) := by decide +kernel
theorem dX10_next_30 : decode cX10_next 30 = .ok (.bipush 85, 2) := by decide +kernel
theorem dX10_next_32 : decode cX10_next 32 = .ok (.if_icmp .ge 42, 3) := by decide +kernel
theorem dX10_next_35 : decode cX10_next 35 = .ok (.iload_n 2, 1) := by decide +kernel
theorem dX10_next_36 : decode cX10_next 36 = .ok (.ifCond .eq 38, 3) := by decide +kernel
theorem dX10_next_39 : decode cX10_next 39 = .ok (.iload 5, 2) := by decide +kernel
theorem dX10_next_41 : decode cX10_next 41 = .ok (.invokestatic 196, 3) := by decide +kernel
theorem dX10_next_44 : decode cX10_next 44 = .ok (.istore 6, 2) := by decide +kernel
theorem dX10_next_46 : decode cX10_next 46 = .ok (.aload_n 0, 1) := by decide +kernel
theorem dX10_next_47 : decode cX10_next 47 = .ok (.iload_n 2, 1) := by decide +kernel
theorem dX10_next_48 : decode cX10_next 48 = .ok (.iload 6, 2) := by decide +kernel
theorem dX10_next_50 : decode cX10_next 50 = .ok (.invokevirtual 224, 3) := by decide +kernel
theorem dX10_next_53 : decode cX10_next 53 = .ok (.istore 7, 2) := by decide +kernel
theorem dX10_next_55 : decode cX10_next 55 = .ok (.iload 7, 2) := by decide +kernel
theorem dX10_next_57 : decode cX10_next 57 = .ok (.iload_n 3, 1) := by decide +kernel
theorem dX10_next_58 : decode cX10_next 58 = .ok (.if_icmp .ge 10, 3) := by decide +kernel
theorem dX10_next_61 : decode cX10_next 61 = .ok (.iload 7, 2) := by decide +kernel
theorem dX10_next_63 : decode cX10_next 63 = .ok (.istore_n 3, 1) := by decide +kernel
theorem dX10_next_64 : decode cX10_next 64 = .ok (.iload 6, 2) := by decide +kernel
theorem dX10_next_66 : decode cX10_next 66 = .ok (.istore 4, 2) := by decide +kernel
theorem dX10_next_68 : decode cX10_next 68 = .ok (.iinc 5 1, 3) := by decide +kernel
theorem dX10_next_71 : decode cX10_next 71 = .ok (.goto (-43), 3) := by decide +kernel
theorem dX10_next_74 : decode cX10_next 74 = .ok (.iload 4, 2) := by decide +kernel
theorem dX10_next_76 : decode cX10_next 76 = .ok (.ireturn, 1) := by decide +kernel
theorem dX10_first_0 : decode cX10_first 0 = .ok (.iload_n 1, 1) := by decide +kernel
theorem dX10_first_1 : decode cX10_first 1 = .ok (.iconst 0, 1) := by decide +kernel
theorem dX10_first_2 : decode cX10_first 2 = .ok (.iconst 1, 1) := by decide +kernel
theorem dX10_first_3 : decode cX10_first 3 = .ok (.invokestatic 85, 3) := by decide +kernel
theorem dX10_first_6 : decode cX10_first 6 = .ok (.ifCond .ne 8, 3) := by decide +kernel
theorem dX10_first_9 : decode cX10_first 9 = .ok (.aload_n 0, 1) := by decide +kernel
theorem dX10_first_10 : decode cX10_first 10 = .ok (.invokevirtual 89, 3) := by decide +kernel
theorem dX10_first_13 : decode cX10_first 13 = .ok (.ireturn, 1) := by decide +kernel
theorem dX10_first_14 : decode cX10_first 14 = .ok (.iconst 0, 1) := by decide +kernel
theorem dX10_first_15 : decode cX10_first 15 = .ok (.istore_n 2, 1) := by decide +kernel
theorem dX10_first_16 : decode cX10_first 16 = .ok (.iconst (-1), 1) := by decide +kernel
theorem dX10_first_17 : decode cX10_first 17 = .ok (.istore_n 3, 1) := by decide +kernel
theorem dX10_first_18 : decode cX10_first 18 = .ok (.iconst 0, 1) := by decide +kernel
theorem dX10_first_19 : decode cX10_first 19 = .ok (.istore 4, 2) := by decide +kernel
theorem dX10_first_21 : decode cX10_first 21 = .ok (.iload 4, 2) := by decide +kernel
theorem dX10_first_23 : decode cX10_first 23 = .ok (.bipush 85, 2) := by decide +kernel
theorem dX10_first_25 : decode cX10_first 25 = .ok (.if_icmp .ge 39, 3) := by decide +kernel
theorem dX10_first_28 : decode cX10_first 28 = .ok (.iload 4, 2) := by decide +kernel
theorem dX10_first_30 : decode cX10_first 30 = .ok (.invokestatic 196, 3) := by decide +kernel
theorem dX10_first_33 : decode cX10_first 33 = .ok (.istore 5, 2) := by decide +kernel
theorem dX10_first_35 : decode cX10_first 35 = .ok (.aload_n 0, 1) := by decide +kernel
theorem dX10_first_36 : decode cX10_first 36 = .ok (.iload 5, 2) := by decide +kernel
theorem dX10_first_38 : decode cX10_first 38 = .ok (.invokevirtual 227, 3) := by decide +kernel
theorem dX10_first_41 : decode cX10_first 41 = .ok (.ifCond .eq 17, 3) := by decide +kernel
theorem dX10_first_44 : decode cX10_first 44 = .ok (.iload_n 2, 1) := by decide +kernel
theorem dX10_first_45 : decode cX10_first 45 = .ok (.ifCond .ne 8, 3) := by decide +kernel
theorem dX10_first_48 : decode cX10_first 48 = .ok (.iload 5, 2) := by decide +kernel
theorem dX10_first_50 : decode cX10_first 50 = .ok (.goto 4, 3) := by decide +kernel
theorem dX10_first_53 : decode cX10_first 53 = .ok (.iload_n 3, 1) := by decide +kernel
theorem dX10_first_54 : decode cX10_first 54 = .ok (.istore_n 3, 1) := by decide +kernel
theorem dX10_first_55 : decode cX10_first 55 = .ok (.iinc 2 1, 3) := by decide +kernel
theorem dX10_first_58 : decode cX10_first 58 = .ok (.iinc 4 1, 3) := by decide +kernel
theorem dX10_first_61 : decode cX10_first 61 = .ok (.goto (-40), 3) := by decide +kernel
theorem dX10_first_64 : decode cX10_first 64 = .ok (.iload_n 1, 1) := by decide +kernel
theorem dX10_first_65 : decode cX10_first 65 = .ok (.ifCond .ne 7, 3) := by decide +kernel
theorem dX10_first_68 : decode cX10_first 68 = .ok (.iload_n 2, 1) := by decide +kernel
theorem dX10_first_69 : decode cX10_first 69 = .ok (.goto 4, 3) := by decide +kernel
theorem dX10_first_72 : decode cX10_first 72 = .ok (.iload_n 3, 1) := by decide +kernel
theorem dX10_first_73 : decode cX10_first 73 = .ok (.ireturn, 1) := by decide +kernel
theorem dX10_foresters_0 : decode cX10_foresters 0 = .ok (.aload_n 0, 1) := by decide +kernel
theorem dX10_foresters_1 : decode cX10_foresters 1 = .ok (.iload_n 1, 1) := by decide +kernel
theorem dX10_foresters_2 : decode cX10_foresters 2 = .ok (.invokevirtual 110, 3) := by decide +kernel
theorem dX10_foresters_5 : decode cX10_foresters 5 = .ok (.ifCond .eq 39, 3) := by decide +kernel
theorem dX10_foresters_8 : decode cX10_foresters 8 = .ok (.aload_n 0, 1) := by decide +kernel
theorem dX10_foresters_9 : decode cX10_foresters 9 = .ok (.iload_n 2, 1) := by decide +kernel
theorem dX10_foresters_10 : decode cX10_foresters 10 = .ok (.invokevirtual 110, 3) := by decide +kernel
theorem dX10_foresters_13 : decode cX10_foresters 13 = .ok (.ifCond .eq 31, 3) := by decide +kernel
theorem dX10_foresters_16 : decode cX10_foresters 16 = .ok (.aload_n 0, 1) := by decide +kernel
theorem dX10_foresters_17 : decode cX10_foresters 17 = .ok (.iload_n 3, 1) := by decide +kernel
theorem dX10_foresters_18 : decode cX10_foresters 18 = .ok (.invokevirtual 110, 3) := by decide +kernel
theorem dX10_foresters_21 : decode cX10_foresters 21 = .ok (.ifCond .eq 23, 3) := by decide +kernel
theorem dX10_foresters_24 : decode cX10_foresters 24 = .ok (.aload_n 0, 1) := by decide +kernel
theorem dX10_foresters_25 : decode cX10_foresters 25 = .ok (.iload 4, 2) := by decide +kernel
theorem dX10_foresters_27 : decode cX10_foresters 27 = .ok (.invokevirtual 110, 3) := by decide +kernel
theorem dX10_foresters_30 : decode cX10_foresters 30 = .ok (.ifCond .eq 14, 3) := by decide +kernel
theorem dX10_foresters_33 : decode cX10_foresters 33 = .ok (.iload_n 1, 1) := by decide +kernel
theorem dX10_foresters_34 : decode cX10_foresters 34 = .ok (.iload_n 2, 1) := by decide +kernel
theorem dX10_foresters_35 : decode cX10_foresters 35 = .ok (.iload_n 3, 1) := by decide +kernel
theorem dX10_foresters_36 : decode cX10_foresters 36 = .ok (.iload 4, 2) := by decide +kernel
theorem dX10_foresters_38 : decode cX10_foresters 38 = .ok (.invokestatic 230, 3) := by decide +kernel
theorem dX10_foresters_41 : decode cX10_foresters 41 = .ok (.ifCond .ne 8, 3) := by decide +kernel
theorem dX10_foresters_44 : decode cX10_foresters 44 = .ok (.aload_n 0, 1) := by decide +kernel
theorem dX10_foresters_45 : decode cX10_foresters 45 = .ok (.invokevirtual 89, 3) := by decide +kernel
theorem dX10_foresters_48 : decode cX10_foresters 48 = .ok (.ireturn, 1) := by decide +kernel
theorem dX10_foresters_49 : decode cX10_foresters 49 = .ok (.iconst 0, 1) := by decide +kernel
theorem dX10_foresters_50 : decode cX10_foresters 50 = .ok (.istore 5, 2) := by decide +kernel
theorem dX10_foresters_52 : decode cX10_foresters 52 = .ok (.iconst 0, 1) := by decide +kernel
theorem dX10_foresters_53 : decode cX10_foresters 53 = .ok (.istore 6, 2) := by decide +kernel
theorem dX10_foresters_55 : decode cX10_foresters 55 = .ok (.iload 6, 2) := by decide +kernel
theorem dX10_foresters_57 : decode cX10_foresters 57 = .ok (.iconst 4, 1) := by decide +kernel
theorem dX10_foresters_58 : decode cX10_foresters 58 = .ok (.if_icmp .ge 56, 3) := by decide +kernel
theorem dX10_foresters_61 : decode cX10_foresters 61 = .ok (.iload 6, 2) := by decide +kernel
theorem dX10_foresters_63 : decode cX10_foresters 63 = .ok (.iconst 1, 1) := by decide +kernel
theorem dX10_foresters_64 : decode cX10_foresters 64 = .ok (.iand, 1) := by decide +kernel
theorem dX10_foresters_65 : decode cX10_foresters 65 = .ok (.iload_n 1, 1) := by decide +kernel
theorem dX10_foresters_66 : decode cX10_foresters 66 = .ok (.ishl, 1) := by decide +kernel
theorem dX10_foresters_67 : decode cX10_foresters 67 = .ok (.iload 6, 2) := by decide +kernel
theorem dX10_foresters_69 : decode cX10_foresters 69 = .ok (.iconst 1, 1) := by decide +kernel
theorem dX10_foresters_70 : decode cX10_foresters 70 = .ok (.ishr, 1) := by decide +kernel
theorem dX10_foresters_71 : decode cX10_foresters 71 = .ok (.iload_n 2, 1) := by decide +kernel
theorem dX10_foresters_72 : decode cX10_foresters 72 = .ok (.ishl, 1) := by decide +kernel
theorem dX10_foresters_73 : decode cX10_foresters 73 = .ok (.ior, 1) := by decide +kernel
theorem dX10_foresters_74 : decode cX10_foresters 74 = .ok (.istore 7, 2) := by decide +kernel
theorem dX10_foresters_76 : decode cX10_foresters 76 = .ok (.aload_n 0, 1) := by decide +kernel
theorem dX10_foresters_77 : decode cX10_foresters 77 = .ok (.getfield 54, 3) := by decide +kernel
theorem dX10_foresters_80 : decode cX10_foresters 80 = .ok (.iload_n 3, 1) := by decide +kernel
theorem dX10_foresters_81 : decode cX10_foresters 81 = .ok (.iload 4, 2) := by decide +kernel
theorem dX10_foresters_83 : decode cX10_foresters 83 = .ok (.aload_n 0, 1) := by decide +kernel
theorem dX10_foresters_84 : decode cX10_foresters 84 = .ok (.getfield 34, 3) := by decide +kernel
theorem dX10_foresters_87 : decode cX10_foresters 87 = .ok (.getfield 132, 3) := by decide +kernel
theorem dX10_foresters_90 : decode cX10_foresters 90 = .ok (.iload 7, 2) := by decide +kernel
theorem dX10_foresters_92 : decode cX10_foresters 92 = .ok (.ior, 1) := by decide +kernel
theorem dX10_foresters_93 : decode cX10_foresters 93 = .ok (.invokevirtual 233, 3) := by decide +kernel
theorem dX10_foresters_96 : decode cX10_foresters 96 = .ok (.ifCond .eq 12, 3) := by decide +kernel
theorem dX10_foresters_99 : decode cX10_foresters 99 = .ok (.iload 5, 2) := by decide +kernel
theorem dX10_foresters_101 : decode cX10_foresters 101 = .ok (.iconst 1, 1) := by decide +kernel
theorem dX10_foresters_102 : decode cX10_foresters 102 = .ok (.iload 6, 2) := by decide +kernel
theorem dX10_foresters_104 : decode cX10_foresters 104 = .ok (.ishl, 1) := by decide +kernel
theorem dX10_foresters_105 : decode cX10_foresters 105 = .ok (.ior, 1) := by decide +kernel
theorem dX10_foresters_106 : decode cX10_foresters 106 = .ok (.istore 5, 2) := by decide +kernel
theorem dX10_foresters_108 : decode cX10_foresters 108 = .ok (.iinc 6 1, 3) := by decide +kernel
theorem dX10_foresters_111 : decode cX10_foresters 111 = .ok (.goto (-56), 3) := by decide +kernel
theorem dX10_foresters_114 : decode cX10_foresters 114 = .ok (.iconst 0, 1) := by decide +kernel
theorem dX10_foresters_115 : decode cX10_foresters 115 = .ok (.istore 6, 2) := by decide +kernel
theorem dX10_foresters_117 : decode cX10_foresters 117 = .ok (.iconst 0, 1) := by decide +kernel
theorem dX10_foresters_118 : decode cX10_foresters 118 = .ok (.istore 7, 2) := by decide +kernel
theorem dX10_foresters_120 : decode cX10_foresters 120 = .ok (.iload 7, 2) := by decide +kernel
theorem dX10_foresters_122 : decode cX10_foresters 122 = .ok (.iconst 4, 1) := by decide +kernel
theorem dX10_foresters_123 : decode cX10_foresters 123 = .ok (.if_icmp .ge 84, 3) := by decide +kernel
theorem dX10_foresters_126 : decode cX10_foresters 126 = .ok (.iload 7, 2) := by decide +kernel
theorem dX10_foresters_128 : decode cX10_foresters 128 = .ok (.iconst 0, 1) := by decide +kernel
theorem dX10_foresters_129 : decode cX10_foresters 129 = .ok (.iload 5, 2) := by decide +kernel
theorem dX10_foresters_131 : decode cX10_foresters 131 = .ok (.invokestatic 236, 3) := by decide +kernel
theorem dX10_foresters_134 : decode cX10_foresters 134 = .ok (.iload 7, 2) := by decide +kernel
theorem dX10_foresters_136 : decode cX10_foresters 136 = .ok (.iconst 1, 1) := by decide +kernel
theorem dX10_foresters_137 : decode cX10_foresters 137 = .ok (.ixor, 1) := by decide +kernel
theorem dX10_foresters_138 : decode cX10_foresters 138 = .ok (.iconst 0, 1) := by decide +kernel
theorem dX10_foresters_139 : decode cX10_foresters 139 = .ok (.iload 5, 2) := by decide +kernel
theorem dX10_foresters_141 : decode cX10_foresters 141 = .ok (.invokestatic 236, 3) := by decide +kernel
theorem dX10_foresters_144 : decode cX10_foresters 144 = .ok (.if_icmp .lt 7, 3) := by decide +kernel
theorem dX10_foresters_147 : decode cX10_foresters 147 = .ok (.iconst 1, 1) := by decide +kernel
theorem dX10_foresters_148 : decode cX10_foresters 148 = .ok (.goto 4, 3) := by decide +kernel
theorem dX10_foresters_151 : decode cX10_foresters 151 = .ok (.iconst 0, 1) := by decide +kernel
theorem dX10_foresters_152 : decode cX10_foresters 152 = .ok (.istore 8, 2) := by decide +kernel
theorem dX10_foresters_154 : decode cX10_foresters 154 = .ok (.iload 7, 2) := by decide +kernel
theorem dX10_foresters_156 : decode cX10_foresters 156 = .ok (.iconst 1, 1) := by decide +kernel
theorem dX10_foresters_157 : decode cX10_foresters 157 = .ok (.iload 5, 2) := by decide +kernel
theorem dX10_foresters_159 : decode cX10_foresters 159 = .ok (.invokestatic 236, 3) := by decide +kernel
theorem dX10_foresters_162 : decode cX10_foresters 162 = .ok (.iload 7, 2) := by decide +kernel
theorem dX10_foresters_164 : decode cX10_foresters 164 = .ok (.iconst 2, 1) := by decide +kernel
theorem dX10_foresters_165 : decode cX10_foresters 165 = .ok (.ixor, 1) := by decide +kernel
theorem dX10_foresters_166 : decode cX10_foresters 166 = .ok (.iconst 1, 1) := by decide +kernel
theorem dX10_foresters_167 : decode cX10_foresters 167 = .ok (.iload 5, 2) := by decide +kernel
theorem dX10_foresters_169 : decode cX10_foresters 169 = .ok (.invokestatic 236, 3) := by decide +kernel
theorem dX10_foresters_172 : decode cX10_foresters 172 = .ok (.if_icmp .lt 7, 3) := by decide +kernel
theorem dX10_foresters_175 : decode cX10_foresters 175 = .ok (.iconst 1, 1) := by decide +kernel
theorem dX10_foresters_176 : decode cX10_foresters 176 = .ok (.goto 4, 3) := by decide +kernel
theorem dX10_foresters_179 : decode cX10_foresters 179 = .ok (.iconst 0, 1) := by decide +kernel
theorem dX10_foresters_180 : decode cX10_foresters 180 = .ok (.istore 9, 2) := by decide +kernel
theorem dX10_foresters_182 : decode cX10_foresters 182 = .ok (.iload 8, 2) := by decide +kernel
theorem dX10_foresters_184 : decode cX10_foresters 184 = .ok (.ifCond .eq 17, 3) := by decide +kernel
theorem dX10_foresters_187 : decode cX10_foresters 187 = .ok (.iload 9, 2) := by decide +kernel
theorem dX10_foresters_189 : decode cX10_foresters 189 = .ok (.ifCond .eq 12, 3) := by decide +kernel
theorem dX10_foresters_192 : decode cX10_foresters 192 = .ok (.iload 6, 2) := by decide +kernel
theorem dX10_foresters_194 : decode cX10_foresters 194 = .ok (.iconst 1, 1) := by decide +kernel
theorem dX10_foresters_195 : decode cX10_foresters 195 = .ok (.iload 7, 2) := by decide +kernel
theorem dX10_foresters_197 : decode cX10_foresters 197 = .ok (.ishl, 1) := by decide +kernel
theorem dX10_foresters_198 : decode cX10_foresters 198 = .ok (.ior, 1) := by decide +kernel
theorem dX10_foresters_199 : decode cX10_foresters 199 = .ok (.istore 6, 2) := by decide +kernel
theorem dX10_foresters_201 : decode cX10_foresters 201 = .ok (.iinc 7 1, 3) := by decide +kernel
theorem dX10_foresters_204 : decode cX10_foresters 204 = .ok (.goto (-84), 3) := by decide +kernel
theorem dX10_foresters_207 : decode cX10_foresters 207 = .ok (.iload 6, 2) := by decide +kernel
theorem dX10_foresters_209 : decode cX10_foresters 209 = .ok (.ireturn, 1) := by decide +kernel
theorem dX10_storms_0 : decode cX10_storms 0 = .ok (.aload_n 0, 1) := by decide +kernel
theorem dX10_storms_1 : decode cX10_storms 1 = .ok (.iload_n 1, 1) := by decide +kernel
theorem dX10_storms_2 : decode cX10_storms 2 = .ok (.invokevirtual 110, 3) := by decide +kernel
theorem dX10_storms_5 : decode cX10_storms 5 = .ok (.ifCond .eq 21, 3) := by decide +kernel
theorem dX10_storms_8 : decode cX10_storms 8 = .ok (.aload_n 0, 1) := by decide +kernel
theorem dX10_storms_9 : decode cX10_storms 9 = .ok (.iload_n 2, 1) := by decide +kernel
theorem dX10_storms_10 : decode cX10_storms 10 = .ok (.invokevirtual 110, 3) := by decide +kernel
theorem dX10_storms_13 : decode cX10_storms 13 = .ok (.ifCond .eq 13, 3) := by decide +kernel
theorem dX10_storms_16 : decode cX10_storms 16 = .ok (.iload_n 3, 1) := by decide +kernel
theorem dX10_storms_17 : decode cX10_storms 17 = .ok (.iconst 0, 1) := by decide +kernel
theorem dX10_storms_18 : decode cX10_storms 18 = .ok (.bipush 10, 2) := by decide +kernel
theorem dX10_storms_20 : decode cX10_storms 20 = .ok (.invokestatic 85, 3) := by decide +kernel
theorem dX10_storms_23 : decode cX10_storms 23 = .ok (.ifCond .ne 8, 3) := by decide +kernel
theorem dX10_storms_26 : decode cX10_storms 26 = .ok (.aload_n 0, 1) := by decide +kernel
theorem dX10_storms_27 : decode cX10_storms 27 = .ok (.invokevirtual 89, 3) := by decide +kernel
theorem dX10_storms_30 : decode cX10_storms 30 = .ok (.ireturn, 1) := by decide +kernel
theorem dX10_storms_31 : decode cX10_storms 31 = .ok (.aload_n 0, 1) := by decide +kernel
theorem dX10_storms_32 : decode cX10_storms 32 = .ok (.lconst 0, 1) := by decide +kernel
theorem dX10_storms_33 : decode cX10_storms 33 = .ok (.putfield 78, 3) := by decide +kernel
theorem dX10_storms_36 : decode cX10_storms 36 = .ok (.aload_n 0, 1) := by decide +kernel
theorem dX10_storms_37 : decode cX10_storms 37 = .ok (.lconst 1, 1) := by decide +kernel
theorem dX10_storms_38 : decode cX10_storms 38 = .ok (.putfield 82, 3) := by decide +kernel
theorem dX10_storms_41 : decode cX10_storms 41 = .ok (.aload_n 0, 1) := by decide +kernel
theorem dX10_storms_42 : decode cX10_storms 42 = .ok (.getfield 54, 3) := by decide +kernel
theorem dX10_storms_45 : decode cX10_storms 45 = .ok (.iload_n 1, 1) := by decide +kernel
theorem dX10_storms_46 : decode cX10_storms 46 = .ok (.iload_n 2, 1) := by decide +kernel
theorem dX10_storms_47 : decode cX10_storms 47 = .ok (.iconst 0, 1) := by decide +kernel
theorem dX10_storms_48 : decode cX10_storms 48 = .ok (.iconst (-1), 1) := by decide +kernel
theorem dX10_storms_49 : decode cX10_storms 49 = .ok (.invokevirtual 186, 3) := by decide +kernel
theorem dX10_storms_52 : decode cX10_storms 52 = .ok (.ifCond .eq 18, 3) := by decide +kernel
theorem dX10_storms_55 : decode cX10_storms 55 = .ok (.aload_n 0, 1) := by decide +kernel
theorem dX10_storms_56 : decode cX10_storms 56 = .ok (.bipush 10, 2) := by decide +kernel
theorem dX10_storms_58 : decode cX10_storms 58 = .ok (.iload_n 3, 1) := by decide +kernel
theorem dX10_storms_59 : decode cX10_storms 59 = .ok (.isub, 1) := by decide +kernel
theorem dX10_storms_60 : decode cX10_storms 60 = .ok (.aload_n 0, 1) := by decide +kernel
theorem dX10_storms_61 : decode cX10_storms 61 = .ok (.getfield 54, 3) := by decide +kernel
theorem dX10_storms_64 : decode cX10_storms 64 = .ok (.getfield 190, 3) := by decide +kernel
theorem dX10_storms_67 : decode cX10_storms 67 = .ok (.invokevirtual 240, 3) := by decide +kernel
theorem dX10_storms_70 : decode cX10_storms 70 = .ok (.iconst 1, 1) := by decide +kernel
theorem dX10_storms_71 : decode cX10_storms 71 = .ok (.ireturn, 1) := by decide +kernel
theorem dX10_forests_0 : decode cX10_forests 0 = .ok (.iload_n 1, 1) := by decide +kernel
theorem dX10_forests_1 : decode cX10_forests 1 = .ok (.iconst 0, 1) := by decide +kernel
theorem dX10_forests_2 : decode cX10_forests 2 = .ok (.ldc 243, 2) := by decide +kernel
theorem dX10_forests_4 : decode cX10_forests 4 = .ok (.invokestatic 85, 3) := by decide +kernel
theorem dX10_forests_7 : decode cX10_forests 7 = .ok (.ifCond .eq 22, 3) := by decide +kernel
theorem dX10_forests_10 : decode cX10_forests 10 = .ok (.iload_n 2, 1) := by decide +kernel
theorem dX10_forests_11 : decode cX10_forests 11 = .ok (.iconst 0, 1) := by decide +kernel
theorem dX10_forests_12 : decode cX10_forests 12 = .ok (.bipush 60, 2) := by decide +kernel
theorem dX10_forests_14 : decode cX10_forests 14 = .ok (.invokestatic 85, 3) := by decide +kernel
theorem dX10_forests_17 : decode cX10_forests 17 = .ok (.ifCond .eq 12, 3) := by decide +kernel
theorem dX10_forests_20 : decode cX10_forests 20 = .ok (.iload_n 3, 1) := by decide +kernel
theorem dX10_forests_21 : decode cX10_forests 21 = .ok (.iconst 0, 1) := by decide +kernel
theorem dX10_forests_22 : decode cX10_forests 22 = .ok (.iconst 1, 1) := by decide +kernel
theorem dX10_forests_23 : decode cX10_forests 23 = .ok (.invokestatic 85, 3) := by decide +kernel
theorem dX10_forests_26 : decode cX10_forests 26 = .ok (.ifCond .ne 8, 3) := by decide +kernel
theorem dX10_forests_29 : decode cX10_forests 29 = .ok (.aload_n 0, 1) := by decide +kernel
theorem dX10_forests_30 : decode cX10_forests 30 = .ok (.invokevirtual 89, 3) := by decide +kernel
theorem dX10_forests_33 : decode cX10_forests 33 = .ok (.ireturn, 1) := by decide +kernel
theorem dX10_forests_34 : decode cX10_forests 34 = .ok (.aload_n 0, 1) := by decide +kernel
theorem dX10_forests_35 : decode cX10_forests 35 = .ok (.getfield 34, 3) := by decide +kernel
theorem dX10_forests_38 : decode cX10_forests 38 = .ok (.getfield 93, 3) := by decide +kernel
theorem dX10_forests_41 : decode cX10_forests 41 = .ok (.istore 4, 2) := by decide +kernel
theorem dX10_forests_43 : decode cX10_forests 43 = .ok (.iload 4, 2) := by decide +kernel
theorem dX10_forests_45 : decode cX10_forests 45 = .ok (.ifCond .ne 8, 3) := by decide +kernel
theorem dX10_forests_48 : decode cX10_forests 48 = .ok (.aload_n 0, 1) := by decide +kernel
theorem dX10_forests_49 : decode cX10_forests 49 = .ok (.invokevirtual 151, 3) := by decide +kernel
theorem dX10_forests_52 : decode cX10_forests 52 = .ok (.ireturn, 1) := by decide +kernel
theorem dX10_forests_53 : decode cX10_forests 53 = .ok (.iconst 0, 1) := by decide +kernel
theorem dX10_forests_54 : decode cX10_forests 54 = .ok (.istore 5, 2) := by decide +kernel
theorem dX10_forests_56 : decode cX10_forests 56 = .ok (.iconst 0, 1) := by decide +kernel
theorem dX10_forests_57 : decode cX10_forests 57 = .ok (.istore 6, 2) := by decide +kernel
theorem dX10_forests_59 : decode cX10_forests 59 = .ok (.iload_n 1, 1) := by decide +kernel
theorem dX10_forests_60 : decode cX10_forests 60 = .ok (.i2l, 1) := by decide +kernel
theorem dX10_forests_61 : decode cX10_forests 61 = .ok (.lstore 7, 2) := by decide +kernel
theorem dX10_forests_63 : decode cX10_forests 63 = .ok (.iconst 0, 1) := by decide +kernel
theorem dX10_forests_64 : decode cX10_forests 64 = .ok (.istore 9, 2) := by decide +kernel
theorem dX10_forests_66 : decode cX10_forests 66 = .ok (.iload 9, 2) := by decide +kernel
theorem dX10_forests_68 : decode cX10_forests 68 = .ok (.iload_n 2, 1) := by decide +kernel
theorem dX10_forests_69 : decode cX10_forests 69 = .ok (.if_icmp .ge 80, 3) := by decide +kernel
theorem dX10_forests_72 : decode cX10_forests 72 = .ok (.lload 7, 2) := by decide +kernel
theorem dX10_forests_74 : decode cX10_forests 74 = .ok (.invokestatic 244, 3) := by decide +kernel
theorem dX10_forests_77 : decode cX10_forests 77 = .ok (.lstore 7, 2) := by decide +kernel
theorem dX10_forests_79 : decode cX10_forests 79 = .ok (.lload 7, 2) := by decide +kernel
theorem dX10_forests_81 : decode cX10_forests 81 = .ok (.ldc2_w 248, 3) := by decide +kernel
theorem dX10_forests_84 : decode cX10_forests 84 = .ok (.ldiv, 1) := by decide +kernel
theorem dX10_forests_85 : decode cX10_forests 85 = .ok (.iload 4, 2) := by decide +kernel
theorem dX10_forests_87 : decode cX10_forests 87 = .ok (.i2l, 1) := by decide +kernel
theorem dX10_forests_88 : decode cX10_forests 88 = .ok (.lrem, 1) := by decide +kernel
theorem dX10_forests_89 : decode cX10_forests 89 = .ok (.l2i, 1) := by decide +kernel
theorem dX10_forests_90 : decode cX10_forests 90 = .ok (.istore 10, 2) := by decide +kernel
theorem dX10_forests_92 : decode cX10_forests 92 = .ok (.lload 7, 2) := by decide +kernel
theorem dX10_forests_94 : decode cX10_forests 94 = .ok (.invokestatic 244, 3) := by decide +kernel
theorem dX10_forests_97 : decode cX10_forests 97 = .ok (.lstore 7, 2) := by decide +kernel
theorem dX10_forests_99 : decode cX10_forests 99 = .ok (.lload 7, 2) := by decide +kernel
theorem dX10_forests_101 : decode cX10_forests 101 = .ok (.ldc2_w 248, 3) := by decide +kernel
theorem dX10_forests_104 : decode cX10_forests 104 = .ok (.ldiv, 1) := by decide +kernel
theorem dX10_forests_105 : decode cX10_forests 105 = .ok (.iload 4, 2) := by decide +kernel
theorem dX10_forests_107 : decode cX10_forests 107 = .ok (.i2l, 1) := by decide +kernel
theorem dX10_forests_108 : decode cX10_forests 108 = .ok (.lrem, 1) := by decide +kernel
theorem dX10_forests_109 : decode cX10_forests 109 = .ok (.l2i, 1) := by decide +kernel
theorem dX10_forests_110 : decode cX10_forests 110 = .ok (.istore 11, 2) := by decide +kernel
theorem dX10_forests_112 : decode cX10_forests 112 = .ok (.aload_n 0, 1) := by decide +kernel
theorem dX10_forests_113 : decode cX10_forests 113 = .ok (.getfield 54, 3) := by decide +kernel
theorem dX10_forests_116 : decode cX10_forests 116 = .ok (.iload 10, 2) := by decide +kernel
theorem dX10_forests_118 : decode cX10_forests 118 = .ok (.iload 11, 2) := by decide +kernel
theorem dX10_forests_120 : decode cX10_forests 120 = .ok (.iconst 0, 1) := by decide +kernel
theorem dX10_forests_121 : decode cX10_forests 121 = .ok (.iconst (-1), 1) := by decide +kernel
theorem dX10_forests_122 : decode cX10_forests 122 = .ok (.invokevirtual 186, 3) := by decide +kernel
theorem dX10_forests_125 : decode cX10_forests 125 = .ok (.ifCond .eq 18, 3) := by decide +kernel
theorem dX10_forests_128 : decode cX10_forests 128 = .ok (.iinc 5 1, 3) := by decide +kernel
theorem dX10_forests_131 : decode cX10_forests 131 = .ok (.iload 6, 2) := by decide +kernel
theorem dX10_forests_133 : decode cX10_forests 133 = .ok (.aload_n 0, 1) := by decide +kernel
theorem dX10_forests_134 : decode cX10_forests 134 = .ok (.getfield 54, 3) := by decide +kernel
theorem dX10_forests_137 : decode cX10_forests 137 = .ok (.getfield 183, 3) := by decide +kernel
theorem dX10_forests_140 : decode cX10_forests 140 = .ok (.iadd, 1) := by decide +kernel
theorem dX10_forests_141 : decode cX10_forests 141 = .ok (.istore 6, 2) := by decide +kernel
theorem dX10_forests_143 : decode cX10_forests 143 = .ok (.iinc 9 1, 3) := by decide +kernel
theorem dX10_forests_146 : decode cX10_forests 146 = .ok (.goto (-80), 3) := by decide +kernel
theorem dX10_forests_149 : decode cX10_forests 149 = .ok (.iload_n 3, 1) := by decide +kernel
theorem dX10_forests_150 : decode cX10_forests 150 = .ok (.ifCond .ne 8, 3) := by decide +kernel
theorem dX10_forests_153 : decode cX10_forests 153 = .ok (.iload 5, 2) := by decide +kernel
theorem dX10_forests_155 : decode cX10_forests 155 = .ok (.goto 5, 3) := by decide +kernel
theorem dX10_forests_158 : decode cX10_forests 158 = .ok (.iload 6, 2) := by decide +kernel
theorem dX10_forests_160 : decode cX10_forests 160 = .ok (.ireturn, 1) := by decide +kernel
theorem dX10_part_0 : decode cX10_part 0 = .ok (.iload_n 1, 1) := by decide +kernel
theorem dX10_part_1 : decode cX10_part 1 = .ok (.iconst 0, 1) := by decide +kernel
theorem dX10_part_2 : decode cX10_part 2 = .ok (.iconst 1, 1) := by decide +kernel
theorem dX10_part_3 : decode cX10_part 3 = .ok (.invokestatic 85, 3) := by decide +kernel
theorem dX10_part_6 : decode cX10_part 6 = .ok (.ifCond .ne 9, 3) := by decide +kernel
theorem dX10_part_9 : decode cX10_part 9 = .ok (.aload_n 0, 1) := by decide +kernel
theorem dX10_part_10 : decode cX10_part 10 = .ok (.invokevirtual 89, 3) := by decide +kernel
theorem dX10_part_13 : decode cX10_part 13 = .ok (.i2l, 1) := by decide +kernel
theorem dX10_part_14 : decode cX10_part 14 = .ok (.lreturn, 1) := by decide +kernel
theorem dX10_part_15 : decode cX10_part 15 = .ok (.iload_n 1, 1) := by decide +kernel
theorem dX10_part_16 : decode cX10_part 16 = .ok (.ifCond .ne 10, 3) := by decide +kernel
theorem dX10_part_19 : decode cX10_part 19 = .ok (.aload_n 0, 1) := by decide +kernel
theorem dX10_part_20 : decode cX10_part 20 = .ok (.getfield 78, 3) := by decide +kernel
theorem dX10_part_23 : decode cX10_part 23 = .ok (.goto 7, 3) := by decide +kernel
theorem dX10_part_26 : decode cX10_part 26 = .ok (.aload_n 0, 1) := by decide +kernel
theorem dX10_part_27 : decode cX10_part 27 = .ok (.getfield 82, 3) := by decide +kernel
theorem dX10_part_30 : decode cX10_part 30 = .ok (.lreturn, 1) := by decide +kernel
theorem dX10_image_0 : decode cX10_image 0 = .ok (.iload_n 1, 1) := by decide +kernel
theorem dX10_image_1 : decode cX10_image 1 = .ok (.iconst 0, 1) := by decide +kernel
theorem dX10_image_2 : decode cX10_image 2 = .ok (.iconst 1, 1) := by decide +kernel
theorem dX10_image_3 : decode cX10_image 3 = .ok (.invokestatic 85, 3) := by decide +kernel
theorem dX10_image_6 : decode cX10_image 6 = .ok (.ifCond .ne 8, 3) := by decide +kernel
theorem dX10_image_9 : decode cX10_image 9 = .ok (.aload_n 0, 1) := by decide +kernel
theorem dX10_image_10 : decode cX10_image 10 = .ok (.invokevirtual 89, 3) := by decide +kernel
theorem dX10_image_13 : decode cX10_image 13 = .ok (.ireturn, 1) := by decide +kernel
theorem dX10_image_14 : decode cX10_image 14 = .ok (.aload_n 0, 1) := by decide +kernel
theorem dX10_image_15 : decode cX10_image 15 = .ok (.getfield 41, 3) := by decide +kernel
theorem dX10_image_18 : decode cX10_image 18 = .ok (.iload_n 1, 1) := by decide +kernel
theorem dX10_image_19 : decode cX10_image 19 = .ok (.aaload, 1) := by decide +kernel
theorem dX10_image_20 : decode cX10_image 20 = .ok (.aload_n 0, 1) := by decide +kernel
theorem dX10_image_21 : decode cX10_image 21 = .ok (.getfield 34, 3) := by decide +kernel
theorem dX10_image_24 : decode cX10_image 24 = .ok (.invokevirtual 128, 3) := by decide +kernel
theorem dX10_image_27 : decode cX10_image 27 = .ok (.aload_n 0, 1) := by decide +kernel
theorem dX10_image_28 : decode cX10_image 28 = .ok (.getfield 45, 3) := by decide +kernel
theorem dX10_image_31 : decode cX10_image 31 = .ok (.iload_n 1, 1) := by decide +kernel
theorem dX10_image_32 : decode cX10_image 32 = .ok (.iconst 1, 1) := by decide +kernel
theorem dX10_image_33 : decode cX10_image 33 = .ok (.bastore, 1) := by decide +kernel
theorem dX10_image_34 : decode cX10_image 34 = .ok (.iconst 1, 1) := by decide +kernel
theorem dX10_image_35 : decode cX10_image 35 = .ok (.ireturn, 1) := by decide +kernel
theorem dX10_from_0 : decode cX10_from 0 = .ok (.iload_n 1, 1) := by decide +kernel
theorem dX10_from_1 : decode cX10_from 1 = .ok (.iconst 0, 1) := by decide +kernel
theorem dX10_from_2 : decode cX10_from 2 = .ok (.iconst 1, 1) := by decide +kernel
theorem dX10_from_3 : decode cX10_from 3 = .ok (.invokestatic 85, 3) := by decide +kernel
theorem dX10_from_6 : decode cX10_from 6 = .ok (.ifCond .ne 8, 3) := by decide +kernel
theorem dX10_from_9 : decode cX10_from 9 = .ok (.aload_n 0, 1) := by decide +kernel
theorem dX10_from_10 : decode cX10_from 10 = .ok (.invokevirtual 89, 3) := by decide +kernel
theorem dX10_from_13 : decode cX10_from 13 = .ok (.ireturn, 1) := by decide +kernel
theorem dX10_from_14 : decode cX10_from 14 = .ok (.aload_n 0, 1) := by decide +kernel
theorem dX10_from_15 : decode cX10_from 15 = .ok (.getfield 45, 3) := by decide +kernel
theorem dX10_from_18 : decode cX10_from 18 = .ok (.iload_n 1, 1) := by decide +kernel
theorem dX10_from_19 : decode cX10_from 19 = .ok (.baload, 1) := by decide +kernel
theorem dX10_from_20 : decode cX10_from 20 = .ok (.ifCond .ne 8, 3) := by decide +kernel
theorem dX10_from_23 : decode cX10_from 23 = .ok (.aload_n 0, 1) := by decide +kernel
theorem dX10_from_24 : decode cX10_from 24 = .ok (.invokevirtual 151, 3) := by decide +kernel
theorem dX10_from_27 : decode cX10_from 27 = .ok (.ireturn, 1) := by decide +kernel
theorem dX10_from_28 : decode cX10_from 28 = .ok (.aload_n 0, 1) := by decide +kernel
theorem dX10_from_29 : decode cX10_from 29 = .ok (.getfield 34, 3) := by decide +kernel
theorem dX10_from_32 : decode cX10_from 32 = .ok (.aload_n 0, 1) := by decide +kernel
theorem dX10_from_33 : decode cX10_from 33 = .ok (.getfield 41, 3) := by decide +kernel
theorem dX10_from_36 : decode cX10_from 36 = .ok (.iload_n 1, 1) := by decide +kernel
theorem dX10_from_37 : decode cX10_from 37 = .ok (.aaload, 1) := by decide +kernel
theorem dX10_from_38 : decode cX10_from 38 = .ok (.invokevirtual 128, 3) := by decide +kernel
theorem dX10_from_41 : decode cX10_from 41 = .ok (.iconst 1, 1) := by decide +kernel
theorem dX10_from_42 : decode cX10_from 42 = .ok (.ireturn, 1) := by decide +kernel
theorem dX10_status_0 : decode cX10_status 0 = .ok (.iload_n 1, 1) := by decide +kernel
theorem dX10_status_1 : decode cX10_status 1 = .ok (.tableswitch 42 0 2 #[27, 32, 37], 27) := by decide +kernel
theorem dX10_status_28 : decode cX10_status 28 = .ok (.aload_n 0, 1) := by decide +kernel
theorem dX10_status_29 : decode cX10_status 29 = .ok (.getfield 250, 3) := by decide +kernel
theorem dX10_status_32 : decode cX10_status 32 = .ok (.ireturn, 1) := by decide +kernel
theorem dX10_status_33 : decode cX10_status 33 = .ok (.aload_n 0, 1) := by decide +kernel
theorem dX10_status_34 : decode cX10_status 34 = .ok (.getfield 253, 3) := by decide +kernel
theorem dX10_status_37 : decode cX10_status 37 = .ok (.ireturn, 1) := by decide +kernel
theorem dX10_status_38 : decode cX10_status 38 = .ok (.aload_n 0, 1) := by decide +kernel
theorem dX10_status_39 : decode cX10_status 39 = .ok (.getfield 256, 3) := by decide +kernel
theorem dX10_status_42 : decode cX10_status 42 = .ok (.ireturn, 1) := by decide +kernel
theorem dX10_status_43 : decode cX10_status 43 = .ok (.aload_n 0, 1) := by decide +kernel
theorem dX10_status_44 : decode cX10_status 44 = .ok (.dup, 1) := by decide +kernel
theorem dX10_status_45 : decode cX10_status 45 = .ok (.getfield 250, 3) := by decide +kernel
theorem dX10_status_48 : decode cX10_status 48 = .ok (.iconst 1, 1) := by decide +kernel
theorem dX10_status_49 : decode cX10_status 49 = .ok (.iadd, 1) := by decide +kernel
theorem dX10_status_50 : decode cX10_status 50 = .ok (.putfield 250, 3) := by decide +kernel
theorem dX10_status_53 : decode cX10_status 53 = .ok (.iconst (-1), 1) := by decide +kernel
theorem dX10_status_54 : decode cX10_status 54 = .ok (.ireturn, 1) := by decide +kernel
theorem dX10_count_0 : decode cX10_count 0 = .ok (.iload_n 1, 1) := by decide +kernel
theorem dX10_count_1 : decode cX10_count 1 = .ok (.iconst 0, 1) := by decide +kernel
theorem dX10_count_2 : decode cX10_count 2 = .ok (.bipush 7, 2) := by decide +kernel
theorem dX10_count_4 : decode cX10_count 4 = .ok (.invokestatic 85, 3) := by decide +kernel
theorem dX10_count_7 : decode cX10_count 7 = .ok (.ifCond .ne 8, 3) := by decide +kernel
theorem dX10_count_10 : decode cX10_count 10 = .ok (.aload_n 0, 1) := by decide +kernel
theorem dX10_count_11 : decode cX10_count 11 = .ok (.invokevirtual 89, 3) := by decide +kernel
theorem dX10_count_14 : decode cX10_count 14 = .ok (.ireturn, 1) := by decide +kernel
theorem dX10_count_15 : decode cX10_count 15 = .ok (.aload_n 0, 1) := by decide +kernel
theorem dX10_count_16 : decode cX10_count 16 = .ok (.iload_n 1, 1) := by decide +kernel
theorem dX10_count_17 : decode cX10_count 17 = .ok (.invokevirtual 259, 3) := by decide +kernel
theorem dX10_count_20 : decode cX10_count 20 = .ok (.ireturn, 1) := by decide +kernel
theorem dX10_digest_0 : decode cX10_digest 0 = .ok (.ldc2_w 262, 3) := by decide +kernel
theorem dX10_digest_3 : decode cX10_digest 3 = .ok (.lstore_n 1, 1) := by decide +kernel
theorem dX10_digest_4 : decode cX10_digest 4 = .ok (.iconst 0, 1) := by decide +kernel
theorem dX10_digest_5 : decode cX10_digest 5 = .ok (.istore_n 3, 1) := by decide +kernel
theorem dX10_digest_6 : decode cX10_digest 6 = .ok (.iload_n 3, 1) := by decide +kernel
theorem dX10_digest_7 : decode cX10_digest 7 = .ok (.bipush 8, 2) := by decide +kernel
theorem dX10_digest_9 : decode cX10_digest 9 = .ok (.if_icmp .ge 22, 3) := by decide +kernel
theorem dX10_digest_12 : decode cX10_digest 12 = .ok (.ldc2_w 264, 3) := by decide +kernel
theorem dX10_digest_15 : decode cX10_digest 15 = .ok (.lload_n 1, 1) := by decide +kernel
theorem dX10_digest_16 : decode cX10_digest 16 = .ok (.lmul, 1) := by decide +kernel
theorem dX10_digest_17 : decode cX10_digest 17 = .ok (.aload_n 0, 1) := by decide +kernel
theorem dX10_digest_18 : decode cX10_digest 18 = .ok (.iload_n 3, 1) := by decide +kernel
theorem dX10_digest_19 : decode cX10_digest 19 = .ok (.invokevirtual 259, 3) := by decide +kernel
theorem dX10_digest_22 : decode cX10_digest 22 = .ok (.i2l, 1) := by decide +kernel
theorem dX10_digest_23 : decode cX10_digest 23 = .ok (.ladd, 1) := by decide +kernel
theorem dX10_digest_24 : decode cX10_digest 24 = .ok (.lstore_n 1, 1) := by decide +kernel
theorem dX10_digest_25 : decode cX10_digest 25 = .ok (.iinc 3 1, 3) := by decide +kernel
theorem dX10_digest_28 : decode cX10_digest 28 = .ok (.goto (-22), 3) := by decide +kernel
theorem dX10_digest_31 : decode cX10_digest 31 = .ok (.iconst 0, 1) := by decide +kernel
theorem dX10_digest_32 : decode cX10_digest 32 = .ok (.istore_n 3, 1) := by decide +kernel
theorem dX10_digest_33 : decode cX10_digest 33 = .ok (.iload_n 3, 1) := by decide +kernel
theorem dX10_digest_34 : decode cX10_digest 34 = .ok (.aload_n 0, 1) := by decide +kernel
theorem dX10_digest_35 : decode cX10_digest 35 = .ok (.getfield 34, 3) := by decide +kernel
theorem dX10_digest_38 : decode cX10_digest 38 = .ok (.getfield 93, 3) := by decide +kernel
theorem dX10_digest_41 : decode cX10_digest 41 = .ok (.if_icmp .ge 62, 3) := by decide +kernel
theorem dX10_digest_44 : decode cX10_digest 44 = .ok (.ldc2_w 264, 3) := by decide +kernel
theorem dX10_digest_47 : decode cX10_digest 47 = .ok (.lload_n 1, 1) := by decide +kernel
theorem dX10_digest_48 : decode cX10_digest 48 = .ok (.lmul, 1) := by decide +kernel
theorem dX10_digest_49 : decode cX10_digest 49 = .ok (.aload_n 0, 1) := by decide +kernel
theorem dX10_digest_50 : decode cX10_digest 50 = .ok (.getfield 34, 3) := by decide +kernel
theorem dX10_digest_53 : decode cX10_digest 53 = .ok (.getfield 157, 3) := by decide +kernel
theorem dX10_digest_56 : decode cX10_digest 56 = .ok (.iload_n 3, 1) := by decide +kernel
theorem dX10_digest_57 : decode cX10_digest 57 = .ok (.iaload, 1) := by decide +kernel
theorem dX10_digest_58 : decode cX10_digest 58 = .ok (.i2l, 1) := by decide +kernel
theorem dX10_digest_59 : decode cX10_digest 59 = .ok (.ladd, 1) := by decide +kernel
theorem dX10_digest_60 : decode cX10_digest 60 = .ok (.lstore_n 1, 1) := by decide +kernel
theorem dX10_digest_61 : decode cX10_digest 61 = .ok (.ldc2_w 264, 3) := by decide +kernel
theorem dX10_digest_64 : decode cX10_digest 64 = .ok (.lload_n 1, 1) := by decide +kernel
theorem dX10_digest_65 : decode cX10_digest 65 = .ok (.lmul, 1) := by decide +kernel
theorem dX10_digest_66 : decode cX10_digest 66 = .ok (.aload_n 0, 1) := by decide +kernel
theorem dX10_digest_67 : decode cX10_digest 67 = .ok (.getfield 34, 3) := by decide +kernel
theorem dX10_digest_70 : decode cX10_digest 70 = .ok (.getfield 132, 3) := by decide +kernel
theorem dX10_digest_73 : decode cX10_digest 73 = .ok (.iload_n 3, 1) := by decide +kernel
theorem dX10_digest_74 : decode cX10_digest 74 = .ok (.ishr, 1) := by decide +kernel
theorem dX10_digest_75 : decode cX10_digest 75 = .ok (.iconst 1, 1) := by decide +kernel
theorem dX10_digest_76 : decode cX10_digest 76 = .ok (.iand, 1) := by decide +kernel
theorem dX10_digest_77 : decode cX10_digest 77 = .ok (.i2l, 1) := by decide +kernel
theorem dX10_digest_78 : decode cX10_digest 78 = .ok (.ladd, 1) := by decide +kernel
theorem dX10_digest_79 : decode cX10_digest 79 = .ok (.lstore_n 1, 1) := by decide +kernel
theorem dX10_digest_80 : decode cX10_digest 80 = .ok (.ldc2_w 264, 3) := by decide +kernel
theorem dX10_digest_83 : decode cX10_digest 83 = .ok (.lload_n 1, 1) := by decide +kernel
theorem dX10_digest_84 : decode cX10_digest 84 = .ok (.lmul, 1) := by decide +kernel
theorem dX10_digest_85 : decode cX10_digest 85 = .ok (.aload_n 0, 1) := by decide +kernel
theorem dX10_digest_86 : decode cX10_digest 86 = .ok (.getfield 34, 3) := by decide +kernel
theorem dX10_digest_89 : decode cX10_digest 89 = .ok (.getfield 114, 3) := by decide +kernel
theorem dX10_digest_92 : decode cX10_digest 92 = .ok (.iload_n 3, 1) := by decide +kernel
theorem dX10_digest_93 : decode cX10_digest 93 = .ok (.iaload, 1) := by decide +kernel
theorem dX10_digest_94 : decode cX10_digest 94 = .ok (.i2l, 1) := by decide +kernel
theorem dX10_digest_95 : decode cX10_digest 95 = .ok (.ladd, 1) := by decide +kernel
theorem dX10_digest_96 : decode cX10_digest 96 = .ok (.lstore_n 1, 1) := by decide +kernel
theorem dX10_digest_97 : decode cX10_digest 97 = .ok (.iinc 3 1, 3) := by decide +kernel
theorem dX10_digest_100 : decode cX10_digest 100 = .ok (.goto (-67), 3) := by decide +kernel
theorem dX10_digest_103 : decode cX10_digest 103 = .ok (.iconst 0, 1) := by decide +kernel
theorem dX10_digest_104 : decode cX10_digest 104 = .ok (.istore_n 3, 1) := by decide +kernel
theorem dX10_digest_105 : decode cX10_digest 105 = .ok (.iload_n 3, 1) := by decide +kernel
theorem dX10_digest_106 : decode cX10_digest 106 = .ok (.aload_n 0, 1) := by decide +kernel
theorem dX10_digest_107 : decode cX10_digest 107 = .ok (.getfield 34, 3) := by decide +kernel
theorem dX10_digest_110 : decode cX10_digest 110 = .ok (.getfield 208, 3) := by decide +kernel
theorem dX10_digest_113 : decode cX10_digest 113 = .ok (.iconst 5, 1) := by decide +kernel
theorem dX10_digest_114 : decode cX10_digest 114 = .ok (.imul, 1) := by decide +kernel
theorem dX10_digest_115 : decode cX10_digest 115 = .ok (.if_icmp .ge 26, 3) := by decide +kernel
theorem dX10_digest_118 : decode cX10_digest 118 = .ok (.ldc2_w 264, 3) := by decide +kernel
theorem dX10_digest_121 : decode cX10_digest 121 = .ok (.lload_n 1, 1) := by decide +kernel
theorem dX10_digest_122 : decode cX10_digest 122 = .ok (.lmul, 1) := by decide +kernel
theorem dX10_digest_123 : decode cX10_digest 123 = .ok (.aload_n 0, 1) := by decide +kernel
theorem dX10_digest_124 : decode cX10_digest 124 = .ok (.getfield 34, 3) := by decide +kernel
theorem dX10_digest_127 : decode cX10_digest 127 = .ok (.getfield 266, 3) := by decide +kernel
theorem dX10_digest_130 : decode cX10_digest 130 = .ok (.iload_n 3, 1) := by decide +kernel
theorem dX10_digest_131 : decode cX10_digest 131 = .ok (.iaload, 1) := by decide +kernel
theorem dX10_digest_132 : decode cX10_digest 132 = .ok (.i2l, 1) := by decide +kernel
theorem dX10_digest_133 : decode cX10_digest 133 = .ok (.ladd, 1) := by decide +kernel
theorem dX10_digest_134 : decode cX10_digest 134 = .ok (.lstore_n 1, 1) := by decide +kernel
theorem dX10_digest_135 : decode cX10_digest 135 = .ok (.iinc 3 1, 3) := by decide +kernel
theorem dX10_digest_138 : decode cX10_digest 138 = .ok (.goto (-33), 3) := by decide +kernel
theorem dX10_digest_141 : decode cX10_digest 141 = .ok (.iconst 0, 1) := by decide +kernel
theorem dX10_digest_142 : decode cX10_digest 142 = .ok (.istore_n 3, 1) := by decide +kernel
theorem dX10_digest_143 : decode cX10_digest 143 = .ok (.iload_n 3, 1) := by decide +kernel
theorem dX10_digest_144 : decode cX10_digest 144 = .ok (.aload_n 0, 1) := by decide +kernel
theorem dX10_digest_145 : decode cX10_digest 145 = .ok (.getfield 34, 3) := by decide +kernel
theorem dX10_digest_148 : decode cX10_digest 148 = .ok (.getfield 215, 3) := by decide +kernel
theorem dX10_digest_151 : decode cX10_digest 151 = .ok (.iconst 3, 1) := by decide +kernel
theorem dX10_digest_152 : decode cX10_digest 152 = .ok (.imul, 1) := by decide +kernel
theorem dX10_digest_153 : decode cX10_digest 153 = .ok (.if_icmp .ge 26, 3) := by decide +kernel
theorem dX10_digest_156 : decode cX10_digest 156 = .ok (.ldc2_w 264, 3) := by decide +kernel
theorem dX10_digest_159 : decode cX10_digest 159 = .ok (.lload_n 1, 1) := by decide +kernel
theorem dX10_digest_160 : decode cX10_digest 160 = .ok (.lmul, 1) := by decide +kernel
theorem dX10_digest_161 : decode cX10_digest 161 = .ok (.aload_n 0, 1) := by decide +kernel
theorem dX10_digest_162 : decode cX10_digest 162 = .ok (.getfield 34, 3) := by decide +kernel
theorem dX10_digest_165 : decode cX10_digest 165 = .ok (.getfield 269, 3) := by decide +kernel
theorem dX10_digest_168 : decode cX10_digest 168 = .ok (.iload_n 3, 1) := by decide +kernel
theorem dX10_digest_169 : decode cX10_digest 169 = .ok (.iaload, 1) := by decide +kernel
theorem dX10_digest_170 : decode cX10_digest 170 = .ok (.i2l, 1) := by decide +kernel
theorem dX10_digest_171 : decode cX10_digest 171 = .ok (.ladd, 1) := by decide +kernel
theorem dX10_digest_172 : decode cX10_digest 172 = .ok (.lstore_n 1, 1) := by decide +kernel
theorem dX10_digest_173 : decode cX10_digest 173 = .ok (.iinc 3 1, 3) := by decide +kernel
theorem dX10_digest_176 : decode cX10_digest 176 = .ok (.goto (-33), 3) := by decide +kernel
theorem dX10_digest_179 : decode cX10_digest 179 = .ok (.ldc2_w 264, 3) := by decide +kernel
theorem dX10_digest_182 : decode cX10_digest 182 = .ok (.lload_n 1, 1) := by decide +kernel
theorem dX10_digest_183 : decode cX10_digest 183 = .ok (.lmul, 1) := by decide +kernel
theorem dX10_digest_184 : decode cX10_digest 184 = .ok (.aload_n 0, 1) := by decide +kernel
theorem dX10_digest_185 : decode cX10_digest 185 = .ok (.getfield 78, 3) := by decide +kernel
theorem dX10_digest_188 : decode cX10_digest 188 = .ok (.ladd, 1) := by decide +kernel
theorem dX10_digest_189 : decode cX10_digest 189 = .ok (.lstore_n 1, 1) := by decide +kernel
theorem dX10_digest_190 : decode cX10_digest 190 = .ok (.ldc2_w 264, 3) := by decide +kernel
theorem dX10_digest_193 : decode cX10_digest 193 = .ok (.lload_n 1, 1) := by decide +kernel
theorem dX10_digest_194 : decode cX10_digest 194 = .ok (.lmul, 1) := by decide +kernel
theorem dX10_digest_195 : decode cX10_digest 195 = .ok (.aload_n 0, 1) := by decide +kernel
theorem dX10_digest_196 : decode cX10_digest 196 = .ok (.getfield 82, 3) := by decide +kernel
theorem dX10_digest_199 : decode cX10_digest 199 = .ok (.ladd, 1) := by decide +kernel
theorem dX10_digest_200 : decode cX10_digest 200 = .ok (.lreturn, 1) := by decide +kernel
theorem dX10_within_0 : decode cX10_within 0 = .ok (.iload_n 0, 1) := by decide +kernel
theorem dX10_within_1 : decode cX10_within 1 = .ok (.iload_n 1, 1) := by decide +kernel
theorem dX10_within_2 : decode cX10_within 2 = .ok (.if_icmp .lt 12, 3) := by decide +kernel
theorem dX10_within_5 : decode cX10_within 5 = .ok (.iload_n 0, 1) := by decide +kernel
theorem dX10_within_6 : decode cX10_within 6 = .ok (.iload_n 2, 1) := by decide +kernel
theorem dX10_within_7 : decode cX10_within 7 = .ok (.if_icmp .gt 7, 3) := by decide +kernel
theorem dX10_within_10 : decode cX10_within 10 = .ok (.iconst 1, 1) := by decide +kernel
theorem dX10_within_11 : decode cX10_within 11 = .ok (.goto 4, 3) := by decide +kernel
theorem dX10_within_14 : decode cX10_within 14 = .ok (.iconst 0, 1) := by decide +kernel
theorem dX10_within_15 : decode cX10_within 15 = .ok (.ireturn, 1) := by decide +kernel
theorem dX10_isTree_0 : decode cX10_isTree 0 = .ok (.iload_n 1, 1) := by decide +kernel
theorem dX10_isTree_1 : decode cX10_isTree 1 = .ok (.iconst 0, 1) := by decide +kernel
theorem dX10_isTree_2 : decode cX10_isTree 2 = .ok (.aload_n 0, 1) := by decide +kernel
theorem dX10_isTree_3 : decode cX10_isTree 3 = .ok (.getfield 34, 3) := by decide +kernel
theorem dX10_isTree_6 : decode cX10_isTree 6 = .ok (.getfield 93, 3) := by decide +kernel
theorem dX10_isTree_9 : decode cX10_isTree 9 = .ok (.iconst 1, 1) := by decide +kernel
theorem dX10_isTree_10 : decode cX10_isTree 10 = .ok (.isub, 1) := by decide +kernel
theorem dX10_isTree_11 : decode cX10_isTree 11 = .ok (.invokestatic 85, 3) := by decide +kernel
theorem dX10_isTree_14 : decode cX10_isTree 14 = .ok (.ireturn, 1) := by decide +kernel
theorem dX10_refuseAsBad_0 : decode cX10_refuseAsBad 0 = .ok (.aload_n 0, 1) := by decide +kernel
theorem dX10_refuseAsBad_1 : decode cX10_refuseAsBad 1 = .ok (.dup, 1) := by decide +kernel
theorem dX10_refuseAsBad_2 : decode cX10_refuseAsBad 2 = .ok (.getfield 250, 3) := by decide +kernel
theorem dX10_refuseAsBad_5 : decode cX10_refuseAsBad 5 = .ok (.iconst 1, 1) := by decide +kernel
theorem dX10_refuseAsBad_6 : decode cX10_refuseAsBad 6 = .ok (.iadd, 1) := by decide +kernel
theorem dX10_refuseAsBad_7 : decode cX10_refuseAsBad 7 = .ok (.putfield 250, 3) := by decide +kernel
theorem dX10_refuseAsBad_10 : decode cX10_refuseAsBad 10 = .ok (.bipush (-2), 2) := by decide +kernel
theorem dX10_refuseAsBad_12 : decode cX10_refuseAsBad 12 = .ok (.ireturn, 1) := by decide +kernel
theorem dX10_refuseAsNo_0 : decode cX10_refuseAsNo 0 = .ok (.aload_n 0, 1) := by decide +kernel
theorem dX10_refuseAsNo_1 : decode cX10_refuseAsNo 1 = .ok (.dup, 1) := by decide +kernel
theorem dX10_refuseAsNo_2 : decode cX10_refuseAsNo 2 = .ok (.getfield 253, 3) := by decide +kernel
theorem dX10_refuseAsNo_5 : decode cX10_refuseAsNo 5 = .ok (.iconst 1, 1) := by decide +kernel
theorem dX10_refuseAsNo_6 : decode cX10_refuseAsNo 6 = .ok (.iadd, 1) := by decide +kernel
theorem dX10_refuseAsNo_7 : decode cX10_refuseAsNo 7 = .ok (.putfield 253, 3) := by decide +kernel
theorem dX10_refuseAsNo_10 : decode cX10_refuseAsNo 10 = .ok (.bipush (-3), 2) := by decide +kernel
theorem dX10_refuseAsNo_12 : decode cX10_refuseAsNo 12 = .ok (.ireturn, 1) := by decide +kernel
theorem dX10_refuseAsFull_0 : decode cX10_refuseAsFull 0 = .ok (.aload_n 0, 1) := by decide +kernel
theorem dX10_refuseAsFull_1 : decode cX10_refuseAsFull 1 = .ok (.dup, 1) := by decide +kernel
theorem dX10_refuseAsFull_2 : decode cX10_refuseAsFull 2 = .ok (.getfield 256, 3) := by decide +kernel
theorem dX10_refuseAsFull_5 : decode cX10_refuseAsFull 5 = .ok (.iconst 1, 1) := by decide +kernel
theorem dX10_refuseAsFull_6 : decode cX10_refuseAsFull 6 = .ok (.iadd, 1) := by decide +kernel
theorem dX10_refuseAsFull_7 : decode cX10_refuseAsFull 7 = .ok (.putfield 256, 3) := by decide +kernel
theorem dX10_refuseAsFull_10 : decode cX10_refuseAsFull 10 = .ok (.bipush (-4), 2) := by decide +kernel
theorem dX10_refuseAsFull_12 : decode cX10_refuseAsFull 12 = .ok (.ireturn, 1) := by decide +kernel
theorem dX10_howMuch_0 : decode cX10_howMuch 0 = .ok (.iload_n 1, 1) := by decide +kernel
theorem dX10_howMuch_1 : decode cX10_howMuch 1 = .ok (.tableswitch 102 0 6 #[43, 51, 59, 70, 78, 86, 94], 43) := by decide +kernel
theorem dX10_howMuch_44 : decode cX10_howMuch 44 = .ok (.aload_n 0, 1) := by decide +kernel
theorem dX10_howMuch_45 : decode cX10_howMuch 45 = .ok (.getfield 34, 3) := by decide +kernel
theorem dX10_howMuch_48 : decode cX10_howMuch 48 = .ok (.getfield 93, 3) := by decide +kernel
theorem dX10_howMuch_51 : decode cX10_howMuch 51 = .ok (.ireturn, 1) := by decide +kernel
theorem dX10_howMuch_52 : decode cX10_howMuch 52 = .ok (.aload_n 0, 1) := by decide +kernel
theorem dX10_howMuch_53 : decode cX10_howMuch 53 = .ok (.getfield 34, 3) := by decide +kernel
theorem dX10_howMuch_56 : decode cX10_howMuch 56 = .ok (.getfield 142, 3) := by decide +kernel
theorem dX10_howMuch_59 : decode cX10_howMuch 59 = .ok (.ireturn, 1) := by decide +kernel
theorem dX10_howMuch_60 : decode cX10_howMuch 60 = .ok (.aload_n 0, 1) := by decide +kernel
theorem dX10_howMuch_61 : decode cX10_howMuch 61 = .ok (.getfield 34, 3) := by decide +kernel
theorem dX10_howMuch_64 : decode cX10_howMuch 64 = .ok (.getfield 132, 3) := by decide +kernel
theorem dX10_howMuch_67 : decode cX10_howMuch 67 = .ok (.invokestatic 272, 3) := by decide +kernel
theorem dX10_howMuch_70 : decode cX10_howMuch 70 = .ok (.ireturn, 1) := by decide +kernel
theorem dX10_howMuch_71 : decode cX10_howMuch 71 = .ok (.aload_n 0, 1) := by decide +kernel
theorem dX10_howMuch_72 : decode cX10_howMuch 72 = .ok (.getfield 34, 3) := by decide +kernel
theorem dX10_howMuch_75 : decode cX10_howMuch 75 = .ok (.invokevirtual 277, 3) := by decide +kernel
theorem dX10_howMuch_78 : decode cX10_howMuch 78 = .ok (.ireturn, 1) := by decide +kernel
theorem dX10_howMuch_79 : decode cX10_howMuch 79 = .ok (.aload_n 0, 1) := by decide +kernel
theorem dX10_howMuch_80 : decode cX10_howMuch 80 = .ok (.getfield 34, 3) := by decide +kernel
theorem dX10_howMuch_83 : decode cX10_howMuch 83 = .ok (.getfield 208, 3) := by decide +kernel
theorem dX10_howMuch_86 : decode cX10_howMuch 86 = .ok (.ireturn, 1) := by decide +kernel
theorem dX10_howMuch_87 : decode cX10_howMuch 87 = .ok (.aload_n 0, 1) := by decide +kernel
theorem dX10_howMuch_88 : decode cX10_howMuch 88 = .ok (.getfield 34, 3) := by decide +kernel
theorem dX10_howMuch_91 : decode cX10_howMuch 91 = .ok (.getfield 215, 3) := by decide +kernel
theorem dX10_howMuch_94 : decode cX10_howMuch 94 = .ok (.ireturn, 1) := by decide +kernel
theorem dX10_howMuch_95 : decode cX10_howMuch 95 = .ok (.aload_n 0, 1) := by decide +kernel
theorem dX10_howMuch_96 : decode cX10_howMuch 96 = .ok (.getfield 34, 3) := by decide +kernel
theorem dX10_howMuch_99 : decode cX10_howMuch 99 = .ok (.getfield 107, 3) := by decide +kernel
theorem dX10_howMuch_102 : decode cX10_howMuch 102 = .ok (.ireturn, 1) := by decide +kernel
theorem dX10_howMuch_103 : decode cX10_howMuch 103 = .ok (.aload_n 0, 1) := by decide +kernel
theorem dX10_howMuch_104 : decode cX10_howMuch 104 = .ok (.getfield 121, 3) := by decide +kernel
theorem dX10_howMuch_107 : decode cX10_howMuch 107 = .ok (.ireturn, 1) := by decide +kernel
theorem dX10_fittingKinds_0 : decode cX10_fittingKinds 0 = .ok (.iconst 0, 1) := by decide +kernel
theorem dX10_fittingKinds_1 : decode cX10_fittingKinds 1 = .ok (.istore_n 2, 1) := by decide +kernel
theorem dX10_fittingKinds_2 : decode cX10_fittingKinds 2 = .ok (.iconst 0, 1) := by decide +kernel
theorem dX10_fittingKinds_3 : decode cX10_fittingKinds 3 = .ok (.istore_n 3, 1) := by decide +kernel
theorem dX10_fittingKinds_4 : decode cX10_fittingKinds 4 = .ok (.iload_n 3, 1) := by decide +kernel
theorem dX10_fittingKinds_5 : decode cX10_fittingKinds 5 = .ok (.bipush 6, 2) := by decide +kernel
theorem dX10_fittingKinds_7 : decode cX10_fittingKinds 7 = .ok (.if_icmp .ge 24, 3) := by decide +kernel
theorem dX10_fittingKinds_10 : decode cX10_fittingKinds 10 = .ok (.aload_n 0, 1) := by decide +kernel
theorem dX10_fittingKinds_11 : decode cX10_fittingKinds 11 = .ok (.iload_n 3, 1) := by decide +kernel
theorem dX10_fittingKinds_12 : decode cX10_fittingKinds 12 = .ok (.iload_n 1, 1) := by decide +kernel
theorem dX10_fittingKinds_13 : decode cX10_fittingKinds 13 = .ok (.invokevirtual 280, 3) := by decide +kernel
theorem dX10_fittingKinds_16 : decode cX10_fittingKinds 16 = .ok (.ifCond .eq 9, 3) := by decide +kernel
theorem dX10_fittingKinds_19 : decode cX10_fittingKinds 19 = .ok (.iload_n 2, 1) := by decide +kernel
theorem dX10_fittingKinds_20 : decode cX10_fittingKinds 20 = .ok (.iconst 1, 1) := by decide +kernel
theorem dX10_fittingKinds_21 : decode cX10_fittingKinds 21 = .ok (.iload_n 3, 1) := by decide +kernel
theorem dX10_fittingKinds_22 : decode cX10_fittingKinds 22 = .ok (.ishl, 1) := by decide +kernel
theorem dX10_fittingKinds_23 : decode cX10_fittingKinds 23 = .ok (.ior, 1) := by decide +kernel
theorem dX10_fittingKinds_24 : decode cX10_fittingKinds 24 = .ok (.istore_n 2, 1) := by decide +kernel
theorem dX10_fittingKinds_25 : decode cX10_fittingKinds 25 = .ok (.iinc 3 1, 3) := by decide +kernel
theorem dX10_fittingKinds_28 : decode cX10_fittingKinds 28 = .ok (.goto (-24), 3) := by decide +kernel
theorem dX10_fittingKinds_31 : decode cX10_fittingKinds 31 = .ok (.iload_n 2, 1) := by decide +kernel
theorem dX10_fittingKinds_32 : decode cX10_fittingKinds 32 = .ok (.ireturn, 1) := by decide +kernel
theorem dX10_fitsAllNotes_0 : decode cX10_fitsAllNotes 0 = .ok (.aload_n 0, 1) := by decide +kernel
theorem dX10_fitsAllNotes_1 : decode cX10_fitsAllNotes 1 = .ok (.getfield 34, 3) := by decide +kernel
theorem dX10_fitsAllNotes_4 : decode cX10_fitsAllNotes 4 = .ok (.getfield 266, 3) := by decide +kernel
theorem dX10_fitsAllNotes_7 : decode cX10_fitsAllNotes 7 = .ok (.astore_n 3, 1) := by decide +kernel
theorem dX10_fitsAllNotes_8 : decode cX10_fitsAllNotes 8 = .ok (.iconst 0, 1) := by decide +kernel
theorem dX10_fitsAllNotes_9 : decode cX10_fitsAllNotes 9 = .ok (.istore 4, 2) := by decide +kernel
theorem dX10_fitsAllNotes_11 : decode cX10_fitsAllNotes 11 = .ok (.iload 4, 2) := by decide +kernel
theorem dX10_fitsAllNotes_13 : decode cX10_fitsAllNotes 13 = .ok (.aload_n 0, 1) := by decide +kernel
theorem dX10_fitsAllNotes_14 : decode cX10_fitsAllNotes 14 = .ok (.getfield 34, 3) := by decide +kernel
theorem dX10_fitsAllNotes_17 : decode cX10_fitsAllNotes 17 = .ok (.getfield 208, 3) := by decide +kernel
theorem dX10_fitsAllNotes_20 : decode cX10_fitsAllNotes 20 = .ok (.if_icmp .ge 91, 3) := by decide +kernel
theorem dX10_fitsAllNotes_23 : decode cX10_fitsAllNotes 23 = .ok (.iload 4, 2) := by decide +kernel
theorem dX10_fitsAllNotes_25 : decode cX10_fitsAllNotes 25 = .ok (.iconst 5, 1) := by decide +kernel
theorem dX10_fitsAllNotes_26 : decode cX10_fitsAllNotes 26 = .ok (.imul, 1) := by decide +kernel
theorem dX10_fitsAllNotes_27 : decode cX10_fitsAllNotes 27 = .ok (.istore 5, 2) := by decide +kernel
theorem dX10_fitsAllNotes_29 : decode cX10_fitsAllNotes 29 = .ok (.aload_n 3, 1) := by decide +kernel
theorem dX10_fitsAllNotes_30 : decode cX10_fitsAllNotes 30 = .ok (.iload 5, 2) := by decide +kernel
theorem dX10_fitsAllNotes_32 : decode cX10_fitsAllNotes 32 = .ok (.iconst 2, 1) := by decide +kernel
theorem dX10_fitsAllNotes_33 : decode cX10_fitsAllNotes 33 = .ok (.iadd, 1) := by decide +kernel
theorem dX10_fitsAllNotes_34 : decode cX10_fitsAllNotes 34 = .ok (.iaload, 1) := by decide +kernel
theorem dX10_fitsAllNotes_35 : decode cX10_fitsAllNotes 35 = .ok (.istore 6, 2) := by decide +kernel
theorem dX10_fitsAllNotes_37 : decode cX10_fitsAllNotes 37 = .ok (.aload_n 0, 1) := by decide +kernel
theorem dX10_fitsAllNotes_38 : decode cX10_fitsAllNotes 38 = .ok (.getfield 25, 3) := by decide +kernel
theorem dX10_fitsAllNotes_41 : decode cX10_fitsAllNotes 41 = .ok (.iload_n 1, 1) := by decide +kernel
theorem dX10_fitsAllNotes_42 : decode cX10_fitsAllNotes 42 = .ok (.aaload, 1) := by decide +kernel
theorem dX10_fitsAllNotes_43 : decode cX10_fitsAllNotes 43 = .ok (.aload_n 3, 1) := by decide +kernel
theorem dX10_fitsAllNotes_44 : decode cX10_fitsAllNotes 44 = .ok (.iload 5, 2) := by decide +kernel
theorem dX10_fitsAllNotes_46 : decode cX10_fitsAllNotes 46 = .ok (.iconst 1, 1) := by decide +kernel
theorem dX10_fitsAllNotes_47 : decode cX10_fitsAllNotes 47 = .ok (.iadd, 1) := by decide +kernel
theorem dX10_fitsAllNotes_48 : decode cX10_fitsAllNotes 48 = .ok (.iaload, 1) := by decide +kernel
theorem dX10_fitsAllNotes_49 : decode cX10_fitsAllNotes 49 = .ok (.iload 6, 2) := by decide +kernel
theorem dX10_fitsAllNotes_51 : decode cX10_fitsAllNotes 51 = .ok (.invokevirtual 165, 3) := by decide +kernel
theorem dX10_fitsAllNotes_54 : decode cX10_fitsAllNotes 54 = .ok (.aload_n 3, 1) := by decide +kernel
theorem dX10_fitsAllNotes_55 : decode cX10_fitsAllNotes 55 = .ok (.iload 5, 2) := by decide +kernel
theorem dX10_fitsAllNotes_57 : decode cX10_fitsAllNotes 57 = .ok (.iconst 3, 1) := by decide +kernel
theorem dX10_fitsAllNotes_58 : decode cX10_fitsAllNotes 58 = .ok (.iadd, 1) := by decide +kernel
theorem dX10_fitsAllNotes_59 : decode cX10_fitsAllNotes 59 = .ok (.iaload, 1) := by decide +kernel
theorem dX10_fitsAllNotes_60 : decode cX10_fitsAllNotes 60 = .ok (.if_icmp .ne 27, 3) := by decide +kernel
theorem dX10_fitsAllNotes_63 : decode cX10_fitsAllNotes 63 = .ok (.aload_n 0, 1) := by decide +kernel
theorem dX10_fitsAllNotes_64 : decode cX10_fitsAllNotes 64 = .ok (.getfield 25, 3) := by decide +kernel
theorem dX10_fitsAllNotes_67 : decode cX10_fitsAllNotes 67 = .ok (.iload_n 1, 1) := by decide +kernel
theorem dX10_fitsAllNotes_68 : decode cX10_fitsAllNotes 68 = .ok (.aaload, 1) := by decide +kernel
theorem dX10_fitsAllNotes_69 : decode cX10_fitsAllNotes 69 = .ok (.iload 6, 2) := by decide +kernel
theorem dX10_fitsAllNotes_71 : decode cX10_fitsAllNotes 71 = .ok (.invokevirtual 168, 3) := by decide +kernel
theorem dX10_fitsAllNotes_74 : decode cX10_fitsAllNotes 74 = .ok (.aload_n 3, 1) := by decide +kernel
theorem dX10_fitsAllNotes_75 : decode cX10_fitsAllNotes 75 = .ok (.iload 5, 2) := by decide +kernel
theorem dX10_fitsAllNotes_77 : decode cX10_fitsAllNotes 77 = .ok (.iconst 4, 1) := by decide +kernel
theorem dX10_fitsAllNotes_78 : decode cX10_fitsAllNotes 78 = .ok (.iadd, 1) := by decide +kernel
theorem dX10_fitsAllNotes_79 : decode cX10_fitsAllNotes 79 = .ok (.iaload, 1) := by decide +kernel
theorem dX10_fitsAllNotes_80 : decode cX10_fitsAllNotes 80 = .ok (.if_icmp .ne 7, 3) := by decide +kernel
theorem dX10_fitsAllNotes_83 : decode cX10_fitsAllNotes 83 = .ok (.iconst 1, 1) := by decide +kernel
theorem dX10_fitsAllNotes_84 : decode cX10_fitsAllNotes 84 = .ok (.goto 4, 3) := by decide +kernel
theorem dX10_fitsAllNotes_87 : decode cX10_fitsAllNotes 87 = .ok (.iconst 0, 1) := by decide +kernel
theorem dX10_fitsAllNotes_88 : decode cX10_fitsAllNotes 88 = .ok (.istore 7, 2) := by decide +kernel
theorem dX10_fitsAllNotes_90 : decode cX10_fitsAllNotes 90 = .ok (.aload_n 3, 1) := by decide +kernel
theorem dX10_fitsAllNotes_91 : decode cX10_fitsAllNotes 91 = .ok (.iload 5, 2) := by decide +kernel
theorem dX10_fitsAllNotes_93 : decode cX10_fitsAllNotes 93 = .ok (.iaload, 1) := by decide +kernel
theorem dX10_fitsAllNotes_94 : decode cX10_fitsAllNotes 94 = .ok (.iload_n 2, 1) := by decide +kernel
theorem dX10_fitsAllNotes_95 : decode cX10_fitsAllNotes 95 = .ok (.if_icmp .ne 10, 3) := by decide +kernel
theorem dX10_fitsAllNotes_98 : decode cX10_fitsAllNotes 98 = .ok (.iload 7, 2) := by decide +kernel
theorem dX10_fitsAllNotes_100 : decode cX10_fitsAllNotes 100 = .ok (.ifCond .ne 5, 3) := by decide +kernel
theorem dX10_fitsAllNotes_103 : decode cX10_fitsAllNotes 103 = .ok (.iconst 0, 1) := by decide +kernel
theorem dX10_fitsAllNotes_104 : decode cX10_fitsAllNotes 104 = .ok (.ireturn, 1) := by decide +kernel
theorem dX10_fitsAllNotes_105 : decode cX10_fitsAllNotes 105 = .ok (.iinc 4 1, 3) := by decide +kernel
theorem dX10_fitsAllNotes_108 : decode cX10_fitsAllNotes 108 = .ok (.goto (-97), 3) := by decide +kernel
theorem dX10_fitsAllNotes_111 : decode cX10_fitsAllNotes 111 = .ok (.iconst 1, 1) := by decide +kernel
theorem dX10_fitsAllNotes_112 : decode cX10_fitsAllNotes 112 = .ok (.ireturn, 1) := by decide +kernel
theorem dX10_mostAlike_0 : decode cX10_mostAlike 0 = .ok (.iconst 0, 1) := by decide +kernel
theorem dX10_mostAlike_1 : decode cX10_mostAlike 1 = .ok (.istore_n 3, 1) := by decide +kernel
theorem dX10_mostAlike_2 : decode cX10_mostAlike 2 = .ok (.iload_n 3, 1) := by decide +kernel
theorem dX10_mostAlike_3 : decode cX10_mostAlike 3 = .ok (.bipush 6, 2) := by decide +kernel
theorem dX10_mostAlike_5 : decode cX10_mostAlike 5 = .ok (.if_icmp .ge 54, 3) := by decide +kernel
theorem dX10_mostAlike_8 : decode cX10_mostAlike 8 = .ok (.aload_n 0, 1) := by decide +kernel
theorem dX10_mostAlike_9 : decode cX10_mostAlike 9 = .ok (.getfield 71, 3) := by decide +kernel
theorem dX10_mostAlike_12 : decode cX10_mostAlike 12 = .ok (.iload_n 3, 1) := by decide +kernel
theorem dX10_mostAlike_13 : decode cX10_mostAlike 13 = .ok (.aload_n 0, 1) := by decide +kernel
theorem dX10_mostAlike_14 : decode cX10_mostAlike 14 = .ok (.getfield 25, 3) := by decide +kernel
theorem dX10_mostAlike_17 : decode cX10_mostAlike 17 = .ok (.iload_n 3, 1) := by decide +kernel
theorem dX10_mostAlike_18 : decode cX10_mostAlike 18 = .ok (.aaload, 1) := by decide +kernel
theorem dX10_mostAlike_19 : decode cX10_mostAlike 19 = .ok (.iload_n 2, 1) := by decide +kernel
theorem dX10_mostAlike_20 : decode cX10_mostAlike 20 = .ok (.aload_n 0, 1) := by decide +kernel
theorem dX10_mostAlike_21 : decode cX10_mostAlike 21 = .ok (.getfield 34, 3) := by decide +kernel
theorem dX10_mostAlike_24 : decode cX10_mostAlike 24 = .ok (.getfield 142, 3) := by decide +kernel
theorem dX10_mostAlike_27 : decode cX10_mostAlike 27 = .ok (.invokevirtual 165, 3) := by decide +kernel
theorem dX10_mostAlike_30 : decode cX10_mostAlike 30 = .ok (.iastore, 1) := by decide +kernel
theorem dX10_mostAlike_31 : decode cX10_mostAlike 31 = .ok (.aload_n 0, 1) := by decide +kernel
theorem dX10_mostAlike_32 : decode cX10_mostAlike 32 = .ok (.getfield 75, 3) := by decide +kernel
theorem dX10_mostAlike_35 : decode cX10_mostAlike 35 = .ok (.iload_n 3, 1) := by decide +kernel
theorem dX10_mostAlike_36 : decode cX10_mostAlike 36 = .ok (.aload_n 0, 1) := by decide +kernel
theorem dX10_mostAlike_37 : decode cX10_mostAlike 37 = .ok (.getfield 25, 3) := by decide +kernel
theorem dX10_mostAlike_40 : decode cX10_mostAlike 40 = .ok (.iload_n 3, 1) := by decide +kernel
theorem dX10_mostAlike_41 : decode cX10_mostAlike 41 = .ok (.aaload, 1) := by decide +kernel
theorem dX10_mostAlike_42 : decode cX10_mostAlike 42 = .ok (.aload_n 0, 1) := by decide +kernel
theorem dX10_mostAlike_43 : decode cX10_mostAlike 43 = .ok (.getfield 34, 3) := by decide +kernel
theorem dX10_mostAlike_46 : decode cX10_mostAlike 46 = .ok (.getfield 142, 3) := by decide +kernel
theorem dX10_mostAlike_49 : decode cX10_mostAlike 49 = .ok (.invokevirtual 168, 3) := by decide +kernel
theorem dX10_mostAlike_52 : decode cX10_mostAlike 52 = .ok (.iastore, 1) := by decide +kernel
theorem dX10_mostAlike_53 : decode cX10_mostAlike 53 = .ok (.iinc 3 1, 3) := by decide +kernel
theorem dX10_mostAlike_56 : decode cX10_mostAlike 56 = .ok (.goto (-54), 3) := by decide +kernel
theorem dX10_mostAlike_59 : decode cX10_mostAlike 59 = .ok (.iconst 0, 1) := by decide +kernel
theorem dX10_mostAlike_60 : decode cX10_mostAlike 60 = .ok (.istore_n 3, 1) := by decide +kernel
theorem dX10_mostAlike_61 : decode cX10_mostAlike 61 = .ok (.iconst 0, 1) := by decide +kernel
theorem dX10_mostAlike_62 : decode cX10_mostAlike 62 = .ok (.istore 4, 2) := by decide +kernel
theorem dX10_mostAlike_64 : decode cX10_mostAlike 64 = .ok (.iload 4, 2) := by decide +kernel
theorem dX10_mostAlike_66 : decode cX10_mostAlike 66 = .ok (.bipush 6, 2) := by decide +kernel
theorem dX10_mostAlike_68 : decode cX10_mostAlike 68 = .ok (.if_icmp .ge 99, 3) := by decide +kernel
theorem dX10_mostAlike_71 : decode cX10_mostAlike 71 = .ok (.iconst 0, 1) := by decide +kernel
theorem dX10_mostAlike_72 : decode cX10_mostAlike 72 = .ok (.istore 5, 2) := by decide +kernel
theorem dX10_mostAlike_74 : decode cX10_mostAlike 74 = .ok (.iconst 0, 1) := by decide +kernel
theorem dX10_mostAlike_75 : decode cX10_mostAlike 75 = .ok (.istore 6, 2) := by decide +kernel
theorem dX10_mostAlike_77 : decode cX10_mostAlike 77 = .ok (.iload 6, 2) := by decide +kernel
theorem dX10_mostAlike_79 : decode cX10_mostAlike 79 = .ok (.bipush 6, 2) := by decide +kernel
theorem dX10_mostAlike_81 : decode cX10_mostAlike 81 = .ok (.if_icmp .ge 73, 3) := by decide +kernel
theorem dX10_mostAlike_84 : decode cX10_mostAlike 84 = .ok (.iload_n 1, 1) := by decide +kernel
theorem dX10_mostAlike_85 : decode cX10_mostAlike 85 = .ok (.iload 4, 2) := by decide +kernel
theorem dX10_mostAlike_87 : decode cX10_mostAlike 87 = .ok (.ishr, 1) := by decide +kernel
theorem dX10_mostAlike_88 : decode cX10_mostAlike 88 = .ok (.iload_n 1, 1) := by decide +kernel
theorem dX10_mostAlike_89 : decode cX10_mostAlike 89 = .ok (.iload 6, 2) := by decide +kernel
theorem dX10_mostAlike_91 : decode cX10_mostAlike 91 = .ok (.ishr, 1) := by decide +kernel
theorem dX10_mostAlike_92 : decode cX10_mostAlike 92 = .ok (.iand, 1) := by decide +kernel
theorem dX10_mostAlike_93 : decode cX10_mostAlike 93 = .ok (.iconst 1, 1) := by decide +kernel
theorem dX10_mostAlike_94 : decode cX10_mostAlike 94 = .ok (.iand, 1) := by decide +kernel
theorem dX10_mostAlike_95 : decode cX10_mostAlike 95 = .ok (.iconst 1, 1) := by decide +kernel
theorem dX10_mostAlike_96 : decode cX10_mostAlike 96 = .ok (.if_icmp .ne 7, 3) := by decide +kernel
theorem dX10_mostAlike_99 : decode cX10_mostAlike 99 = .ok (.iconst 1, 1) := by decide +kernel
theorem dX10_mostAlike_100 : decode cX10_mostAlike 100 = .ok (.goto 4, 3) := by decide +kernel
theorem dX10_mostAlike_103 : decode cX10_mostAlike 103 = .ok (.iconst 0, 1) := by decide +kernel
theorem dX10_mostAlike_104 : decode cX10_mostAlike 104 = .ok (.istore 7, 2) := by decide +kernel
theorem dX10_mostAlike_106 : decode cX10_mostAlike 106 = .ok (.iload 7, 2) := by decide +kernel
theorem dX10_mostAlike_108 : decode cX10_mostAlike 108 = .ok (.ifCond .eq 40, 3) := by decide +kernel
theorem dX10_mostAlike_111 : decode cX10_mostAlike 111 = .ok (.aload_n 0, 1) := by decide +kernel
theorem dX10_mostAlike_112 : decode cX10_mostAlike 112 = .ok (.getfield 71, 3) := by decide +kernel
theorem dX10_mostAlike_115 : decode cX10_mostAlike 115 = .ok (.iload 4, 2) := by decide +kernel
theorem dX10_mostAlike_117 : decode cX10_mostAlike 117 = .ok (.iaload, 1) := by decide +kernel
theorem dX10_mostAlike_118 : decode cX10_mostAlike 118 = .ok (.aload_n 0, 1) := by decide +kernel
theorem dX10_mostAlike_119 : decode cX10_mostAlike 119 = .ok (.getfield 71, 3) := by decide +kernel
theorem dX10_mostAlike_122 : decode cX10_mostAlike 122 = .ok (.iload 6, 2) := by decide +kernel
theorem dX10_mostAlike_124 : decode cX10_mostAlike 124 = .ok (.iaload, 1) := by decide +kernel
theorem dX10_mostAlike_125 : decode cX10_mostAlike 125 = .ok (.if_icmp .ne 23, 3) := by decide +kernel
theorem dX10_mostAlike_128 : decode cX10_mostAlike 128 = .ok (.aload_n 0, 1) := by decide +kernel
theorem dX10_mostAlike_129 : decode cX10_mostAlike 129 = .ok (.getfield 75, 3) := by decide +kernel
theorem dX10_mostAlike_132 : decode cX10_mostAlike 132 = .ok (.iload 4, 2) := by decide +kernel
theorem dX10_mostAlike_134 : decode cX10_mostAlike 134 = .ok (.iaload, 1) := by decide +kernel
theorem dX10_mostAlike_135 : decode cX10_mostAlike 135 = .ok (.aload_n 0, 1) := by decide +kernel
theorem dX10_mostAlike_136 : decode cX10_mostAlike 136 = .ok (.getfield 75, 3) := by decide +kernel
theorem dX10_mostAlike_139 : decode cX10_mostAlike 139 = .ok (.iload 6, 2) := by decide +kernel
theorem dX10_mostAlike_141 : decode cX10_mostAlike 141 = .ok (.iaload, 1) := by decide +kernel
theorem dX10_mostAlike_142 : decode cX10_mostAlike 142 = .ok (.if_icmp .ne 6, 3) := by decide +kernel
theorem dX10_mostAlike_145 : decode cX10_mostAlike 145 = .ok (.iinc 5 1, 3) := by decide +kernel
theorem dX10_mostAlike_148 : decode cX10_mostAlike 148 = .ok (.iinc 6 1, 3) := by decide +kernel
theorem dX10_mostAlike_151 : decode cX10_mostAlike 151 = .ok (.goto (-74), 3) := by decide +kernel
theorem dX10_mostAlike_154 : decode cX10_mostAlike 154 = .ok (.iload_n 3, 1) := by decide +kernel
theorem dX10_mostAlike_155 : decode cX10_mostAlike 155 = .ok (.iload 5, 2) := by decide +kernel
theorem dX10_mostAlike_157 : decode cX10_mostAlike 157 = .ok (.invokestatic 284, 3) := by decide +kernel
theorem dX10_mostAlike_160 : decode cX10_mostAlike 160 = .ok (.istore_n 3, 1) := by decide +kernel
theorem dX10_mostAlike_161 : decode cX10_mostAlike 161 = .ok (.iinc 4 1, 3) := by decide +kernel
theorem dX10_mostAlike_164 : decode cX10_mostAlike 164 = .ok (.goto (-100), 3) := by decide +kernel
theorem dX10_mostAlike_167 : decode cX10_mostAlike 167 = .ok (.iload_n 3, 1) := by decide +kernel
theorem dX10_mostAlike_168 : decode cX10_mostAlike 168 = .ok (.ireturn, 1) := by decide +kernel
theorem dX10_mayHaveBeenPutIn_0 : decode cX10_mayHaveBeenPutIn 0 = .ok (.iconst 0, 1) := by decide +kernel
theorem dX10_mayHaveBeenPutIn_1 : decode cX10_mayHaveBeenPutIn 1 = .ok (.istore_n 2, 1) := by decide +kernel
theorem dX10_mayHaveBeenPutIn_2 : decode cX10_mayHaveBeenPutIn 2 = .ok (.iload_n 2, 1) := by decide +kernel
theorem dX10_mayHaveBeenPutIn_3 : decode cX10_mayHaveBeenPutIn 3 = .ok (.aload_n 0, 1) := by decide +kernel
theorem dX10_mayHaveBeenPutIn_4 : decode cX10_mayHaveBeenPutIn 4 = .ok (.getfield 34, 3) := by decide +kernel
theorem dX10_mayHaveBeenPutIn_7 : decode cX10_mayHaveBeenPutIn 7 = .ok (.getfield 215, 3) := by decide +kernel
theorem dX10_mayHaveBeenPutIn_10 : decode cX10_mayHaveBeenPutIn 10 = .ok (.if_icmp .ge 64, 3) := by decide +kernel
theorem dX10_mayHaveBeenPutIn_13 : decode cX10_mayHaveBeenPutIn 13 = .ok (.iload_n 2, 1) := by decide +kernel
theorem dX10_mayHaveBeenPutIn_14 : decode cX10_mayHaveBeenPutIn 14 = .ok (.iconst 3, 1) := by decide +kernel
theorem dX10_mayHaveBeenPutIn_15 : decode cX10_mayHaveBeenPutIn 15 = .ok (.imul, 1) := by decide +kernel
theorem dX10_mayHaveBeenPutIn_16 : decode cX10_mayHaveBeenPutIn 16 = .ok (.istore_n 3, 1) := by decide +kernel
theorem dX10_mayHaveBeenPutIn_17 : decode cX10_mayHaveBeenPutIn 17 = .ok (.aload_n 0, 1) := by decide +kernel
theorem dX10_mayHaveBeenPutIn_18 : decode cX10_mayHaveBeenPutIn 18 = .ok (.getfield 54, 3) := by decide +kernel
theorem dX10_mayHaveBeenPutIn_21 : decode cX10_mayHaveBeenPutIn 21 = .ok (.aload_n 0, 1) := by decide +kernel
theorem dX10_mayHaveBeenPutIn_22 : decode cX10_mayHaveBeenPutIn 22 = .ok (.getfield 34, 3) := by decide +kernel
theorem dX10_mayHaveBeenPutIn_25 : decode cX10_mayHaveBeenPutIn 25 = .ok (.getfield 269, 3) := by decide +kernel
theorem dX10_mayHaveBeenPutIn_28 : decode cX10_mayHaveBeenPutIn 28 = .ok (.iload_n 3, 1) := by decide +kernel
theorem dX10_mayHaveBeenPutIn_29 : decode cX10_mayHaveBeenPutIn 29 = .ok (.iaload, 1) := by decide +kernel
theorem dX10_mayHaveBeenPutIn_30 : decode cX10_mayHaveBeenPutIn 30 = .ok (.iload_n 1, 1) := by decide +kernel
theorem dX10_mayHaveBeenPutIn_31 : decode cX10_mayHaveBeenPutIn 31 = .ok (.aload_n 0, 1) := by decide +kernel
theorem dX10_mayHaveBeenPutIn_32 : decode cX10_mayHaveBeenPutIn 32 = .ok (.getfield 34, 3) := by decide +kernel
theorem dX10_mayHaveBeenPutIn_35 : decode cX10_mayHaveBeenPutIn 35 = .ok (.getfield 269, 3) := by decide +kernel
theorem dX10_mayHaveBeenPutIn_38 : decode cX10_mayHaveBeenPutIn 38 = .ok (.iload_n 3, 1) := by decide +kernel
theorem dX10_mayHaveBeenPutIn_39 : decode cX10_mayHaveBeenPutIn 39 = .ok (.iconst 1, 1) := by decide +kernel
theorem dX10_mayHaveBeenPutIn_40 : decode cX10_mayHaveBeenPutIn 40 = .ok (.iadd, 1) := by decide +kernel
theorem dX10_mayHaveBeenPutIn_41 : decode cX10_mayHaveBeenPutIn 41 = .ok (.iaload, 1) := by decide +kernel
theorem dX10_mayHaveBeenPutIn_42 : decode cX10_mayHaveBeenPutIn 42 = .ok (.invokevirtual 177, 3) := by decide +kernel
theorem dX10_mayHaveBeenPutIn_45 : decode cX10_mayHaveBeenPutIn 45 = .ok (.aload_n 0, 1) := by decide +kernel
theorem dX10_mayHaveBeenPutIn_46 : decode cX10_mayHaveBeenPutIn 46 = .ok (.getfield 54, 3) := by decide +kernel
theorem dX10_mayHaveBeenPutIn_49 : decode cX10_mayHaveBeenPutIn 49 = .ok (.getfield 180, 3) := by decide +kernel
theorem dX10_mayHaveBeenPutIn_52 : decode cX10_mayHaveBeenPutIn 52 = .ok (.aload_n 0, 1) := by decide +kernel
theorem dX10_mayHaveBeenPutIn_53 : decode cX10_mayHaveBeenPutIn 53 = .ok (.getfield 34, 3) := by decide +kernel
theorem dX10_mayHaveBeenPutIn_56 : decode cX10_mayHaveBeenPutIn 56 = .ok (.getfield 269, 3) := by decide +kernel
theorem dX10_mayHaveBeenPutIn_59 : decode cX10_mayHaveBeenPutIn 59 = .ok (.iload_n 3, 1) := by decide +kernel
theorem dX10_mayHaveBeenPutIn_60 : decode cX10_mayHaveBeenPutIn 60 = .ok (.iconst 2, 1) := by decide +kernel
theorem dX10_mayHaveBeenPutIn_61 : decode cX10_mayHaveBeenPutIn 61 = .ok (.iadd, 1) := by decide +kernel
theorem dX10_mayHaveBeenPutIn_62 : decode cX10_mayHaveBeenPutIn 62 = .ok (.iaload, 1) := by decide +kernel
theorem dX10_mayHaveBeenPutIn_63 : decode cX10_mayHaveBeenPutIn 63 = .ok (.if_icmp .eq 5, 3) := by decide +kernel
theorem dX10_mayHaveBeenPutIn_66 : decode cX10_mayHaveBeenPutIn 66 = .ok (.iconst 0, 1) := by decide +kernel
theorem dX10_mayHaveBeenPutIn_67 : decode cX10_mayHaveBeenPutIn 67 = .ok (.ireturn, 1) := by decide +kernel
theorem dX10_mayHaveBeenPutIn_68 : decode cX10_mayHaveBeenPutIn 68 = .ok (.iinc 2 1, 3) := by decide +kernel
theorem dX10_mayHaveBeenPutIn_71 : decode cX10_mayHaveBeenPutIn 71 = .ok (.goto (-69), 3) := by decide +kernel
theorem dX10_mayHaveBeenPutIn_74 : decode cX10_mayHaveBeenPutIn 74 = .ok (.iconst 1, 1) := by decide +kernel
theorem dX10_mayHaveBeenPutIn_75 : decode cX10_mayHaveBeenPutIn 75 = .ok (.ireturn, 1) := by decide +kernel
theorem dX10_allUnlike_0 : decode cX10_allUnlike 0 = .ok (.iload_n 0, 1) := by decide +kernel
theorem dX10_allUnlike_1 : decode cX10_allUnlike 1 = .ok (.iload_n 1, 1) := by decide +kernel
theorem dX10_allUnlike_2 : decode cX10_allUnlike 2 = .ok (.if_icmp .eq 32, 3) := by decide +kernel
theorem dX10_allUnlike_5 : decode cX10_allUnlike 5 = .ok (.iload_n 0, 1) := by decide +kernel
theorem dX10_allUnlike_6 : decode cX10_allUnlike 6 = .ok (.iload_n 2, 1) := by decide +kernel
theorem dX10_allUnlike_7 : decode cX10_allUnlike 7 = .ok (.if_icmp .eq 27, 3) := by decide +kernel
theorem dX10_allUnlike_10 : decode cX10_allUnlike 10 = .ok (.iload_n 0, 1) := by decide +kernel
theorem dX10_allUnlike_11 : decode cX10_allUnlike 11 = .ok (.iload_n 3, 1) := by decide +kernel
theorem dX10_allUnlike_12 : decode cX10_allUnlike 12 = .ok (.if_icmp .eq 22, 3) := by decide +kernel
theorem dX10_allUnlike_15 : decode cX10_allUnlike 15 = .ok (.iload_n 1, 1) := by decide +kernel
theorem dX10_allUnlike_16 : decode cX10_allUnlike 16 = .ok (.iload_n 2, 1) := by decide +kernel
theorem dX10_allUnlike_17 : decode cX10_allUnlike 17 = .ok (.if_icmp .eq 17, 3) := by decide +kernel
theorem dX10_allUnlike_20 : decode cX10_allUnlike 20 = .ok (.iload_n 1, 1) := by decide +kernel
theorem dX10_allUnlike_21 : decode cX10_allUnlike 21 = .ok (.iload_n 3, 1) := by decide +kernel
theorem dX10_allUnlike_22 : decode cX10_allUnlike 22 = .ok (.if_icmp .eq 12, 3) := by decide +kernel
theorem dX10_allUnlike_25 : decode cX10_allUnlike 25 = .ok (.iload_n 2, 1) := by decide +kernel
theorem dX10_allUnlike_26 : decode cX10_allUnlike 26 = .ok (.iload_n 3, 1) := by decide +kernel
theorem dX10_allUnlike_27 : decode cX10_allUnlike 27 = .ok (.if_icmp .eq 7, 3) := by decide +kernel
theorem dX10_allUnlike_30 : decode cX10_allUnlike 30 = .ok (.iconst 1, 1) := by decide +kernel
theorem dX10_allUnlike_31 : decode cX10_allUnlike 31 = .ok (.goto 4, 3) := by decide +kernel
theorem dX10_allUnlike_34 : decode cX10_allUnlike 34 = .ok (.iconst 0, 1) := by decide +kernel
theorem dX10_allUnlike_35 : decode cX10_allUnlike 35 = .ok (.ireturn, 1) := by decide +kernel
theorem dX10_gain_0 : decode cX10_gain 0 = .ok (.iload_n 0, 1) := by decide +kernel
theorem dX10_gain_1 : decode cX10_gain 1 = .ok (.iload_n 1, 1) := by decide +kernel
theorem dX10_gain_2 : decode cX10_gain 2 = .ok (.ishr, 1) := by decide +kernel
theorem dX10_gain_3 : decode cX10_gain 3 = .ok (.iconst 1, 1) := by decide +kernel
theorem dX10_gain_4 : decode cX10_gain 4 = .ok (.iand, 1) := by decide +kernel
theorem dX10_gain_5 : decode cX10_gain 5 = .ok (.iconst 1, 1) := by decide +kernel
theorem dX10_gain_6 : decode cX10_gain 6 = .ok (.if_icmp .ne 7, 3) := by decide +kernel
theorem dX10_gain_9 : decode cX10_gain 9 = .ok (.iconst 1, 1) := by decide +kernel
theorem dX10_gain_10 : decode cX10_gain 10 = .ok (.goto 4, 3) := by decide +kernel
theorem dX10_gain_13 : decode cX10_gain 13 = .ok (.iconst 0, 1) := by decide +kernel
theorem dX10_gain_14 : decode cX10_gain 14 = .ok (.istore_n 3, 1) := by decide +kernel
theorem dX10_gain_15 : decode cX10_gain 15 = .ok (.iload_n 2, 1) := by decide +kernel
theorem dX10_gain_16 : decode cX10_gain 16 = .ok (.iload_n 0, 1) := by decide +kernel
theorem dX10_gain_17 : decode cX10_gain 17 = .ok (.ishr, 1) := by decide +kernel
theorem dX10_gain_18 : decode cX10_gain 18 = .ok (.iconst 1, 1) := by decide +kernel
theorem dX10_gain_19 : decode cX10_gain 19 = .ok (.iand, 1) := by decide +kernel
theorem dX10_gain_20 : decode cX10_gain 20 = .ok (.iconst 1, 1) := by decide +kernel
theorem dX10_gain_21 : decode cX10_gain 21 = .ok (.if_icmp .ne 7, 3) := by decide +kernel
theorem dX10_gain_24 : decode cX10_gain 24 = .ok (.iconst 1, 1) := by decide +kernel
theorem dX10_gain_25 : decode cX10_gain 25 = .ok (.goto 4, 3) := by decide +kernel
theorem dX10_gain_28 : decode cX10_gain 28 = .ok (.iconst 0, 1) := by decide +kernel
theorem dX10_gain_29 : decode cX10_gain 29 = .ok (.istore 4, 2) := by decide +kernel
theorem dX10_gain_31 : decode cX10_gain 31 = .ok (.iload_n 3, 1) := by decide +kernel
theorem dX10_gain_32 : decode cX10_gain 32 = .ok (.ifCond .eq 14, 3) := by decide +kernel
theorem dX10_gain_35 : decode cX10_gain 35 = .ok (.iload 4, 2) := by decide +kernel
theorem dX10_gain_37 : decode cX10_gain 37 = .ok (.ifCond .eq 7, 3) := by decide +kernel
theorem dX10_gain_40 : decode cX10_gain 40 = .ok (.iconst 2, 1) := by decide +kernel
theorem dX10_gain_41 : decode cX10_gain 41 = .ok (.goto 4, 3) := by decide +kernel
theorem dX10_gain_44 : decode cX10_gain 44 = .ok (.iconst (-1), 1) := by decide +kernel
theorem dX10_gain_45 : decode cX10_gain 45 = .ok (.ireturn, 1) := by decide +kernel
theorem dX10_gain_46 : decode cX10_gain 46 = .ok (.iload 4, 2) := by decide +kernel
theorem dX10_gain_48 : decode cX10_gain 48 = .ok (.ifCond .eq 7, 3) := by decide +kernel
theorem dX10_gain_51 : decode cX10_gain 51 = .ok (.iconst 1, 1) := by decide +kernel
theorem dX10_gain_52 : decode cX10_gain 52 = .ok (.goto 4, 3) := by decide +kernel
theorem dX10_gain_55 : decode cX10_gain 55 = .ok (.iconst 0, 1) := by decide +kernel
theorem dX10_gain_56 : decode cX10_gain 56 = .ok (.ireturn, 1) := by decide +kernel
theorem dX10_keepChanceToStand_0 : decode cX10_keepChanceToStand 0 = .ok (.iload_n 1, 1) := by decide +kernel
theorem dX10_keepChanceToStand_1 : decode cX10_keepChanceToStand 1 = .ok (.istore_n 3, 1) := by decide +kernel
theorem dX10_keepChanceToStand_2 : decode cX10_keepChanceToStand 2 = .ok (.bipush 10, 2) := by decide +kernel
theorem dX10_keepChanceToStand_4 : decode cX10_keepChanceToStand 4 = .ok (.istore 4, 2) := by decide +kernel
theorem dX10_keepChanceToStand_6 : decode cX10_keepChanceToStand 6 = .ok (.bipush 10, 2) := by decide +kernel
theorem dX10_keepChanceToStand_8 : decode cX10_keepChanceToStand 8 = .ok (.istore 5, 2) := by decide +kernel
theorem dX10_keepChanceToStand_10 : decode cX10_keepChanceToStand 10 = .ok (.iload 5, 2) := by decide +kernel
theorem dX10_keepChanceToStand_12 : decode cX10_keepChanceToStand 12 = .ok (.iconst 1, 1) := by decide +kernel
theorem dX10_keepChanceToStand_13 : decode cX10_keepChanceToStand 13 = .ok (.if_icmp .le 36, 3) := by decide +kernel
theorem dX10_keepChanceToStand_16 : decode cX10_keepChanceToStand 16 = .ok (.iload_n 3, 1) := by decide +kernel
theorem dX10_keepChanceToStand_17 : decode cX10_keepChanceToStand 17 = .ok (.iload 5, 2) := by decide +kernel
theorem dX10_keepChanceToStand_19 : decode cX10_keepChanceToStand 19 = .ok (.irem, 1) := by decide +kernel
theorem dX10_keepChanceToStand_20 : decode cX10_keepChanceToStand 20 = .ok (.ifCond .ne 23, 3) := by decide +kernel
theorem dX10_keepChanceToStand_23 : decode cX10_keepChanceToStand 23 = .ok (.iload 4, 2) := by decide +kernel
theorem dX10_keepChanceToStand_25 : decode cX10_keepChanceToStand 25 = .ok (.iload 5, 2) := by decide +kernel
theorem dX10_keepChanceToStand_27 : decode cX10_keepChanceToStand 27 = .ok (.irem, 1) := by decide +kernel
theorem dX10_keepChanceToStand_28 : decode cX10_keepChanceToStand 28 = .ok (.ifCond .ne 15, 3) := by decide +kernel
theorem dX10_keepChanceToStand_31 : decode cX10_keepChanceToStand 31 = .ok (.iload_n 3, 1) := by decide +kernel
theorem dX10_keepChanceToStand_32 : decode cX10_keepChanceToStand 32 = .ok (.iload 5, 2) := by decide +kernel
theorem dX10_keepChanceToStand_34 : decode cX10_keepChanceToStand 34 = .ok (.idiv, 1) := by decide +kernel
theorem dX10_keepChanceToStand_35 : decode cX10_keepChanceToStand 35 = .ok (.istore_n 3, 1) := by decide +kernel
theorem dX10_keepChanceToStand_36 : decode cX10_keepChanceToStand 36 = .ok (.iload 4, 2) := by decide +kernel
theorem dX10_keepChanceToStand_38 : decode cX10_keepChanceToStand 38 = .ok (.iload 5, 2) := by decide +kernel
theorem dX10_keepChanceToStand_40 : decode cX10_keepChanceToStand 40 = .ok (.idiv, 1) := by decide +kernel
theorem dX10_keepChanceToStand_41 : decode cX10_keepChanceToStand 41 = .ok (.istore 4, 2) := by decide +kernel
theorem dX10_keepChanceToStand_43 : decode cX10_keepChanceToStand 43 = .ok (.iinc 5 (-1), 3) := by decide +kernel
theorem dX10_keepChanceToStand_46 : decode cX10_keepChanceToStand 46 = .ok (.goto (-36), 3) := by decide +kernel
theorem dX10_keepChanceToStand_49 : decode cX10_keepChanceToStand 49 = .ok (.aload_n 0, 1) := by decide +kernel
theorem dX10_keepChanceToStand_50 : decode cX10_keepChanceToStand 50 = .ok (.lconst 1, 1) := by decide +kernel
theorem dX10_keepChanceToStand_51 : decode cX10_keepChanceToStand 51 = .ok (.putfield 78, 3) := by decide +kernel
theorem dX10_keepChanceToStand_54 : decode cX10_keepChanceToStand 54 = .ok (.aload_n 0, 1) := by decide +kernel
theorem dX10_keepChanceToStand_55 : decode cX10_keepChanceToStand 55 = .ok (.lconst 1, 1) := by decide +kernel
theorem dX10_keepChanceToStand_56 : decode cX10_keepChanceToStand 56 = .ok (.putfield 82, 3) := by decide +kernel
theorem dX10_keepChanceToStand_59 : decode cX10_keepChanceToStand 59 = .ok (.iconst 1, 1) := by decide +kernel
theorem dX10_keepChanceToStand_60 : decode cX10_keepChanceToStand 60 = .ok (.istore 5, 2) := by decide +kernel
theorem dX10_keepChanceToStand_62 : decode cX10_keepChanceToStand 62 = .ok (.iload 5, 2) := by decide +kernel
theorem dX10_keepChanceToStand_64 : decode cX10_keepChanceToStand 64 = .ok (.ldc_w 287, 3) := by decide +kernel
theorem dX10_keepChanceToStand_67 : decode cX10_keepChanceToStand 67 = .ok (.if_icmp .gt 42, 3) := by decide +kernel
theorem dX10_keepChanceToStand_70 : decode cX10_keepChanceToStand 70 = .ok (.iload 5, 2) := by decide +kernel
theorem dX10_keepChanceToStand_72 : decode cX10_keepChanceToStand 72 = .ok (.iload_n 2, 1) := by decide +kernel
theorem dX10_keepChanceToStand_73 : decode cX10_keepChanceToStand 73 = .ok (.if_icmp .gt 36, 3) := by decide +kernel
theorem dX10_keepChanceToStand_76 : decode cX10_keepChanceToStand 76 = .ok (.aload_n 0, 1) := by decide +kernel
theorem dX10_keepChanceToStand_77 : decode cX10_keepChanceToStand 77 = .ok (.dup, 1) := by decide +kernel
theorem dX10_keepChanceToStand_78 : decode cX10_keepChanceToStand 78 = .ok (.getfield 78, 3) := by decide +kernel
theorem dX10_keepChanceToStand_81 : decode cX10_keepChanceToStand 81 = .ok (.iload_n 3, 1) := by decide +kernel
theorem dX10_keepChanceToStand_82 : decode cX10_keepChanceToStand 82 = .ok (.i2l, 1) := by decide +kernel
theorem dX10_keepChanceToStand_83 : decode cX10_keepChanceToStand 83 = .ok (.lmul, 1) := by decide +kernel
theorem dX10_keepChanceToStand_84 : decode cX10_keepChanceToStand 84 = .ok (.putfield 78, 3) := by decide +kernel
theorem dX10_keepChanceToStand_87 : decode cX10_keepChanceToStand 87 = .ok (.aload_n 0, 1) := by decide +kernel
theorem dX10_keepChanceToStand_88 : decode cX10_keepChanceToStand 88 = .ok (.dup, 1) := by decide +kernel
theorem dX10_keepChanceToStand_89 : decode cX10_keepChanceToStand 89 = .ok (.getfield 82, 3) := by decide +kernel
theorem dX10_keepChanceToStand_92 : decode cX10_keepChanceToStand 92 = .ok (.iload 4, 2) := by decide +kernel
theorem dX10_keepChanceToStand_94 : decode cX10_keepChanceToStand 94 = .ok (.i2l, 1) := by decide +kernel
theorem dX10_keepChanceToStand_95 : decode cX10_keepChanceToStand 95 = .ok (.lmul, 1) := by decide +kernel
theorem dX10_keepChanceToStand_96 : decode cX10_keepChanceToStand 96 = .ok (.putfield 82, 3) := by decide +kernel
theorem dX10_keepChanceToStand_99 : decode cX10_keepChanceToStand 99 = .ok (.iload 5, 2) := by decide +kernel
theorem dX10_keepChanceToStand_101 : decode cX10_keepChanceToStand 101 = .ok (.bipush 10, 2) := by decide +kernel
theorem dX10_keepChanceToStand_103 : decode cX10_keepChanceToStand 103 = .ok (.imul, 1) := by decide +kernel
theorem dX10_keepChanceToStand_104 : decode cX10_keepChanceToStand 104 = .ok (.istore 5, 2) := by decide +kernel
theorem dX10_keepChanceToStand_106 : decode cX10_keepChanceToStand 106 = .ok (.goto (-44), 3) := by decide +kernel
theorem dX10_keepChanceToStand_109 : decode cX10_keepChanceToStand 109 = .ok (.return_, 1) := by decide +kernel
theorem dX10_drawn_0 : decode cX10_drawn 0 = .ok (.lload_n 0, 1) := by decide +kernel
theorem dX10_drawn_1 : decode cX10_drawn 1 = .ok (.ldc2_w 288, 3) := by decide +kernel
theorem dX10_drawn_4 : decode cX10_drawn 4 = .ok (.lmul, 1) := by decide +kernel
theorem dX10_drawn_5 : decode cX10_drawn 5 = .ok (.ldc2_w 290, 3) := by decide +kernel
theorem dX10_drawn_8 : decode cX10_drawn 8 = .ok (.ladd, 1) := by decide +kernel
theorem dX10_drawn_9 : decode cX10_drawn 9 = .ok (.ldc2_w 292, 3) := by decide +kernel
theorem dX10_drawn_12 : decode cX10_drawn 12 = .ok (.lrem, 1) := by decide +kernel
theorem dX10_drawn_13 : decode cX10_drawn 13 = .ok (.lreturn, 1) := by decide +kernel
