theorem dX11_came_0 : decode cX11_came 0 = .ok (.aload_n 0, 1) := by decide +kernel
theorem dX11_came_1 : decode cX11_came 1 = .ok (.iload_n 1, 1) := by decide +kernel
theorem dX11_came_2 : decode cX11_came 2 = .ok (.invokevirtual 124, 3) := by decide +kernel
theorem dX11_came_5 : decode cX11_came 5 = .ok (.ifCond .eq 22, 3) := by decide +kernel
theorem dX11_came_8 : decode cX11_came 8 = .ok (.iload_n 2, 1) := by decide +kernel
theorem dX11_came_9 : decode cX11_came 9 = .ok (.i2l, 1) := by decide +kernel
theorem dX11_came_10 : decode cX11_came 10 = .ok (.lconst 0, 1) := by decide +kernel
theorem dX11_came_11 : decode cX11_came 11 = .ok (.ldc2_w 64, 3) := by decide +kernel
theorem dX11_came_14 : decode cX11_came 14 = .ok (.invokestatic 56, 3) := by decide +kernel
theorem dX11_came_17 : decode cX11_came 17 = .ok (.ifCond .eq 10, 3) := by decide +kernel
theorem dX11_came_20 : decode cX11_came 20 = .ok (.iload_n 3, 1) := by decide +kernel
theorem dX11_came_21 : decode cX11_came 21 = .ok (.invokestatic 99, 3) := by decide +kernel
theorem dX11_came_24 : decode cX11_came 24 = .ok (.ifCond .ne 10, 3) := by decide +kernel
theorem dX11_came_27 : decode cX11_came 27 = .ok (.aload_n 0, 1) := by decide +kernel
theorem dX11_came_28 : decode cX11_came 28 = .ok (.bipush (-2), 2) := by decide +kernel
theorem dX11_came_30 : decode cX11_came 30 = .ok (.invokevirtual 66, 3) := by decide +kernel
theorem dX11_came_33 : decode cX11_came 33 = .ok (.ireturn, 1) := by decide +kernel
theorem dX11_came_34 : decode cX11_came 34 = .ok (.aload_n 0, 1) := by decide +kernel
theorem dX11_came_35 : decode cX11_came 35 = .ok (.getfield 7, 3) := by decide +kernel
theorem dX11_came_38 : decode cX11_came 38 = .ok (.iconst 4, 1) := by decide +kernel
theorem dX11_came_39 : decode cX11_came 39 = .ok (.iaload, 1) := by decide +kernel
theorem dX11_came_40 : decode cX11_came 40 = .ok (.bipush 6, 2) := by decide +kernel
theorem dX11_came_42 : decode cX11_came 42 = .ok (.if_icmp .ne 8, 3) := by decide +kernel
theorem dX11_came_45 : decode cX11_came 45 = .ok (.aload_n 0, 1) := by decide +kernel
theorem dX11_came_46 : decode cX11_came 46 = .ok (.invokevirtual 72, 3) := by decide +kernel
theorem dX11_came_49 : decode cX11_came 49 = .ok (.ireturn, 1) := by decide +kernel
theorem dX11_came_50 : decode cX11_came 50 = .ok (.bipush 50, 2) := by decide +kernel
theorem dX11_came_52 : decode cX11_came 52 = .ok (.iconst 3, 1) := by decide +kernel
theorem dX11_came_53 : decode cX11_came 53 = .ok (.aload_n 0, 1) := by decide +kernel
theorem dX11_came_54 : decode cX11_came 54 = .ok (.getfield 7, 3) := by decide +kernel
theorem dX11_came_57 : decode cX11_came 57 = .ok (.iconst 4, 1) := by decide +kernel
theorem dX11_came_58 : decode cX11_came 58 = .ok (.iaload, 1) := by decide +kernel
theorem dX11_came_59 : decode cX11_came 59 = .ok (.imul, 1) := by decide +kernel
theorem dX11_came_60 : decode cX11_came 60 = .ok (.iadd, 1) := by decide +kernel
theorem dX11_came_61 : decode cX11_came 61 = .ok (.istore 4, 2) := by decide +kernel
theorem dX11_came_63 : decode cX11_came 63 = .ok (.aload_n 0, 1) := by decide +kernel
theorem dX11_came_64 : decode cX11_came 64 = .ok (.getfield 7, 3) := by decide +kernel
theorem dX11_came_67 : decode cX11_came 67 = .ok (.iload 4, 2) := by decide +kernel
theorem dX11_came_69 : decode cX11_came 69 = .ok (.iload_n 1, 1) := by decide +kernel
theorem dX11_came_70 : decode cX11_came 70 = .ok (.iastore, 1) := by decide +kernel
theorem dX11_came_71 : decode cX11_came 71 = .ok (.aload_n 0, 1) := by decide +kernel
theorem dX11_came_72 : decode cX11_came 72 = .ok (.getfield 7, 3) := by decide +kernel
theorem dX11_came_75 : decode cX11_came 75 = .ok (.iload 4, 2) := by decide +kernel
theorem dX11_came_77 : decode cX11_came 77 = .ok (.iconst 1, 1) := by decide +kernel
theorem dX11_came_78 : decode cX11_came 78 = .ok (.iadd, 1) := by decide +kernel
theorem dX11_came_79 : decode cX11_came 79 = .ok (.iload_n 2, 1) := by decide +kernel
theorem dX11_came_80 : decode cX11_came 80 = .ok (.iastore, 1) := by decide +kernel
theorem dX11_came_81 : decode cX11_came 81 = .ok (.aload_n 0, 1) := by decide +kernel
theorem dX11_came_82 : decode cX11_came 82 = .ok (.getfield 7, 3) := by decide +kernel
theorem dX11_came_85 : decode cX11_came 85 = .ok (.iload 4, 2) := by decide +kernel
theorem dX11_came_87 : decode cX11_came 87 = .ok (.iconst 2, 1) := by decide +kernel
theorem dX11_came_88 : decode cX11_came 88 = .ok (.iadd, 1) := by decide +kernel
theorem dX11_came_89 : decode cX11_came 89 = .ok (.iload_n 3, 1) := by decide +kernel
theorem dX11_came_90 : decode cX11_came 90 = .ok (.iastore, 1) := by decide +kernel
theorem dX11_came_91 : decode cX11_came 91 = .ok (.aload_n 0, 1) := by decide +kernel
theorem dX11_came_92 : decode cX11_came 92 = .ok (.getfield 7, 3) := by decide +kernel
theorem dX11_came_95 : decode cX11_came 95 = .ok (.iconst 4, 1) := by decide +kernel
theorem dX11_came_96 : decode cX11_came 96 = .ok (.dup2, 1) := by decide +kernel
theorem dX11_came_97 : decode cX11_came 97 = .ok (.iaload, 1) := by decide +kernel
theorem dX11_came_98 : decode cX11_came 98 = .ok (.iconst 1, 1) := by decide +kernel
theorem dX11_came_99 : decode cX11_came 99 = .ok (.iadd, 1) := by decide +kernel
theorem dX11_came_100 : decode cX11_came 100 = .ok (.iastore, 1) := by decide +kernel
theorem dX11_came_101 : decode cX11_came 101 = .ok (.aload_n 0, 1) := by decide +kernel
theorem dX11_came_102 : decode cX11_came 102 = .ok (.getfield 7, 3) := by decide +kernel
theorem dX11_came_105 : decode cX11_came 105 = .ok (.iconst 4, 1) := by decide +kernel
theorem dX11_came_106 : decode cX11_came 106 = .ok (.iaload, 1) := by decide +kernel
theorem dX11_came_107 : decode cX11_came 107 = .ok (.ireturn, 1) := by decide +kernel
theorem dX11_forget_0 : decode cX11_forget 0 = .ok (.iload_n 1, 1) := by decide +kernel
theorem dX11_forget_1 : decode cX11_forget 1 = .ok (.i2l, 1) := by decide +kernel
theorem dX11_forget_2 : decode cX11_forget 2 = .ok (.lconst 0, 1) := by decide +kernel
theorem dX11_forget_3 : decode cX11_forget 3 = .ok (.lconst 1, 1) := by decide +kernel
theorem dX11_forget_4 : decode cX11_forget 4 = .ok (.invokestatic 56, 3) := by decide +kernel
theorem dX11_forget_7 : decode cX11_forget 7 = .ok (.ifCond .ne 10, 3) := by decide +kernel
theorem dX11_forget_10 : decode cX11_forget 10 = .ok (.aload_n 0, 1) := by decide +kernel
theorem dX11_forget_11 : decode cX11_forget 11 = .ok (.bipush (-2), 2) := by decide +kernel
theorem dX11_forget_13 : decode cX11_forget 13 = .ok (.invokevirtual 66, 3) := by decide +kernel
theorem dX11_forget_16 : decode cX11_forget 16 = .ok (.ireturn, 1) := by decide +kernel
theorem dX11_forget_17 : decode cX11_forget 17 = .ok (.aload_n 0, 1) := by decide +kernel
theorem dX11_forget_18 : decode cX11_forget 18 = .ok (.getfield 7, 3) := by decide +kernel
theorem dX11_forget_21 : decode cX11_forget 21 = .ok (.iconst 3, 1) := by decide +kernel
theorem dX11_forget_22 : decode cX11_forget 22 = .ok (.iload_n 1, 1) := by decide +kernel
theorem dX11_forget_23 : decode cX11_forget 23 = .ok (.iadd, 1) := by decide +kernel
theorem dX11_forget_24 : decode cX11_forget 24 = .ok (.iaload, 1) := by decide +kernel
theorem dX11_forget_25 : decode cX11_forget 25 = .ok (.istore_n 2, 1) := by decide +kernel
theorem dX11_forget_26 : decode cX11_forget 26 = .ok (.aload_n 0, 1) := by decide +kernel
theorem dX11_forget_27 : decode cX11_forget 27 = .ok (.getfield 7, 3) := by decide +kernel
theorem dX11_forget_30 : decode cX11_forget 30 = .ok (.iconst 3, 1) := by decide +kernel
theorem dX11_forget_31 : decode cX11_forget 31 = .ok (.iload_n 1, 1) := by decide +kernel
theorem dX11_forget_32 : decode cX11_forget 32 = .ok (.iadd, 1) := by decide +kernel
theorem dX11_forget_33 : decode cX11_forget 33 = .ok (.iconst 0, 1) := by decide +kernel
theorem dX11_forget_34 : decode cX11_forget 34 = .ok (.iastore, 1) := by decide +kernel
theorem dX11_forget_35 : decode cX11_forget 35 = .ok (.iload_n 2, 1) := by decide +kernel
theorem dX11_forget_36 : decode cX11_forget 36 = .ok (.ireturn, 1) := by decide +kernel
theorem dX11_kindsOf_0 : decode cX11_kindsOf 0 = .ok (.iconst 0, 1) := by decide +kernel
theorem dX11_kindsOf_1 : decode cX11_kindsOf 1 = .ok (.istore_n 2, 1) := by decide +kernel
theorem dX11_kindsOf_2 : decode cX11_kindsOf 2 = .ok (.iconst 0, 1) := by decide +kernel
theorem dX11_kindsOf_3 : decode cX11_kindsOf 3 = .ok (.istore_n 3, 1) := by decide +kernel
theorem dX11_kindsOf_4 : decode cX11_kindsOf 4 = .ok (.iload_n 3, 1) := by decide +kernel
theorem dX11_kindsOf_5 : decode cX11_kindsOf 5 = .ok (.bipush 6, 2) := by decide +kernel
theorem dX11_kindsOf_7 : decode cX11_kindsOf 7 = .ok (.if_icmp .ge 150, 3) := by decide +kernel
theorem dX11_kindsOf_10 : decode cX11_kindsOf 10 = .ok (.iconst 1, 1) := by decide +kernel
theorem dX11_kindsOf_11 : decode cX11_kindsOf 11 = .ok (.istore 4, 2) := by decide +kernel
theorem dX11_kindsOf_13 : decode cX11_kindsOf 13 = .ok (.iconst 0, 1) := by decide +kernel
theorem dX11_kindsOf_14 : decode cX11_kindsOf 14 = .ok (.istore 5, 2) := by decide +kernel
theorem dX11_kindsOf_16 : decode cX11_kindsOf 16 = .ok (.iload 5, 2) := by decide +kernel
theorem dX11_kindsOf_18 : decode cX11_kindsOf 18 = .ok (.aload_n 0, 1) := by decide +kernel
theorem dX11_kindsOf_19 : decode cX11_kindsOf 19 = .ok (.getfield 7, 3) := by decide +kernel
theorem dX11_kindsOf_22 : decode cX11_kindsOf 22 = .ok (.iconst 3, 1) := by decide +kernel
theorem dX11_kindsOf_23 : decode cX11_kindsOf 23 = .ok (.iaload, 1) := by decide +kernel
theorem dX11_kindsOf_24 : decode cX11_kindsOf 24 = .ok (.if_icmp .ge 112, 3) := by decide +kernel
theorem dX11_kindsOf_27 : decode cX11_kindsOf 27 = .ok (.bipush 20, 2) := by decide +kernel
theorem dX11_kindsOf_29 : decode cX11_kindsOf 29 = .ok (.iconst 5, 1) := by decide +kernel
theorem dX11_kindsOf_30 : decode cX11_kindsOf 30 = .ok (.iload 5, 2) := by decide +kernel
theorem dX11_kindsOf_32 : decode cX11_kindsOf 32 = .ok (.imul, 1) := by decide +kernel
theorem dX11_kindsOf_33 : decode cX11_kindsOf 33 = .ok (.iadd, 1) := by decide +kernel
theorem dX11_kindsOf_34 : decode cX11_kindsOf 34 = .ok (.istore 6, 2) := by decide +kernel
theorem dX11_kindsOf_36 : decode cX11_kindsOf 36 = .ok (.iload_n 3, 1) := by decide +kernel
theorem dX11_kindsOf_37 : decode cX11_kindsOf 37 = .ok (.aload_n 0, 1) := by decide +kernel
theorem dX11_kindsOf_38 : decode cX11_kindsOf 38 = .ok (.getfield 7, 3) := by decide +kernel
theorem dX11_kindsOf_41 : decode cX11_kindsOf 41 = .ok (.iload 6, 2) := by decide +kernel
theorem dX11_kindsOf_43 : decode cX11_kindsOf 43 = .ok (.iconst 1, 1) := by decide +kernel
theorem dX11_kindsOf_44 : decode cX11_kindsOf 44 = .ok (.iadd, 1) := by decide +kernel
theorem dX11_kindsOf_45 : decode cX11_kindsOf 45 = .ok (.iaload, 1) := by decide +kernel
theorem dX11_kindsOf_46 : decode cX11_kindsOf 46 = .ok (.aload_n 0, 1) := by decide +kernel
theorem dX11_kindsOf_47 : decode cX11_kindsOf 47 = .ok (.getfield 7, 3) := by decide +kernel
theorem dX11_kindsOf_50 : decode cX11_kindsOf 50 = .ok (.iload 6, 2) := by decide +kernel
theorem dX11_kindsOf_52 : decode cX11_kindsOf 52 = .ok (.iconst 2, 1) := by decide +kernel
theorem dX11_kindsOf_53 : decode cX11_kindsOf 53 = .ok (.iadd, 1) := by decide +kernel
theorem dX11_kindsOf_54 : decode cX11_kindsOf 54 = .ok (.iaload, 1) := by decide +kernel
theorem dX11_kindsOf_55 : decode cX11_kindsOf 55 = .ok (.invokestatic 102, 3) := by decide +kernel
theorem dX11_kindsOf_58 : decode cX11_kindsOf 58 = .ok (.aload_n 0, 1) := by decide +kernel
theorem dX11_kindsOf_59 : decode cX11_kindsOf 59 = .ok (.getfield 7, 3) := by decide +kernel
theorem dX11_kindsOf_62 : decode cX11_kindsOf 62 = .ok (.iload 6, 2) := by decide +kernel
theorem dX11_kindsOf_64 : decode cX11_kindsOf 64 = .ok (.iconst 3, 1) := by decide +kernel
theorem dX11_kindsOf_65 : decode cX11_kindsOf 65 = .ok (.iadd, 1) := by decide +kernel
theorem dX11_kindsOf_66 : decode cX11_kindsOf 66 = .ok (.iaload, 1) := by decide +kernel
theorem dX11_kindsOf_67 : decode cX11_kindsOf 67 = .ok (.if_icmp .ne 32, 3) := by decide +kernel
theorem dX11_kindsOf_70 : decode cX11_kindsOf 70 = .ok (.iload_n 3, 1) := by decide +kernel
theorem dX11_kindsOf_71 : decode cX11_kindsOf 71 = .ok (.aload_n 0, 1) := by decide +kernel
theorem dX11_kindsOf_72 : decode cX11_kindsOf 72 = .ok (.getfield 7, 3) := by decide +kernel
theorem dX11_kindsOf_75 : decode cX11_kindsOf 75 = .ok (.iload 6, 2) := by decide +kernel
theorem dX11_kindsOf_77 : decode cX11_kindsOf 77 = .ok (.iconst 2, 1) := by decide +kernel
theorem dX11_kindsOf_78 : decode cX11_kindsOf 78 = .ok (.iadd, 1) := by decide +kernel
theorem dX11_kindsOf_79 : decode cX11_kindsOf 79 = .ok (.iaload, 1) := by decide +kernel
theorem dX11_kindsOf_80 : decode cX11_kindsOf 80 = .ok (.invokestatic 106, 3) := by decide +kernel
theorem dX11_kindsOf_83 : decode cX11_kindsOf 83 = .ok (.aload_n 0, 1) := by decide +kernel
theorem dX11_kindsOf_84 : decode cX11_kindsOf 84 = .ok (.getfield 7, 3) := by decide +kernel
theorem dX11_kindsOf_87 : decode cX11_kindsOf 87 = .ok (.iload 6, 2) := by decide +kernel
theorem dX11_kindsOf_89 : decode cX11_kindsOf 89 = .ok (.iconst 4, 1) := by decide +kernel
theorem dX11_kindsOf_90 : decode cX11_kindsOf 90 = .ok (.iadd, 1) := by decide +kernel
theorem dX11_kindsOf_91 : decode cX11_kindsOf 91 = .ok (.iaload, 1) := by decide +kernel
theorem dX11_kindsOf_92 : decode cX11_kindsOf 92 = .ok (.if_icmp .ne 7, 3) := by decide +kernel
theorem dX11_kindsOf_95 : decode cX11_kindsOf 95 = .ok (.iconst 1, 1) := by decide +kernel
theorem dX11_kindsOf_96 : decode cX11_kindsOf 96 = .ok (.goto 4, 3) := by decide +kernel
theorem dX11_kindsOf_99 : decode cX11_kindsOf 99 = .ok (.iconst 0, 1) := by decide +kernel
theorem dX11_kindsOf_100 : decode cX11_kindsOf 100 = .ok (.istore 7, 2) := by decide +kernel
theorem dX11_kindsOf_102 : decode cX11_kindsOf 102 = .ok (.iload 4, 2) := by decide +kernel
theorem dX11_kindsOf_104 : decode cX11_kindsOf 104 = .ok (.ifCond .eq 23, 3) := by decide +kernel
theorem dX11_kindsOf_107 : decode cX11_kindsOf 107 = .ok (.aload_n 0, 1) := by decide +kernel
theorem dX11_kindsOf_108 : decode cX11_kindsOf 108 = .ok (.getfield 7, 3) := by decide +kernel
theorem dX11_kindsOf_111 : decode cX11_kindsOf 111 = .ok (.iload 6, 2) := by decide +kernel
theorem dX11_kindsOf_113 : decode cX11_kindsOf 113 = .ok (.iaload, 1) := by decide +kernel
theorem dX11_kindsOf_114 : decode cX11_kindsOf 114 = .ok (.iload_n 1, 1) := by decide +kernel
theorem dX11_kindsOf_115 : decode cX11_kindsOf 115 = .ok (.if_icmp .ne 8, 3) := by decide +kernel
theorem dX11_kindsOf_118 : decode cX11_kindsOf 118 = .ok (.iload 7, 2) := by decide +kernel
theorem dX11_kindsOf_120 : decode cX11_kindsOf 120 = .ok (.ifCond .eq 7, 3) := by decide +kernel
theorem dX11_kindsOf_123 : decode cX11_kindsOf 123 = .ok (.iconst 1, 1) := by decide +kernel
theorem dX11_kindsOf_124 : decode cX11_kindsOf 124 = .ok (.goto 4, 3) := by decide +kernel
theorem dX11_kindsOf_127 : decode cX11_kindsOf 127 = .ok (.iconst 0, 1) := by decide +kernel
theorem dX11_kindsOf_128 : decode cX11_kindsOf 128 = .ok (.istore 4, 2) := by decide +kernel
theorem dX11_kindsOf_130 : decode cX11_kindsOf 130 = .ok (.iinc 5 1, 3) := by decide +kernel
theorem dX11_kindsOf_133 : decode cX11_kindsOf 133 = .ok (.goto (-117), 3) := by decide +kernel
theorem dX11_kindsOf_136 : decode cX11_kindsOf 136 = .ok (.iload_n 2, 1) := by decide +kernel
theorem dX11_kindsOf_137 : decode cX11_kindsOf 137 = .ok (.iload 4, 2) := by decide +kernel
theorem dX11_kindsOf_139 : decode cX11_kindsOf 139 = .ok (.ifCond .eq 9, 3) := by decide +kernel
theorem dX11_kindsOf_142 : decode cX11_kindsOf 142 = .ok (.iconst 1, 1) := by decide +kernel
theorem dX11_kindsOf_143 : decode cX11_kindsOf 143 = .ok (.iload_n 3, 1) := by decide +kernel
theorem dX11_kindsOf_144 : decode cX11_kindsOf 144 = .ok (.ishl, 1) := by decide +kernel
theorem dX11_kindsOf_145 : decode cX11_kindsOf 145 = .ok (.goto 4, 3) := by decide +kernel
theorem dX11_kindsOf_148 : decode cX11_kindsOf 148 = .ok (.iconst 0, 1) := by decide +kernel
theorem dX11_kindsOf_149 : decode cX11_kindsOf 149 = .ok (.ior, 1) := by decide +kernel
theorem dX11_kindsOf_150 : decode cX11_kindsOf 150 = .ok (.istore_n 2, 1) := by decide +kernel
theorem dX11_kindsOf_151 : decode cX11_kindsOf 151 = .ok (.iinc 3 1, 3) := by decide +kernel
theorem dX11_kindsOf_154 : decode cX11_kindsOf 154 = .ok (.goto (-150), 3) := by decide +kernel
theorem dX11_kindsOf_157 : decode cX11_kindsOf 157 = .ok (.iload_n 2, 1) := by decide +kernel
theorem dX11_kindsOf_158 : decode cX11_kindsOf 158 = .ok (.ireturn, 1) := by decide +kernel
theorem dX11_is_0 : decode cX11_is 0 = .ok (.aload_n 0, 1) := by decide +kernel
theorem dX11_is_1 : decode cX11_is 1 = .ok (.iload_n 1, 1) := by decide +kernel
theorem dX11_is_2 : decode cX11_is 2 = .ok (.invokevirtual 75, 3) := by decide +kernel
theorem dX11_is_5 : decode cX11_is 5 = .ok (.ifCond .eq 11, 3) := by decide +kernel
theorem dX11_is_8 : decode cX11_is 8 = .ok (.aload_n 0, 1) := by decide +kernel
theorem dX11_is_9 : decode cX11_is 9 = .ok (.iload_n 1, 1) := by decide +kernel
theorem dX11_is_10 : decode cX11_is 10 = .ok (.invokevirtual 187, 3) := by decide +kernel
theorem dX11_is_13 : decode cX11_is 13 = .ok (.goto 9, 3) := by decide +kernel
theorem dX11_is_16 : decode cX11_is 16 = .ok (.aload_n 0, 1) := by decide +kernel
theorem dX11_is_17 : decode cX11_is 17 = .ok (.bipush (-2), 2) := by decide +kernel
theorem dX11_is_19 : decode cX11_is 19 = .ok (.invokevirtual 66, 3) := by decide +kernel
theorem dX11_is_22 : decode cX11_is 22 = .ok (.ireturn, 1) := by decide +kernel
theorem dX11_doAlike_0 : decode cX11_doAlike 0 = .ok (.iload_n 0, 1) := by decide +kernel
theorem dX11_doAlike_1 : decode cX11_doAlike 1 = .ok (.iload_n 2, 1) := by decide +kernel
theorem dX11_doAlike_2 : decode cX11_doAlike 2 = .ok (.iload_n 3, 1) := by decide +kernel
theorem dX11_doAlike_3 : decode cX11_doAlike 3 = .ok (.invokestatic 102, 3) := by decide +kernel
theorem dX11_doAlike_6 : decode cX11_doAlike 6 = .ok (.iload_n 1, 1) := by decide +kernel
theorem dX11_doAlike_7 : decode cX11_doAlike 7 = .ok (.iload_n 2, 1) := by decide +kernel
theorem dX11_doAlike_8 : decode cX11_doAlike 8 = .ok (.iload_n 3, 1) := by decide +kernel
theorem dX11_doAlike_9 : decode cX11_doAlike 9 = .ok (.invokestatic 102, 3) := by decide +kernel
theorem dX11_doAlike_12 : decode cX11_doAlike 12 = .ok (.if_icmp .ne 20, 3) := by decide +kernel
theorem dX11_doAlike_15 : decode cX11_doAlike 15 = .ok (.iload_n 0, 1) := by decide +kernel
theorem dX11_doAlike_16 : decode cX11_doAlike 16 = .ok (.iload_n 3, 1) := by decide +kernel
theorem dX11_doAlike_17 : decode cX11_doAlike 17 = .ok (.invokestatic 106, 3) := by decide +kernel
theorem dX11_doAlike_20 : decode cX11_doAlike 20 = .ok (.iload_n 1, 1) := by decide +kernel
theorem dX11_doAlike_21 : decode cX11_doAlike 21 = .ok (.iload_n 3, 1) := by decide +kernel
theorem dX11_doAlike_22 : decode cX11_doAlike 22 = .ok (.invokestatic 106, 3) := by decide +kernel
theorem dX11_doAlike_25 : decode cX11_doAlike 25 = .ok (.if_icmp .ne 7, 3) := by decide +kernel
theorem dX11_doAlike_28 : decode cX11_doAlike 28 = .ok (.iconst 1, 1) := by decide +kernel
theorem dX11_doAlike_29 : decode cX11_doAlike 29 = .ok (.goto 4, 3) := by decide +kernel
theorem dX11_doAlike_32 : decode cX11_doAlike 32 = .ok (.iconst 0, 1) := by decide +kernel
theorem dX11_doAlike_33 : decode cX11_doAlike 33 = .ok (.ireturn, 1) := by decide +kernel
theorem dX11_next_0 : decode cX11_next 0 = .ok (.aload_n 0, 1) := by decide +kernel
theorem dX11_next_1 : decode cX11_next 1 = .ok (.iload_n 1, 1) := by decide +kernel
theorem dX11_next_2 : decode cX11_next 2 = .ok (.invokevirtual 75, 3) := by decide +kernel
theorem dX11_next_5 : decode cX11_next 5 = .ok (.ifCond .ne 10, 3) := by decide +kernel
theorem dX11_next_8 : decode cX11_next 8 = .ok (.aload_n 0, 1) := by decide +kernel
theorem dX11_next_9 : decode cX11_next 9 = .ok (.bipush (-2), 2) := by decide +kernel
theorem dX11_next_11 : decode cX11_next 11 = .ok (.invokevirtual 66, 3) := by decide +kernel
theorem dX11_next_14 : decode cX11_next 14 = .ok (.ireturn, 1) := by decide +kernel
theorem dX11_next_15 : decode cX11_next 15 = .ok (.aload_n 0, 1) := by decide +kernel
theorem dX11_next_16 : decode cX11_next 16 = .ok (.iload_n 1, 1) := by decide +kernel
theorem dX11_next_17 : decode cX11_next 17 = .ok (.invokevirtual 187, 3) := by decide +kernel
theorem dX11_next_20 : decode cX11_next 20 = .ok (.istore_n 2, 1) := by decide +kernel
theorem dX11_next_21 : decode cX11_next 21 = .ok (.iconst (-1), 1) := by decide +kernel
theorem dX11_next_22 : decode cX11_next 22 = .ok (.istore_n 3, 1) := by decide +kernel
theorem dX11_next_23 : decode cX11_next 23 = .ok (.ldc 190, 2) := by decide +kernel
theorem dX11_next_25 : decode cX11_next 25 = .ok (.istore 4, 2) := by decide +kernel
theorem dX11_next_27 : decode cX11_next 27 = .ok (.iconst 1, 1) := by decide +kernel
theorem dX11_next_28 : decode cX11_next 28 = .ok (.istore 5, 2) := by decide +kernel
theorem dX11_next_30 : decode cX11_next 30 = .ok (.iload 5, 2) := by decide +kernel
theorem dX11_next_32 : decode cX11_next 32 = .ok (.sipush 444, 3) := by decide +kernel
theorem dX11_next_35 : decode cX11_next 35 = .ok (.if_icmp .gt 163, 3) := by decide +kernel
theorem dX11_next_38 : decode cX11_next 38 = .ok (.iload_n 2, 1) := by decide +kernel
theorem dX11_next_39 : decode cX11_next 39 = .ok (.ifCond .le 159, 3) := by decide +kernel
theorem dX11_next_42 : decode cX11_next 42 = .ok (.iload 5, 2) := by decide +kernel
theorem dX11_next_44 : decode cX11_next 44 = .ok (.invokestatic 99, 3) := by decide +kernel
theorem dX11_next_47 : decode cX11_next 47 = .ok (.ifCond .eq 7, 3) := by decide +kernel
theorem dX11_next_50 : decode cX11_next 50 = .ok (.iconst 0, 1) := by decide +kernel
theorem dX11_next_51 : decode cX11_next 51 = .ok (.goto 5, 3) := by decide +kernel
theorem dX11_next_54 : decode cX11_next 54 = .ok (.ldc 190, 2) := by decide +kernel
theorem dX11_next_56 : decode cX11_next 56 = .ok (.istore 6, 2) := by decide +kernel
theorem dX11_next_58 : decode cX11_next 58 = .ok (.iconst 0, 1) := by decide +kernel
theorem dX11_next_59 : decode cX11_next 59 = .ok (.istore 7, 2) := by decide +kernel
theorem dX11_next_61 : decode cX11_next 61 = .ok (.iload 7, 2) := by decide +kernel
theorem dX11_next_63 : decode cX11_next 63 = .ok (.bipush 6, 2) := by decide +kernel
theorem dX11_next_65 : decode cX11_next 65 = .ok (.if_icmp .ge 97, 3) := by decide +kernel
theorem dX11_next_68 : decode cX11_next 68 = .ok (.iload 6, 2) := by decide +kernel
theorem dX11_next_70 : decode cX11_next 70 = .ok (.ldc 190, 2) := by decide +kernel
theorem dX11_next_72 : decode cX11_next 72 = .ok (.if_icmp .ge 90, 3) := by decide +kernel
theorem dX11_next_75 : decode cX11_next 75 = .ok (.iconst 0, 1) := by decide +kernel
theorem dX11_next_76 : decode cX11_next 76 = .ok (.istore 8, 2) := by decide +kernel
theorem dX11_next_78 : decode cX11_next 78 = .ok (.iconst 0, 1) := by decide +kernel
theorem dX11_next_79 : decode cX11_next 79 = .ok (.istore 9, 2) := by decide +kernel
theorem dX11_next_81 : decode cX11_next 81 = .ok (.iload 9, 2) := by decide +kernel
theorem dX11_next_83 : decode cX11_next 83 = .ok (.bipush 6, 2) := by decide +kernel
theorem dX11_next_85 : decode cX11_next 85 = .ok (.if_icmp .ge 55, 3) := by decide +kernel
theorem dX11_next_88 : decode cX11_next 88 = .ok (.iload_n 2, 1) := by decide +kernel
theorem dX11_next_89 : decode cX11_next 89 = .ok (.iload 7, 2) := by decide +kernel
theorem dX11_next_91 : decode cX11_next 91 = .ok (.invokestatic 120, 3) := by decide +kernel
theorem dX11_next_94 : decode cX11_next 94 = .ok (.ifCond .eq 46, 3) := by decide +kernel
theorem dX11_next_97 : decode cX11_next 97 = .ok (.iload 8, 2) := by decide +kernel
theorem dX11_next_99 : decode cX11_next 99 = .ok (.iload_n 2, 1) := by decide +kernel
theorem dX11_next_100 : decode cX11_next 100 = .ok (.iload 9, 2) := by decide +kernel
theorem dX11_next_102 : decode cX11_next 102 = .ok (.invokestatic 120, 3) := by decide +kernel
theorem dX11_next_105 : decode cX11_next 105 = .ok (.ifCond .eq 25, 3) := by decide +kernel
theorem dX11_next_108 : decode cX11_next 108 = .ok (.iload 7, 2) := by decide +kernel
theorem dX11_next_110 : decode cX11_next 110 = .ok (.iload 9, 2) := by decide +kernel
theorem dX11_next_112 : decode cX11_next 112 = .ok (.iload 5, 2) := by decide +kernel
theorem dX11_next_114 : decode cX11_next 114 = .ok (.aload_n 0, 1) := by decide +kernel
theorem dX11_next_115 : decode cX11_next 115 = .ok (.getfield 7, 3) := by decide +kernel
theorem dX11_next_118 : decode cX11_next 118 = .ok (.iconst 2, 1) := by decide +kernel
theorem dX11_next_119 : decode cX11_next 119 = .ok (.iaload, 1) := by decide +kernel
theorem dX11_next_120 : decode cX11_next 120 = .ok (.invokestatic 191, 3) := by decide +kernel
theorem dX11_next_123 : decode cX11_next 123 = .ok (.ifCond .eq 7, 3) := by decide +kernel
theorem dX11_next_126 : decode cX11_next 126 = .ok (.iconst 1, 1) := by decide +kernel
theorem dX11_next_127 : decode cX11_next 127 = .ok (.goto 4, 3) := by decide +kernel
theorem dX11_next_130 : decode cX11_next 130 = .ok (.iconst 0, 1) := by decide +kernel
theorem dX11_next_131 : decode cX11_next 131 = .ok (.iadd, 1) := by decide +kernel
theorem dX11_next_132 : decode cX11_next 132 = .ok (.istore 8, 2) := by decide +kernel
theorem dX11_next_134 : decode cX11_next 134 = .ok (.iinc 9 1, 3) := by decide +kernel
theorem dX11_next_137 : decode cX11_next 137 = .ok (.goto (-56), 3) := by decide +kernel
theorem dX11_next_140 : decode cX11_next 140 = .ok (.iload 8, 2) := by decide +kernel
theorem dX11_next_142 : decode cX11_next 142 = .ok (.iload 6, 2) := by decide +kernel
theorem dX11_next_144 : decode cX11_next 144 = .ok (.if_icmp .le 8, 3) := by decide +kernel
theorem dX11_next_147 : decode cX11_next 147 = .ok (.iload 8, 2) := by decide +kernel
theorem dX11_next_149 : decode cX11_next 149 = .ok (.goto 5, 3) := by decide +kernel
theorem dX11_next_152 : decode cX11_next 152 = .ok (.iload 6, 2) := by decide +kernel
theorem dX11_next_154 : decode cX11_next 154 = .ok (.istore 6, 2) := by decide +kernel
theorem dX11_next_156 : decode cX11_next 156 = .ok (.iinc 7 1, 3) := by decide +kernel
theorem dX11_next_159 : decode cX11_next 159 = .ok (.goto (-98), 3) := by decide +kernel
theorem dX11_next_162 : decode cX11_next 162 = .ok (.iload 6, 2) := by decide +kernel
theorem dX11_next_164 : decode cX11_next 164 = .ok (.iload 4, 2) := by decide +kernel
theorem dX11_next_166 : decode cX11_next 166 = .ok (.if_icmp .ge 8, 3) := by decide +kernel
theorem dX11_next_169 : decode cX11_next 169 = .ok (.iload 5, 2) := by decide +kernel
theorem dX11_next_171 : decode cX11_next 171 = .ok (.goto 4, 3) := by decide +kernel
theorem dX11_next_174 : decode cX11_next 174 = .ok (.iload_n 3, 1) := by decide +kernel
theorem dX11_next_175 : decode cX11_next 175 = .ok (.istore_n 3, 1) := by decide +kernel
theorem dX11_next_176 : decode cX11_next 176 = .ok (.iload 6, 2) := by decide +kernel
theorem dX11_next_178 : decode cX11_next 178 = .ok (.iload 4, 2) := by decide +kernel
theorem dX11_next_180 : decode cX11_next 180 = .ok (.if_icmp .ge 8, 3) := by decide +kernel
theorem dX11_next_183 : decode cX11_next 183 = .ok (.iload 6, 2) := by decide +kernel
theorem dX11_next_185 : decode cX11_next 185 = .ok (.goto 5, 3) := by decide +kernel
theorem dX11_next_188 : decode cX11_next 188 = .ok (.iload 4, 2) := by decide +kernel
theorem dX11_next_190 : decode cX11_next 190 = .ok (.istore 4, 2) := by decide +kernel
theorem dX11_next_192 : decode cX11_next 192 = .ok (.iinc 5 1, 3) := by decide +kernel
theorem dX11_next_195 : decode cX11_next 195 = .ok (.goto (-165), 3) := by decide +kernel
theorem dX11_next_198 : decode cX11_next 198 = .ok (.iload_n 3, 1) := by decide +kernel
theorem dX11_next_199 : decode cX11_next 199 = .ok (.ireturn, 1) := by decide +kernel
theorem dX11_isAllSo_0 : decode cX11_isAllSo 0 = .ok (.iconst 1, 1) := by decide +kernel
theorem dX11_isAllSo_1 : decode cX11_isAllSo 1 = .ok (.istore_n 2, 1) := by decide +kernel
theorem dX11_isAllSo_2 : decode cX11_isAllSo 2 = .ok (.iconst 0, 1) := by decide +kernel
theorem dX11_isAllSo_3 : decode cX11_isAllSo 3 = .ok (.istore_n 3, 1) := by decide +kernel
theorem dX11_isAllSo_4 : decode cX11_isAllSo 4 = .ok (.iload_n 3, 1) := by decide +kernel
theorem dX11_isAllSo_5 : decode cX11_isAllSo 5 = .ok (.aload_n 0, 1) := by decide +kernel
theorem dX11_isAllSo_6 : decode cX11_isAllSo 6 = .ok (.getfield 7, 3) := by decide +kernel
theorem dX11_isAllSo_9 : decode cX11_isAllSo 9 = .ok (.iconst 4, 1) := by decide +kernel
theorem dX11_isAllSo_10 : decode cX11_isAllSo 10 = .ok (.iaload, 1) := by decide +kernel
theorem dX11_isAllSo_11 : decode cX11_isAllSo 11 = .ok (.if_icmp .ge 73, 3) := by decide +kernel
theorem dX11_isAllSo_14 : decode cX11_isAllSo 14 = .ok (.iload_n 2, 1) := by decide +kernel
theorem dX11_isAllSo_15 : decode cX11_isAllSo 15 = .ok (.ifCond .eq 69, 3) := by decide +kernel
theorem dX11_isAllSo_18 : decode cX11_isAllSo 18 = .ok (.bipush 50, 2) := by decide +kernel
theorem dX11_isAllSo_20 : decode cX11_isAllSo 20 = .ok (.iconst 3, 1) := by decide +kernel
theorem dX11_isAllSo_21 : decode cX11_isAllSo 21 = .ok (.iload_n 3, 1) := by decide +kernel
theorem dX11_isAllSo_22 : decode cX11_isAllSo 22 = .ok (.imul, 1) := by decide +kernel
theorem dX11_isAllSo_23 : decode cX11_isAllSo 23 = .ok (.iadd, 1) := by decide +kernel
theorem dX11_isAllSo_24 : decode cX11_isAllSo 24 = .ok (.istore 4, 2) := by decide +kernel
theorem dX11_isAllSo_26 : decode cX11_isAllSo 26 = .ok (.aload_n 0, 1) := by decide +kernel
theorem dX11_isAllSo_27 : decode cX11_isAllSo 27 = .ok (.aload_n 0, 1) := by decide +kernel
theorem dX11_isAllSo_28 : decode cX11_isAllSo 28 = .ok (.getfield 7, 3) := by decide +kernel
theorem dX11_isAllSo_31 : decode cX11_isAllSo 31 = .ok (.iload 4, 2) := by decide +kernel
theorem dX11_isAllSo_33 : decode cX11_isAllSo 33 = .ok (.iaload, 1) := by decide +kernel
theorem dX11_isAllSo_34 : decode cX11_isAllSo 34 = .ok (.invokevirtual 124, 3) := by decide +kernel
theorem dX11_isAllSo_37 : decode cX11_isAllSo 37 = .ok (.istore_n 2, 1) := by decide +kernel
theorem dX11_isAllSo_38 : decode cX11_isAllSo 38 = .ok (.aload_n 0, 1) := by decide +kernel
theorem dX11_isAllSo_39 : decode cX11_isAllSo 39 = .ok (.iload_n 1, 1) := by decide +kernel
theorem dX11_isAllSo_40 : decode cX11_isAllSo 40 = .ok (.aload_n 0, 1) := by decide +kernel
theorem dX11_isAllSo_41 : decode cX11_isAllSo 41 = .ok (.getfield 7, 3) := by decide +kernel
theorem dX11_isAllSo_44 : decode cX11_isAllSo 44 = .ok (.iload 4, 2) := by decide +kernel
theorem dX11_isAllSo_46 : decode cX11_isAllSo 46 = .ok (.iconst 1, 1) := by decide +kernel
theorem dX11_isAllSo_47 : decode cX11_isAllSo 47 = .ok (.iadd, 1) := by decide +kernel
theorem dX11_isAllSo_48 : decode cX11_isAllSo 48 = .ok (.iaload, 1) := by decide +kernel
theorem dX11_isAllSo_49 : decode cX11_isAllSo 49 = .ok (.invokevirtual 127, 3) := by decide +kernel
theorem dX11_isAllSo_52 : decode cX11_isAllSo 52 = .ok (.iload_n 2, 1) := by decide +kernel
theorem dX11_isAllSo_53 : decode cX11_isAllSo 53 = .ok (.ifCond .eq 23, 3) := by decide +kernel
theorem dX11_isAllSo_56 : decode cX11_isAllSo 56 = .ok (.aload_n 0, 1) := by decide +kernel
theorem dX11_isAllSo_57 : decode cX11_isAllSo 57 = .ok (.getfield 110, 3) := by decide +kernel
theorem dX11_isAllSo_60 : decode cX11_isAllSo 60 = .ok (.aload_n 0, 1) := by decide +kernel
theorem dX11_isAllSo_61 : decode cX11_isAllSo 61 = .ok (.getfield 7, 3) := by decide +kernel
theorem dX11_isAllSo_64 : decode cX11_isAllSo 64 = .ok (.iload 4, 2) := by decide +kernel
theorem dX11_isAllSo_66 : decode cX11_isAllSo 66 = .ok (.iconst 2, 1) := by decide +kernel
theorem dX11_isAllSo_67 : decode cX11_isAllSo 67 = .ok (.iadd, 1) := by decide +kernel
theorem dX11_isAllSo_68 : decode cX11_isAllSo 68 = .ok (.iaload, 1) := by decide +kernel
theorem dX11_isAllSo_69 : decode cX11_isAllSo 69 = .ok (.if_icmp .ne 7, 3) := by decide +kernel
theorem dX11_isAllSo_72 : decode cX11_isAllSo 72 = .ok (.iconst 1, 1) := by decide +kernel
theorem dX11_isAllSo_73 : decode cX11_isAllSo 73 = .ok (.goto 4, 3) := by decide +kernel
theorem dX11_isAllSo_76 : decode cX11_isAllSo 76 = .ok (.iconst 0, 1) := by decide +kernel
theorem dX11_isAllSo_77 : decode cX11_isAllSo 77 = .ok (.istore_n 2, 1) := by decide +kernel
theorem dX11_isAllSo_78 : decode cX11_isAllSo 78 = .ok (.iinc 3 1, 3) := by decide +kernel
theorem dX11_isAllSo_81 : decode cX11_isAllSo 81 = .ok (.goto (-77), 3) := by decide +kernel
theorem dX11_isAllSo_84 : decode cX11_isAllSo 84 = .ok (.iload_n 2, 1) := by decide +kernel
theorem dX11_isAllSo_85 : decode cX11_isAllSo 85 = .ok (.ireturn, 1) := by decide +kernel
theorem dX11_first_0 : decode cX11_first 0 = .ok (.iload_n 1, 1) := by decide +kernel
theorem dX11_first_1 : decode cX11_first 1 = .ok (.i2l, 1) := by decide +kernel
theorem dX11_first_2 : decode cX11_first 2 = .ok (.lconst 0, 1) := by decide +kernel
theorem dX11_first_3 : decode cX11_first 3 = .ok (.lconst 1, 1) := by decide +kernel
theorem dX11_first_4 : decode cX11_first 4 = .ok (.invokestatic 56, 3) := by decide +kernel
theorem dX11_first_7 : decode cX11_first 7 = .ok (.ifCond .ne 10, 3) := by decide +kernel
theorem dX11_first_10 : decode cX11_first 10 = .ok (.aload_n 0, 1) := by decide +kernel
theorem dX11_first_11 : decode cX11_first 11 = .ok (.bipush (-2), 2) := by decide +kernel
theorem dX11_first_13 : decode cX11_first 13 = .ok (.invokevirtual 66, 3) := by decide +kernel
theorem dX11_first_16 : decode cX11_first 16 = .ok (.ireturn, 1) := by decide +kernel
theorem dX11_first_17 : decode cX11_first 17 = .ok (.iconst 0, 1) := by decide +kernel
theorem dX11_first_18 : decode cX11_first 18 = .ok (.istore_n 2, 1) := by decide +kernel
theorem dX11_first_19 : decode cX11_first 19 = .ok (.iconst (-1), 1) := by decide +kernel
theorem dX11_first_20 : decode cX11_first 20 = .ok (.istore_n 3, 1) := by decide +kernel
theorem dX11_first_21 : decode cX11_first 21 = .ok (.iconst 0, 1) := by decide +kernel
theorem dX11_first_22 : decode cX11_first 22 = .ok (.istore 4, 2) := by decide +kernel
theorem dX11_first_24 : decode cX11_first 24 = .ok (.iload 4, 2) := by decide +kernel
theorem dX11_first_26 : decode cX11_first 26 = .ok (.sipush 444, 3) := by decide +kernel
theorem dX11_first_29 : decode cX11_first 29 = .ok (.if_icmp .gt 40, 3) := by decide +kernel
theorem dX11_first_32 : decode cX11_first 32 = .ok (.iload 4, 2) := by decide +kernel
theorem dX11_first_34 : decode cX11_first 34 = .ok (.invokestatic 99, 3) := by decide +kernel
theorem dX11_first_37 : decode cX11_first 37 = .ok (.ifCond .eq 26, 3) := by decide +kernel
theorem dX11_first_40 : decode cX11_first 40 = .ok (.aload_n 0, 1) := by decide +kernel
theorem dX11_first_41 : decode cX11_first 41 = .ok (.iload 4, 2) := by decide +kernel
theorem dX11_first_43 : decode cX11_first 43 = .ok (.invokevirtual 195, 3) := by decide +kernel
theorem dX11_first_46 : decode cX11_first 46 = .ok (.ifCond .eq 17, 3) := by decide +kernel
theorem dX11_first_49 : decode cX11_first 49 = .ok (.iload_n 2, 1) := by decide +kernel
theorem dX11_first_50 : decode cX11_first 50 = .ok (.ifCond .ne 8, 3) := by decide +kernel
theorem dX11_first_53 : decode cX11_first 53 = .ok (.iload 4, 2) := by decide +kernel
theorem dX11_first_55 : decode cX11_first 55 = .ok (.goto 4, 3) := by decide +kernel
theorem dX11_first_58 : decode cX11_first 58 = .ok (.iload_n 3, 1) := by decide +kernel
theorem dX11_first_59 : decode cX11_first 59 = .ok (.istore_n 3, 1) := by decide +kernel
theorem dX11_first_60 : decode cX11_first 60 = .ok (.iinc 2 1, 3) := by decide +kernel
theorem dX11_first_63 : decode cX11_first 63 = .ok (.iinc 4 1, 3) := by decide +kernel
theorem dX11_first_66 : decode cX11_first 66 = .ok (.goto (-42), 3) := by decide +kernel
theorem dX11_first_69 : decode cX11_first 69 = .ok (.iload_n 1, 1) := by decide +kernel
theorem dX11_first_70 : decode cX11_first 70 = .ok (.ifCond .ne 7, 3) := by decide +kernel
theorem dX11_first_73 : decode cX11_first 73 = .ok (.iload_n 2, 1) := by decide +kernel
theorem dX11_first_74 : decode cX11_first 74 = .ok (.goto 4, 3) := by decide +kernel
theorem dX11_first_77 : decode cX11_first 77 = .ok (.iload_n 3, 1) := by decide +kernel
theorem dX11_first_78 : decode cX11_first 78 = .ok (.ireturn, 1) := by decide +kernel
theorem dX11_foresters_0 : decode cX11_foresters 0 = .ok (.iload_n 1, 1) := by decide +kernel
theorem dX11_foresters_1 : decode cX11_foresters 1 = .ok (.iload_n 2, 1) := by decide +kernel
theorem dX11_foresters_2 : decode cX11_foresters 2 = .ok (.if_icmp .eq 35, 3) := by decide +kernel
theorem dX11_foresters_5 : decode cX11_foresters 5 = .ok (.iload_n 1, 1) := by decide +kernel
theorem dX11_foresters_6 : decode cX11_foresters 6 = .ok (.iload_n 3, 1) := by decide +kernel
theorem dX11_foresters_7 : decode cX11_foresters 7 = .ok (.if_icmp .eq 30, 3) := by decide +kernel
theorem dX11_foresters_10 : decode cX11_foresters 10 = .ok (.iload_n 1, 1) := by decide +kernel
theorem dX11_foresters_11 : decode cX11_foresters 11 = .ok (.iload 4, 2) := by decide +kernel
theorem dX11_foresters_13 : decode cX11_foresters 13 = .ok (.if_icmp .eq 24, 3) := by decide +kernel
theorem dX11_foresters_16 : decode cX11_foresters 16 = .ok (.iload_n 2, 1) := by decide +kernel
theorem dX11_foresters_17 : decode cX11_foresters 17 = .ok (.iload_n 3, 1) := by decide +kernel
theorem dX11_foresters_18 : decode cX11_foresters 18 = .ok (.if_icmp .eq 19, 3) := by decide +kernel
theorem dX11_foresters_21 : decode cX11_foresters 21 = .ok (.iload_n 2, 1) := by decide +kernel
theorem dX11_foresters_22 : decode cX11_foresters 22 = .ok (.iload 4, 2) := by decide +kernel
theorem dX11_foresters_24 : decode cX11_foresters 24 = .ok (.if_icmp .eq 13, 3) := by decide +kernel
theorem dX11_foresters_27 : decode cX11_foresters 27 = .ok (.iload_n 3, 1) := by decide +kernel
theorem dX11_foresters_28 : decode cX11_foresters 28 = .ok (.iload 4, 2) := by decide +kernel
theorem dX11_foresters_30 : decode cX11_foresters 30 = .ok (.if_icmp .eq 7, 3) := by decide +kernel
theorem dX11_foresters_33 : decode cX11_foresters 33 = .ok (.iconst 1, 1) := by decide +kernel
theorem dX11_foresters_34 : decode cX11_foresters 34 = .ok (.goto 4, 3) := by decide +kernel
theorem dX11_foresters_37 : decode cX11_foresters 37 = .ok (.iconst 0, 1) := by decide +kernel
theorem dX11_foresters_38 : decode cX11_foresters 38 = .ok (.istore 5, 2) := by decide +kernel
theorem dX11_foresters_40 : decode cX11_foresters 40 = .ok (.aload_n 0, 1) := by decide +kernel
theorem dX11_foresters_41 : decode cX11_foresters 41 = .ok (.iload_n 1, 1) := by decide +kernel
theorem dX11_foresters_42 : decode cX11_foresters 42 = .ok (.invokevirtual 75, 3) := by decide +kernel
theorem dX11_foresters_45 : decode cX11_foresters 45 = .ok (.ifCond .eq 33, 3) := by decide +kernel
theorem dX11_foresters_48 : decode cX11_foresters 48 = .ok (.aload_n 0, 1) := by decide +kernel
theorem dX11_foresters_49 : decode cX11_foresters 49 = .ok (.iload_n 2, 1) := by decide +kernel
theorem dX11_foresters_50 : decode cX11_foresters 50 = .ok (.invokevirtual 75, 3) := by decide +kernel
theorem dX11_foresters_53 : decode cX11_foresters 53 = .ok (.ifCond .eq 25, 3) := by decide +kernel
theorem dX11_foresters_56 : decode cX11_foresters 56 = .ok (.aload_n 0, 1) := by decide +kernel
theorem dX11_foresters_57 : decode cX11_foresters 57 = .ok (.iload_n 3, 1) := by decide +kernel
theorem dX11_foresters_58 : decode cX11_foresters 58 = .ok (.invokevirtual 75, 3) := by decide +kernel
theorem dX11_foresters_61 : decode cX11_foresters 61 = .ok (.ifCond .eq 17, 3) := by decide +kernel
theorem dX11_foresters_64 : decode cX11_foresters 64 = .ok (.aload_n 0, 1) := by decide +kernel
theorem dX11_foresters_65 : decode cX11_foresters 65 = .ok (.iload 4, 2) := by decide +kernel
theorem dX11_foresters_67 : decode cX11_foresters 67 = .ok (.invokevirtual 75, 3) := by decide +kernel
theorem dX11_foresters_70 : decode cX11_foresters 70 = .ok (.ifCond .eq 8, 3) := by decide +kernel
theorem dX11_foresters_73 : decode cX11_foresters 73 = .ok (.iload 5, 2) := by decide +kernel
theorem dX11_foresters_75 : decode cX11_foresters 75 = .ok (.ifCond .ne 10, 3) := by decide +kernel
theorem dX11_foresters_78 : decode cX11_foresters 78 = .ok (.aload_n 0, 1) := by decide +kernel
theorem dX11_foresters_79 : decode cX11_foresters 79 = .ok (.bipush (-2), 2) := by decide +kernel
theorem dX11_foresters_81 : decode cX11_foresters 81 = .ok (.invokevirtual 66, 3) := by decide +kernel
theorem dX11_foresters_84 : decode cX11_foresters 84 = .ok (.ireturn, 1) := by decide +kernel
theorem dX11_foresters_85 : decode cX11_foresters 85 = .ok (.iconst 0, 1) := by decide +kernel
theorem dX11_foresters_86 : decode cX11_foresters 86 = .ok (.istore 6, 2) := by decide +kernel
theorem dX11_foresters_88 : decode cX11_foresters 88 = .ok (.iload 6, 2) := by decide +kernel
theorem dX11_foresters_90 : decode cX11_foresters 90 = .ok (.iconst 4, 1) := by decide +kernel
theorem dX11_foresters_91 : decode cX11_foresters 91 = .ok (.if_icmp .ge 116, 3) := by decide +kernel
theorem dX11_foresters_94 : decode cX11_foresters 94 = .ok (.aload_n 0, 1) := by decide +kernel
theorem dX11_foresters_95 : decode cX11_foresters 95 = .ok (.getfield 7, 3) := by decide +kernel
theorem dX11_foresters_98 : decode cX11_foresters 98 = .ok (.iconst 1, 1) := by decide +kernel
theorem dX11_foresters_99 : decode cX11_foresters 99 = .ok (.iaload, 1) := by decide +kernel
theorem dX11_foresters_100 : decode cX11_foresters 100 = .ok (.iload 6, 2) := by decide +kernel
theorem dX11_foresters_102 : decode cX11_foresters 102 = .ok (.iconst 1, 1) := by decide +kernel
theorem dX11_foresters_103 : decode cX11_foresters 103 = .ok (.iand, 1) := by decide +kernel
theorem dX11_foresters_104 : decode cX11_foresters 104 = .ok (.iload_n 1, 1) := by decide +kernel
theorem dX11_foresters_105 : decode cX11_foresters 105 = .ok (.ishl, 1) := by decide +kernel
theorem dX11_foresters_106 : decode cX11_foresters 106 = .ok (.ior, 1) := by decide +kernel
theorem dX11_foresters_107 : decode cX11_foresters 107 = .ok (.iload 6, 2) := by decide +kernel
theorem dX11_foresters_109 : decode cX11_foresters 109 = .ok (.iconst 2, 1) := by decide +kernel
theorem dX11_foresters_110 : decode cX11_foresters 110 = .ok (.idiv, 1) := by decide +kernel
theorem dX11_foresters_111 : decode cX11_foresters 111 = .ok (.iload_n 2, 1) := by decide +kernel
theorem dX11_foresters_112 : decode cX11_foresters 112 = .ok (.ishl, 1) := by decide +kernel
theorem dX11_foresters_113 : decode cX11_foresters 113 = .ok (.ior, 1) := by decide +kernel
theorem dX11_foresters_114 : decode cX11_foresters 114 = .ok (.istore 7, 2) := by decide +kernel
theorem dX11_foresters_116 : decode cX11_foresters 116 = .ok (.aload_n 0, 1) := by decide +kernel
theorem dX11_foresters_117 : decode cX11_foresters 117 = .ok (.iload_n 3, 1) := by decide +kernel
theorem dX11_foresters_118 : decode cX11_foresters 118 = .ok (.iload 4, 2) := by decide +kernel
theorem dX11_foresters_120 : decode cX11_foresters 120 = .ok (.iload 7, 2) := by decide +kernel
theorem dX11_foresters_122 : decode cX11_foresters 122 = .ok (.invokevirtual 181, 3) := by decide +kernel
theorem dX11_foresters_125 : decode cX11_foresters 125 = .ok (.istore 8, 2) := by decide +kernel
theorem dX11_foresters_127 : decode cX11_foresters 127 = .ok (.aload_n 0, 1) := by decide +kernel
theorem dX11_foresters_128 : decode cX11_foresters 128 = .ok (.getfield 33, 3) := by decide +kernel
theorem dX11_foresters_131 : decode cX11_foresters 131 = .ok (.iload 6, 2) := by decide +kernel
theorem dX11_foresters_133 : decode cX11_foresters 133 = .ok (.iload 6, 2) := by decide +kernel
theorem dX11_foresters_135 : decode cX11_foresters 135 = .ok (.iconst 1, 1) := by decide +kernel
theorem dX11_foresters_136 : decode cX11_foresters 136 = .ok (.iand, 1) := by decide +kernel
theorem dX11_foresters_137 : decode cX11_foresters 137 = .ok (.iconst 1, 1) := by decide +kernel
theorem dX11_foresters_138 : decode cX11_foresters 138 = .ok (.if_icmp .ne 16, 3) := by decide +kernel
theorem dX11_foresters_141 : decode cX11_foresters 141 = .ok (.iload 8, 2) := by decide +kernel
theorem dX11_foresters_143 : decode cX11_foresters 143 = .ok (.ifCond .eq 7, 3) := by decide +kernel
theorem dX11_foresters_146 : decode cX11_foresters 146 = .ok (.iconst 2, 1) := by decide +kernel
theorem dX11_foresters_147 : decode cX11_foresters 147 = .ok (.goto 17, 3) := by decide +kernel
theorem dX11_foresters_150 : decode cX11_foresters 150 = .ok (.iconst (-1), 1) := by decide +kernel
theorem dX11_foresters_151 : decode cX11_foresters 151 = .ok (.goto 13, 3) := by decide +kernel
theorem dX11_foresters_154 : decode cX11_foresters 154 = .ok (.iload 8, 2) := by decide +kernel
theorem dX11_foresters_156 : decode cX11_foresters 156 = .ok (.ifCond .eq 7, 3) := by decide +kernel
theorem dX11_foresters_159 : decode cX11_foresters 159 = .ok (.iconst 1, 1) := by decide +kernel
theorem dX11_foresters_160 : decode cX11_foresters 160 = .ok (.goto 4, 3) := by decide +kernel
theorem dX11_foresters_163 : decode cX11_foresters 163 = .ok (.iconst 0, 1) := by decide +kernel
theorem dX11_foresters_164 : decode cX11_foresters 164 = .ok (.iastore, 1) := by decide +kernel
theorem dX11_foresters_165 : decode cX11_foresters 165 = .ok (.aload_n 0, 1) := by decide +kernel
theorem dX11_foresters_166 : decode cX11_foresters 166 = .ok (.getfield 36, 3) := by decide +kernel
theorem dX11_foresters_169 : decode cX11_foresters 169 = .ok (.iload 6, 2) := by decide +kernel
theorem dX11_foresters_171 : decode cX11_foresters 171 = .ok (.iload 6, 2) := by decide +kernel
theorem dX11_foresters_173 : decode cX11_foresters 173 = .ok (.iconst 1, 1) := by decide +kernel
theorem dX11_foresters_174 : decode cX11_foresters 174 = .ok (.if_icmp .le 16, 3) := by decide +kernel
theorem dX11_foresters_177 : decode cX11_foresters 177 = .ok (.iload 8, 2) := by decide +kernel
theorem dX11_foresters_179 : decode cX11_foresters 179 = .ok (.ifCond .eq 7, 3) := by decide +kernel
theorem dX11_foresters_182 : decode cX11_foresters 182 = .ok (.iconst 2, 1) := by decide +kernel
theorem dX11_foresters_183 : decode cX11_foresters 183 = .ok (.goto 17, 3) := by decide +kernel
theorem dX11_foresters_186 : decode cX11_foresters 186 = .ok (.iconst (-1), 1) := by decide +kernel
theorem dX11_foresters_187 : decode cX11_foresters 187 = .ok (.goto 13, 3) := by decide +kernel
theorem dX11_foresters_190 : decode cX11_foresters 190 = .ok (.iload 8, 2) := by decide +kernel
theorem dX11_foresters_192 : decode cX11_foresters 192 = .ok (.ifCond .eq 7, 3) := by decide +kernel
theorem dX11_foresters_195 : decode cX11_foresters 195 = .ok (.iconst 1, 1) := by decide +kernel
theorem dX11_foresters_196 : decode cX11_foresters 196 = .ok (.goto 4, 3) := by decide +kernel
theorem dX11_foresters_199 : decode cX11_foresters 199 = .ok (.iconst 0, 1) := by decide +kernel
theorem dX11_foresters_200 : decode cX11_foresters 200 = .ok (.iastore, 1) := by decide +kernel
theorem dX11_foresters_201 : decode cX11_foresters 201 = .ok (.iinc 6 1, 3) := by decide +kernel
theorem dX11_foresters_204 : decode cX11_foresters 204 = .ok (.goto (-116), 3) := by decide +kernel
theorem dX11_foresters_207 : decode cX11_foresters 207 = .ok (.iconst 0, 1) := by decide +kernel
theorem dX11_foresters_208 : decode cX11_foresters 208 = .ok (.istore 6, 2) := by decide +kernel
theorem dX11_foresters_210 : decode cX11_foresters 210 = .ok (.iconst 0, 1) := by decide +kernel
theorem dX11_foresters_211 : decode cX11_foresters 211 = .ok (.istore 7, 2) := by decide +kernel
theorem dX11_foresters_213 : decode cX11_foresters 213 = .ok (.iload 7, 2) := by decide +kernel
theorem dX11_foresters_215 : decode cX11_foresters 215 = .ok (.iconst 4, 1) := by decide +kernel
theorem dX11_foresters_216 : decode cX11_foresters 216 = .ok (.if_icmp .ge 72, 3) := by decide +kernel
theorem dX11_foresters_219 : decode cX11_foresters 219 = .ok (.aload_n 0, 1) := by decide +kernel
theorem dX11_foresters_220 : decode cX11_foresters 220 = .ok (.getfield 33, 3) := by decide +kernel
theorem dX11_foresters_223 : decode cX11_foresters 223 = .ok (.iload 7, 2) := by decide +kernel
theorem dX11_foresters_225 : decode cX11_foresters 225 = .ok (.iaload, 1) := by decide +kernel
theorem dX11_foresters_226 : decode cX11_foresters 226 = .ok (.aload_n 0, 1) := by decide +kernel
theorem dX11_foresters_227 : decode cX11_foresters 227 = .ok (.getfield 33, 3) := by decide +kernel
theorem dX11_foresters_230 : decode cX11_foresters 230 = .ok (.iload 7, 2) := by decide +kernel
theorem dX11_foresters_232 : decode cX11_foresters 232 = .ok (.iconst 1, 1) := by decide +kernel
theorem dX11_foresters_233 : decode cX11_foresters 233 = .ok (.ixor, 1) := by decide +kernel
theorem dX11_foresters_234 : decode cX11_foresters 234 = .ok (.iaload, 1) := by decide +kernel
theorem dX11_foresters_235 : decode cX11_foresters 235 = .ok (.if_icmp .lt 26, 3) := by decide +kernel
theorem dX11_foresters_238 : decode cX11_foresters 238 = .ok (.aload_n 0, 1) := by decide +kernel
theorem dX11_foresters_239 : decode cX11_foresters 239 = .ok (.getfield 36, 3) := by decide +kernel
theorem dX11_foresters_242 : decode cX11_foresters 242 = .ok (.iload 7, 2) := by decide +kernel
theorem dX11_foresters_244 : decode cX11_foresters 244 = .ok (.iaload, 1) := by decide +kernel
theorem dX11_foresters_245 : decode cX11_foresters 245 = .ok (.aload_n 0, 1) := by decide +kernel
theorem dX11_foresters_246 : decode cX11_foresters 246 = .ok (.getfield 36, 3) := by decide +kernel
theorem dX11_foresters_249 : decode cX11_foresters 249 = .ok (.iload 7, 2) := by decide +kernel
theorem dX11_foresters_251 : decode cX11_foresters 251 = .ok (.iconst 2, 1) := by decide +kernel
theorem dX11_foresters_252 : decode cX11_foresters 252 = .ok (.ixor, 1) := by decide +kernel
theorem dX11_foresters_253 : decode cX11_foresters 253 = .ok (.iaload, 1) := by decide +kernel
theorem dX11_foresters_254 : decode cX11_foresters 254 = .ok (.if_icmp .lt 7, 3) := by decide +kernel
theorem dX11_foresters_257 : decode cX11_foresters 257 = .ok (.iconst 1, 1) := by decide +kernel
theorem dX11_foresters_258 : decode cX11_foresters 258 = .ok (.goto 4, 3) := by decide +kernel
theorem dX11_foresters_261 : decode cX11_foresters 261 = .ok (.iconst 0, 1) := by decide +kernel
theorem dX11_foresters_262 : decode cX11_foresters 262 = .ok (.istore 8, 2) := by decide +kernel
theorem dX11_foresters_264 : decode cX11_foresters 264 = .ok (.iload 6, 2) := by decide +kernel
theorem dX11_foresters_266 : decode cX11_foresters 266 = .ok (.iload 8, 2) := by decide +kernel
theorem dX11_foresters_268 : decode cX11_foresters 268 = .ok (.ifCond .eq 10, 3) := by decide +kernel
theorem dX11_foresters_271 : decode cX11_foresters 271 = .ok (.iconst 1, 1) := by decide +kernel
theorem dX11_foresters_272 : decode cX11_foresters 272 = .ok (.iload 7, 2) := by decide +kernel
theorem dX11_foresters_274 : decode cX11_foresters 274 = .ok (.ishl, 1) := by decide +kernel
theorem dX11_foresters_275 : decode cX11_foresters 275 = .ok (.goto 4, 3) := by decide +kernel
theorem dX11_foresters_278 : decode cX11_foresters 278 = .ok (.iconst 0, 1) := by decide +kernel
theorem dX11_foresters_279 : decode cX11_foresters 279 = .ok (.ior, 1) := by decide +kernel
theorem dX11_foresters_280 : decode cX11_foresters 280 = .ok (.istore 6, 2) := by decide +kernel
theorem dX11_foresters_282 : decode cX11_foresters 282 = .ok (.iinc 7 1, 3) := by decide +kernel
theorem dX11_foresters_285 : decode cX11_foresters 285 = .ok (.goto (-72), 3) := by decide +kernel
theorem dX11_foresters_288 : decode cX11_foresters 288 = .ok (.iload 6, 2) := by decide +kernel
theorem dX11_foresters_290 : decode cX11_foresters 290 = .ok (.ireturn, 1) := by decide +kernel
theorem dX11_fraction_0 : decode cX11_fraction 0 = .ok (.lload_n 1, 1) := by decide +kernel
theorem dX11_fraction_1 : decode cX11_fraction 1 = .ok (.lstore 5, 2) := by decide +kernel
theorem dX11_fraction_3 : decode cX11_fraction 3 = .ok (.lload_n 3, 1) := by decide +kernel
theorem dX11_fraction_4 : decode cX11_fraction 4 = .ok (.lstore 7, 2) := by decide +kernel
theorem dX11_fraction_6 : decode cX11_fraction 6 = .ok (.lload 7, 2) := by decide +kernel
theorem dX11_fraction_8 : decode cX11_fraction 8 = .ok (.lconst 0, 1) := by decide +kernel
theorem dX11_fraction_9 : decode cX11_fraction 9 = .ok (.lcmp, 1) := by decide +kernel
theorem dX11_fraction_10 : decode cX11_fraction 10 = .ok (.ifCond .eq 21, 3) := by decide +kernel
theorem dX11_fraction_13 : decode cX11_fraction 13 = .ok (.lload 5, 2) := by decide +kernel
theorem dX11_fraction_15 : decode cX11_fraction 15 = .ok (.lload 7, 2) := by decide +kernel
theorem dX11_fraction_17 : decode cX11_fraction 17 = .ok (.lrem, 1) := by decide +kernel
theorem dX11_fraction_18 : decode cX11_fraction 18 = .ok (.lstore 9, 2) := by decide +kernel
theorem dX11_fraction_20 : decode cX11_fraction 20 = .ok (.lload 7, 2) := by decide +kernel
theorem dX11_fraction_22 : decode cX11_fraction 22 = .ok (.lstore 5, 2) := by decide +kernel
theorem dX11_fraction_24 : decode cX11_fraction 24 = .ok (.lload 9, 2) := by decide +kernel
theorem dX11_fraction_26 : decode cX11_fraction 26 = .ok (.lstore 7, 2) := by decide +kernel
theorem dX11_fraction_28 : decode cX11_fraction 28 = .ok (.goto (-22), 3) := by decide +kernel
theorem dX11_fraction_31 : decode cX11_fraction 31 = .ok (.aload_n 0, 1) := by decide +kernel
theorem dX11_fraction_32 : decode cX11_fraction 32 = .ok (.lload_n 1, 1) := by decide +kernel
theorem dX11_fraction_33 : decode cX11_fraction 33 = .ok (.lload 5, 2) := by decide +kernel
theorem dX11_fraction_35 : decode cX11_fraction 35 = .ok (.ldiv, 1) := by decide +kernel
theorem dX11_fraction_36 : decode cX11_fraction 36 = .ok (.putfield 198, 3) := by decide +kernel
theorem dX11_fraction_39 : decode cX11_fraction 39 = .ok (.aload_n 0, 1) := by decide +kernel
theorem dX11_fraction_40 : decode cX11_fraction 40 = .ok (.lload_n 3, 1) := by decide +kernel
theorem dX11_fraction_41 : decode cX11_fraction 41 = .ok (.lload 5, 2) := by decide +kernel
theorem dX11_fraction_43 : decode cX11_fraction 43 = .ok (.ldiv, 1) := by decide +kernel
theorem dX11_fraction_44 : decode cX11_fraction 44 = .ok (.putfield 23, 3) := by decide +kernel
theorem dX11_fraction_47 : decode cX11_fraction 47 = .ok (.return_, 1) := by decide +kernel
theorem dX11_storms_0 : decode cX11_storms 0 = .ok (.aload_n 0, 1) := by decide +kernel
theorem dX11_storms_1 : decode cX11_storms 1 = .ok (.iload_n 1, 1) := by decide +kernel
theorem dX11_storms_2 : decode cX11_storms 2 = .ok (.invokevirtual 75, 3) := by decide +kernel
theorem dX11_storms_5 : decode cX11_storms 5 = .ok (.ifCond .eq 23, 3) := by decide +kernel
theorem dX11_storms_8 : decode cX11_storms 8 = .ok (.aload_n 0, 1) := by decide +kernel
theorem dX11_storms_9 : decode cX11_storms 9 = .ok (.iload_n 2, 1) := by decide +kernel
theorem dX11_storms_10 : decode cX11_storms 10 = .ok (.invokevirtual 75, 3) := by decide +kernel
theorem dX11_storms_13 : decode cX11_storms 13 = .ok (.ifCond .eq 15, 3) := by decide +kernel
theorem dX11_storms_16 : decode cX11_storms 16 = .ok (.iload_n 3, 1) := by decide +kernel
theorem dX11_storms_17 : decode cX11_storms 17 = .ok (.i2l, 1) := by decide +kernel
theorem dX11_storms_18 : decode cX11_storms 18 = .ok (.lconst 0, 1) := by decide +kernel
theorem dX11_storms_19 : decode cX11_storms 19 = .ok (.ldc2_w 201, 3) := by decide +kernel
theorem dX11_storms_22 : decode cX11_storms 22 = .ok (.invokestatic 56, 3) := by decide +kernel
theorem dX11_storms_25 : decode cX11_storms 25 = .ok (.ifCond .ne 10, 3) := by decide +kernel
theorem dX11_storms_28 : decode cX11_storms 28 = .ok (.aload_n 0, 1) := by decide +kernel
theorem dX11_storms_29 : decode cX11_storms 29 = .ok (.bipush (-2), 2) := by decide +kernel
theorem dX11_storms_31 : decode cX11_storms 31 = .ok (.invokevirtual 66, 3) := by decide +kernel
theorem dX11_storms_34 : decode cX11_storms 34 = .ok (.ireturn, 1) := by decide +kernel
theorem dX11_storms_35 : decode cX11_storms 35 = .ok (.aload_n 0, 1) := by decide +kernel
theorem dX11_storms_36 : decode cX11_storms 36 = .ok (.iload_n 1, 1) := by decide +kernel
theorem dX11_storms_37 : decode cX11_storms 37 = .ok (.iload_n 2, 1) := by decide +kernel
theorem dX11_storms_38 : decode cX11_storms 38 = .ok (.iconst 0, 1) := by decide +kernel
theorem dX11_storms_39 : decode cX11_storms 39 = .ok (.iconst 0, 1) := by decide +kernel
theorem dX11_storms_40 : decode cX11_storms 40 = .ok (.invokevirtual 162, 3) := by decide +kernel
theorem dX11_storms_43 : decode cX11_storms 43 = .ok (.aload_n 0, 1) := by decide +kernel
theorem dX11_storms_44 : decode cX11_storms 44 = .ok (.getfield 141, 3) := by decide +kernel
theorem dX11_storms_47 : decode cX11_storms 47 = .ok (.iconst (-1), 1) := by decide +kernel
theorem dX11_storms_48 : decode cX11_storms 48 = .ok (.if_icmp .ne 7, 3) := by decide +kernel
theorem dX11_storms_51 : decode cX11_storms 51 = .ok (.lconst 0, 1) := by decide +kernel
theorem dX11_storms_52 : decode cX11_storms 52 = .ok (.goto 4, 3) := by decide +kernel
theorem dX11_storms_55 : decode cX11_storms 55 = .ok (.lconst 1, 1) := by decide +kernel
theorem dX11_storms_56 : decode cX11_storms 56 = .ok (.lstore 4, 2) := by decide +kernel
theorem dX11_storms_58 : decode cX11_storms 58 = .ok (.lconst 1, 1) := by decide +kernel
theorem dX11_storms_59 : decode cX11_storms 59 = .ok (.lstore 6, 2) := by decide +kernel
theorem dX11_storms_61 : decode cX11_storms 61 = .ok (.iconst 0, 1) := by decide +kernel
theorem dX11_storms_62 : decode cX11_storms 62 = .ok (.istore 8, 2) := by decide +kernel
theorem dX11_storms_64 : decode cX11_storms 64 = .ok (.iload 8, 2) := by decide +kernel
theorem dX11_storms_66 : decode cX11_storms 66 = .ok (.aload_n 0, 1) := by decide +kernel
theorem dX11_storms_67 : decode cX11_storms 67 = .ok (.getfield 141, 3) := by decide +kernel
theorem dX11_storms_70 : decode cX11_storms 70 = .ok (.iconst (-1), 1) := by decide +kernel
theorem dX11_storms_71 : decode cX11_storms 71 = .ok (.if_icmp .ne 7, 3) := by decide +kernel
theorem dX11_storms_74 : decode cX11_storms 74 = .ok (.iconst 0, 1) := by decide +kernel
theorem dX11_storms_75 : decode cX11_storms 75 = .ok (.goto 7, 3) := by decide +kernel
theorem dX11_storms_78 : decode cX11_storms 78 = .ok (.aload_n 0, 1) := by decide +kernel
theorem dX11_storms_79 : decode cX11_storms 79 = .ok (.getfield 141, 3) := by decide +kernel
theorem dX11_storms_82 : decode cX11_storms 82 = .ok (.invokestatic 169, 3) := by decide +kernel
theorem dX11_storms_85 : decode cX11_storms 85 = .ok (.if_icmp .ge 27, 3) := by decide +kernel
theorem dX11_storms_88 : decode cX11_storms 88 = .ok (.lload 4, 2) := by decide +kernel
theorem dX11_storms_90 : decode cX11_storms 90 = .ok (.bipush 10, 2) := by decide +kernel
theorem dX11_storms_92 : decode cX11_storms 92 = .ok (.iload_n 3, 1) := by decide +kernel
theorem dX11_storms_93 : decode cX11_storms 93 = .ok (.isub, 1) := by decide +kernel
theorem dX11_storms_94 : decode cX11_storms 94 = .ok (.i2l, 1) := by decide +kernel
theorem dX11_storms_95 : decode cX11_storms 95 = .ok (.lmul, 1) := by decide +kernel
theorem dX11_storms_96 : decode cX11_storms 96 = .ok (.lstore 4, 2) := by decide +kernel
theorem dX11_storms_98 : decode cX11_storms 98 = .ok (.lload 6, 2) := by decide +kernel
theorem dX11_storms_100 : decode cX11_storms 100 = .ok (.ldc2_w 201, 3) := by decide +kernel
theorem dX11_storms_103 : decode cX11_storms 103 = .ok (.lmul, 1) := by decide +kernel
theorem dX11_storms_104 : decode cX11_storms 104 = .ok (.lstore 6, 2) := by decide +kernel
theorem dX11_storms_106 : decode cX11_storms 106 = .ok (.iinc 8 1, 3) := by decide +kernel
theorem dX11_storms_109 : decode cX11_storms 109 = .ok (.goto (-45), 3) := by decide +kernel
theorem dX11_storms_112 : decode cX11_storms 112 = .ok (.aload_n 0, 1) := by decide +kernel
theorem dX11_storms_113 : decode cX11_storms 113 = .ok (.lload 4, 2) := by decide +kernel
theorem dX11_storms_115 : decode cX11_storms 115 = .ok (.lload 6, 2) := by decide +kernel
theorem dX11_storms_117 : decode cX11_storms 117 = .ok (.invokevirtual 203, 3) := by decide +kernel
theorem dX11_storms_120 : decode cX11_storms 120 = .ok (.iconst 1, 1) := by decide +kernel
theorem dX11_storms_121 : decode cX11_storms 121 = .ok (.ireturn, 1) := by decide +kernel
theorem dX11_forests_0 : decode cX11_forests 0 = .ok (.iload_n 1, 1) := by decide +kernel
theorem dX11_forests_1 : decode cX11_forests 1 = .ok (.i2l, 1) := by decide +kernel
theorem dX11_forests_2 : decode cX11_forests 2 = .ok (.lconst 0, 1) := by decide +kernel
theorem dX11_forests_3 : decode cX11_forests 3 = .ok (.ldc2_w 207, 3) := by decide +kernel
theorem dX11_forests_6 : decode cX11_forests 6 = .ok (.invokestatic 56, 3) := by decide +kernel
theorem dX11_forests_9 : decode cX11_forests 9 = .ok (.ifCond .eq 25, 3) := by decide +kernel
theorem dX11_forests_12 : decode cX11_forests 12 = .ok (.iload_n 2, 1) := by decide +kernel
theorem dX11_forests_13 : decode cX11_forests 13 = .ok (.i2l, 1) := by decide +kernel
theorem dX11_forests_14 : decode cX11_forests 14 = .ok (.lconst 0, 1) := by decide +kernel
theorem dX11_forests_15 : decode cX11_forests 15 = .ok (.ldc2_w 86, 3) := by decide +kernel
theorem dX11_forests_18 : decode cX11_forests 18 = .ok (.invokestatic 56, 3) := by decide +kernel
theorem dX11_forests_21 : decode cX11_forests 21 = .ok (.ifCond .eq 13, 3) := by decide +kernel
theorem dX11_forests_24 : decode cX11_forests 24 = .ok (.iload_n 3, 1) := by decide +kernel
theorem dX11_forests_25 : decode cX11_forests 25 = .ok (.i2l, 1) := by decide +kernel
theorem dX11_forests_26 : decode cX11_forests 26 = .ok (.lconst 0, 1) := by decide +kernel
theorem dX11_forests_27 : decode cX11_forests 27 = .ok (.lconst 1, 1) := by decide +kernel
theorem dX11_forests_28 : decode cX11_forests 28 = .ok (.invokestatic 56, 3) := by decide +kernel
theorem dX11_forests_31 : decode cX11_forests 31 = .ok (.ifCond .ne 10, 3) := by decide +kernel
theorem dX11_forests_34 : decode cX11_forests 34 = .ok (.aload_n 0, 1) := by decide +kernel
theorem dX11_forests_35 : decode cX11_forests 35 = .ok (.bipush (-2), 2) := by decide +kernel
theorem dX11_forests_37 : decode cX11_forests 37 = .ok (.invokevirtual 66, 3) := by decide +kernel
theorem dX11_forests_40 : decode cX11_forests 40 = .ok (.ireturn, 1) := by decide +kernel
theorem dX11_forests_41 : decode cX11_forests 41 = .ok (.aload_n 0, 1) := by decide +kernel
theorem dX11_forests_42 : decode cX11_forests 42 = .ok (.invokevirtual 52, 3) := by decide +kernel
theorem dX11_forests_45 : decode cX11_forests 45 = .ok (.ifCond .ne 8, 3) := by decide +kernel
theorem dX11_forests_48 : decode cX11_forests 48 = .ok (.aload_n 0, 1) := by decide +kernel
theorem dX11_forests_49 : decode cX11_forests 49 = .ok (.invokevirtual 88, 3) := by decide +kernel
theorem dX11_forests_52 : decode cX11_forests 52 = .ok (.ireturn, 1) := by decide +kernel
theorem dX11_forests_53 : decode cX11_forests 53 = .ok (.iload_n 1, 1) := by decide +kernel
theorem dX11_forests_54 : decode cX11_forests 54 = .ok (.i2l, 1) := by decide +kernel
theorem dX11_forests_55 : decode cX11_forests 55 = .ok (.lstore 4, 2) := by decide +kernel
theorem dX11_forests_57 : decode cX11_forests 57 = .ok (.iconst 0, 1) := by decide +kernel
theorem dX11_forests_58 : decode cX11_forests 58 = .ok (.istore 6, 2) := by decide +kernel
theorem dX11_forests_60 : decode cX11_forests 60 = .ok (.iconst 0, 1) := by decide +kernel
theorem dX11_forests_61 : decode cX11_forests 61 = .ok (.istore 7, 2) := by decide +kernel
theorem dX11_forests_63 : decode cX11_forests 63 = .ok (.iconst 0, 1) := by decide +kernel
theorem dX11_forests_64 : decode cX11_forests 64 = .ok (.istore 8, 2) := by decide +kernel
theorem dX11_forests_66 : decode cX11_forests 66 = .ok (.iload 8, 2) := by decide +kernel
theorem dX11_forests_68 : decode cX11_forests 68 = .ok (.iload_n 2, 1) := by decide +kernel
theorem dX11_forests_69 : decode cX11_forests 69 = .ok (.if_icmp .ge 116, 3) := by decide +kernel
theorem dX11_forests_72 : decode cX11_forests 72 = .ok (.lload 4, 2) := by decide +kernel
theorem dX11_forests_74 : decode cX11_forests 74 = .ok (.ldc2_w 209, 3) := by decide +kernel
theorem dX11_forests_77 : decode cX11_forests 77 = .ok (.lmul, 1) := by decide +kernel
theorem dX11_forests_78 : decode cX11_forests 78 = .ok (.ldc2_w 211, 3) := by decide +kernel
theorem dX11_forests_81 : decode cX11_forests 81 = .ok (.ladd, 1) := by decide +kernel
theorem dX11_forests_82 : decode cX11_forests 82 = .ok (.ldc2_w 213, 3) := by decide +kernel
theorem dX11_forests_85 : decode cX11_forests 85 = .ok (.lrem, 1) := by decide +kernel
theorem dX11_forests_86 : decode cX11_forests 86 = .ok (.lstore 4, 2) := by decide +kernel
theorem dX11_forests_88 : decode cX11_forests 88 = .ok (.lload 4, 2) := by decide +kernel
theorem dX11_forests_90 : decode cX11_forests 90 = .ok (.ldc2_w 215, 3) := by decide +kernel
theorem dX11_forests_93 : decode cX11_forests 93 = .ok (.ldiv, 1) := by decide +kernel
theorem dX11_forests_94 : decode cX11_forests 94 = .ok (.aload_n 0, 1) := by decide +kernel
theorem dX11_forests_95 : decode cX11_forests 95 = .ok (.invokevirtual 52, 3) := by decide +kernel
theorem dX11_forests_98 : decode cX11_forests 98 = .ok (.i2l, 1) := by decide +kernel
theorem dX11_forests_99 : decode cX11_forests 99 = .ok (.lrem, 1) := by decide +kernel
theorem dX11_forests_100 : decode cX11_forests 100 = .ok (.l2i, 1) := by decide +kernel
theorem dX11_forests_101 : decode cX11_forests 101 = .ok (.istore 9, 2) := by decide +kernel
theorem dX11_forests_103 : decode cX11_forests 103 = .ok (.lload 4, 2) := by decide +kernel
theorem dX11_forests_105 : decode cX11_forests 105 = .ok (.ldc2_w 209, 3) := by decide +kernel
theorem dX11_forests_108 : decode cX11_forests 108 = .ok (.lmul, 1) := by decide +kernel
theorem dX11_forests_109 : decode cX11_forests 109 = .ok (.ldc2_w 211, 3) := by decide +kernel
theorem dX11_forests_112 : decode cX11_forests 112 = .ok (.ladd, 1) := by decide +kernel
theorem dX11_forests_113 : decode cX11_forests 113 = .ok (.ldc2_w 213, 3) := by decide +kernel
theorem dX11_forests_116 : decode cX11_forests 116 = .ok (.lrem, 1) := by decide +kernel
theorem dX11_forests_117 : decode cX11_forests 117 = .ok (.lstore 4, 2) := by decide +kernel
theorem dX11_forests_119 : decode cX11_forests 119 = .ok (.aload_n 0, 1) := by decide +kernel
theorem dX11_forests_120 : decode cX11_forests 120 = .ok (.iload 9, 2) := by decide +kernel
theorem dX11_forests_122 : decode cX11_forests 122 = .ok (.lload 4, 2) := by decide +kernel
theorem dX11_forests_124 : decode cX11_forests 124 = .ok (.ldc2_w 215, 3) := by decide +kernel
theorem dX11_forests_127 : decode cX11_forests 127 = .ok (.ldiv, 1) := by decide +kernel
theorem dX11_forests_128 : decode cX11_forests 128 = .ok (.aload_n 0, 1) := by decide +kernel
theorem dX11_forests_129 : decode cX11_forests 129 = .ok (.invokevirtual 52, 3) := by decide +kernel
theorem dX11_forests_132 : decode cX11_forests 132 = .ok (.i2l, 1) := by decide +kernel
theorem dX11_forests_133 : decode cX11_forests 133 = .ok (.lrem, 1) := by decide +kernel
theorem dX11_forests_134 : decode cX11_forests 134 = .ok (.l2i, 1) := by decide +kernel
theorem dX11_forests_135 : decode cX11_forests 135 = .ok (.iconst 0, 1) := by decide +kernel
theorem dX11_forests_136 : decode cX11_forests 136 = .ok (.iconst 0, 1) := by decide +kernel
theorem dX11_forests_137 : decode cX11_forests 137 = .ok (.invokevirtual 162, 3) := by decide +kernel
theorem dX11_forests_140 : decode cX11_forests 140 = .ok (.iload 6, 2) := by decide +kernel
theorem dX11_forests_142 : decode cX11_forests 142 = .ok (.aload_n 0, 1) := by decide +kernel
theorem dX11_forests_143 : decode cX11_forests 143 = .ok (.getfield 144, 3) := by decide +kernel
theorem dX11_forests_146 : decode cX11_forests 146 = .ok (.iconst (-1), 1) := by decide +kernel
theorem dX11_forests_147 : decode cX11_forests 147 = .ok (.if_icmp .ne 7, 3) := by decide +kernel
theorem dX11_forests_150 : decode cX11_forests 150 = .ok (.iconst 0, 1) := by decide +kernel
theorem dX11_forests_151 : decode cX11_forests 151 = .ok (.goto 4, 3) := by decide +kernel
theorem dX11_forests_154 : decode cX11_forests 154 = .ok (.iconst 1, 1) := by decide +kernel
theorem dX11_forests_155 : decode cX11_forests 155 = .ok (.iadd, 1) := by decide +kernel
theorem dX11_forests_156 : decode cX11_forests 156 = .ok (.istore 6, 2) := by decide +kernel
theorem dX11_forests_158 : decode cX11_forests 158 = .ok (.iload 7, 2) := by decide +kernel
theorem dX11_forests_160 : decode cX11_forests 160 = .ok (.aload_n 0, 1) := by decide +kernel
theorem dX11_forests_161 : decode cX11_forests 161 = .ok (.getfield 144, 3) := by decide +kernel
theorem dX11_forests_164 : decode cX11_forests 164 = .ok (.iconst (-1), 1) := by decide +kernel
theorem dX11_forests_165 : decode cX11_forests 165 = .ok (.if_icmp .ne 7, 3) := by decide +kernel
theorem dX11_forests_168 : decode cX11_forests 168 = .ok (.iconst 0, 1) := by decide +kernel
theorem dX11_forests_169 : decode cX11_forests 169 = .ok (.goto 7, 3) := by decide +kernel
theorem dX11_forests_172 : decode cX11_forests 172 = .ok (.aload_n 0, 1) := by decide +kernel
theorem dX11_forests_173 : decode cX11_forests 173 = .ok (.getfield 144, 3) := by decide +kernel
theorem dX11_forests_176 : decode cX11_forests 176 = .ok (.iadd, 1) := by decide +kernel
theorem dX11_forests_177 : decode cX11_forests 177 = .ok (.istore 7, 2) := by decide +kernel
theorem dX11_forests_179 : decode cX11_forests 179 = .ok (.iinc 8 1, 3) := by decide +kernel
theorem dX11_forests_182 : decode cX11_forests 182 = .ok (.goto (-116), 3) := by decide +kernel
theorem dX11_forests_185 : decode cX11_forests 185 = .ok (.iload_n 3, 1) := by decide +kernel
theorem dX11_forests_186 : decode cX11_forests 186 = .ok (.ifCond .ne 8, 3) := by decide +kernel
theorem dX11_forests_189 : decode cX11_forests 189 = .ok (.iload 6, 2) := by decide +kernel
theorem dX11_forests_191 : decode cX11_forests 191 = .ok (.goto 5, 3) := by decide +kernel
theorem dX11_forests_194 : decode cX11_forests 194 = .ok (.iload 7, 2) := by decide +kernel
theorem dX11_forests_196 : decode cX11_forests 196 = .ok (.ireturn, 1) := by decide +kernel
theorem dX11_type_0 : decode cX11_type 0 = .ok (.iload_n 1, 1) := by decide +kernel
theorem dX11_type_1 : decode cX11_type 1 = .ok (.i2l, 1) := by decide +kernel
theorem dX11_type_2 : decode cX11_type 2 = .ok (.lconst 0, 1) := by decide +kernel
theorem dX11_type_3 : decode cX11_type 3 = .ok (.ldc2_w 217, 3) := by decide +kernel
theorem dX11_type_6 : decode cX11_type 6 = .ok (.invokestatic 56, 3) := by decide +kernel
theorem dX11_type_9 : decode cX11_type 9 = .ok (.ifCond .ne 10, 3) := by decide +kernel
theorem dX11_type_12 : decode cX11_type 12 = .ok (.aload_n 0, 1) := by decide +kernel
theorem dX11_type_13 : decode cX11_type 13 = .ok (.bipush (-2), 2) := by decide +kernel
theorem dX11_type_15 : decode cX11_type 15 = .ok (.invokevirtual 66, 3) := by decide +kernel
theorem dX11_type_18 : decode cX11_type 18 = .ok (.ireturn, 1) := by decide +kernel
theorem dX11_type_19 : decode cX11_type 19 = .ok (.aload_n 0, 1) := by decide +kernel
theorem dX11_type_20 : decode cX11_type 20 = .ok (.getfield 219, 3) := by decide +kernel
theorem dX11_type_23 : decode cX11_type 23 = .ok (.sipush 150, 3) := by decide +kernel
theorem dX11_type_26 : decode cX11_type 26 = .ok (.if_icmp .ne 8, 3) := by decide +kernel
theorem dX11_type_29 : decode cX11_type 29 = .ok (.aload_n 0, 1) := by decide +kernel
theorem dX11_type_30 : decode cX11_type 30 = .ok (.invokevirtual 72, 3) := by decide +kernel
theorem dX11_type_33 : decode cX11_type 33 = .ok (.ireturn, 1) := by decide +kernel
theorem dX11_type_34 : decode cX11_type 34 = .ok (.aload_n 0, 1) := by decide +kernel
theorem dX11_type_35 : decode cX11_type 35 = .ok (.getfield 39, 3) := by decide +kernel
theorem dX11_type_38 : decode cX11_type 38 = .ok (.aload_n 0, 1) := by decide +kernel
theorem dX11_type_39 : decode cX11_type 39 = .ok (.getfield 219, 3) := by decide +kernel
theorem dX11_type_42 : decode cX11_type 42 = .ok (.iload_n 1, 1) := by decide +kernel
theorem dX11_type_43 : decode cX11_type 43 = .ok (.iastore, 1) := by decide +kernel
theorem dX11_type_44 : decode cX11_type 44 = .ok (.aload_n 0, 1) := by decide +kernel
theorem dX11_type_45 : decode cX11_type 45 = .ok (.dup, 1) := by decide +kernel
theorem dX11_type_46 : decode cX11_type 46 = .ok (.getfield 219, 3) := by decide +kernel
theorem dX11_type_49 : decode cX11_type 49 = .ok (.iconst 1, 1) := by decide +kernel
theorem dX11_type_50 : decode cX11_type 50 = .ok (.iadd, 1) := by decide +kernel
theorem dX11_type_51 : decode cX11_type 51 = .ok (.putfield 219, 3) := by decide +kernel
theorem dX11_type_54 : decode cX11_type 54 = .ok (.aload_n 0, 1) := by decide +kernel
theorem dX11_type_55 : decode cX11_type 55 = .ok (.getfield 219, 3) := by decide +kernel
theorem dX11_type_58 : decode cX11_type 58 = .ok (.ireturn, 1) := by decide +kernel
theorem dX11_clear_0 : decode cX11_clear 0 = .ok (.aload_n 0, 1) := by decide +kernel
theorem dX11_clear_1 : decode cX11_clear 1 = .ok (.getfield 219, 3) := by decide +kernel
theorem dX11_clear_4 : decode cX11_clear 4 = .ok (.istore_n 1, 1) := by decide +kernel
theorem dX11_clear_5 : decode cX11_clear 5 = .ok (.aload_n 0, 1) := by decide +kernel
theorem dX11_clear_6 : decode cX11_clear 6 = .ok (.iconst 0, 1) := by decide +kernel
theorem dX11_clear_7 : decode cX11_clear 7 = .ok (.putfield 219, 3) := by decide +kernel
theorem dX11_clear_10 : decode cX11_clear 10 = .ok (.iload_n 1, 1) := by decide +kernel
theorem dX11_clear_11 : decode cX11_clear 11 = .ok (.ireturn, 1) := by decide +kernel
theorem dX11_isSmall_0 : decode cX11_isSmall 0 = .ok (.iload_n 0, 1) := by decide +kernel
theorem dX11_isSmall_1 : decode cX11_isSmall 1 = .ok (.i2l, 1) := by decide +kernel
theorem dX11_isSmall_2 : decode cX11_isSmall 2 = .ok (.ldc2_w 222, 3) := by decide +kernel
theorem dX11_isSmall_5 : decode cX11_isSmall 5 = .ok (.ldc2_w 224, 3) := by decide +kernel
theorem dX11_isSmall_8 : decode cX11_isSmall 8 = .ok (.invokestatic 56, 3) := by decide +kernel
theorem dX11_isSmall_11 : decode cX11_isSmall 11 = .ok (.ireturn, 1) := by decide +kernel
theorem dX11_isFigure_0 : decode cX11_isFigure 0 = .ok (.iload_n 0, 1) := by decide +kernel
theorem dX11_isFigure_1 : decode cX11_isFigure 1 = .ok (.i2l, 1) := by decide +kernel
theorem dX11_isFigure_2 : decode cX11_isFigure 2 = .ok (.ldc2_w 226, 3) := by decide +kernel
theorem dX11_isFigure_5 : decode cX11_isFigure 5 = .ok (.ldc2_w 228, 3) := by decide +kernel
theorem dX11_isFigure_8 : decode cX11_isFigure 8 = .ok (.invokestatic 56, 3) := by decide +kernel
theorem dX11_isFigure_11 : decode cX11_isFigure 11 = .ok (.ireturn, 1) := by decide +kernel
theorem dX11_lookAt_0 : decode cX11_lookAt 0 = .ok (.aload_n 0, 1) := by decide +kernel
theorem dX11_lookAt_1 : decode cX11_lookAt 1 = .ok (.iload_n 1, 1) := by decide +kernel
theorem dX11_lookAt_2 : decode cX11_lookAt 2 = .ok (.putfield 230, 3) := by decide +kernel
theorem dX11_lookAt_5 : decode cX11_lookAt 5 = .ok (.aload_n 0, 1) := by decide +kernel
theorem dX11_lookAt_6 : decode cX11_lookAt 6 = .ok (.getfield 230, 3) := by decide +kernel
theorem dX11_lookAt_9 : decode cX11_lookAt 9 = .ok (.aload_n 0, 1) := by decide +kernel
theorem dX11_lookAt_10 : decode cX11_lookAt 10 = .ok (.getfield 219, 3) := by decide +kernel
theorem dX11_lookAt_13 : decode cX11_lookAt 13 = .ok (.if_icmp .ge 30, 3) := by decide +kernel
theorem dX11_lookAt_16 : decode cX11_lookAt 16 = .ok (.aload_n 0, 1) := by decide +kernel
theorem dX11_lookAt_17 : decode cX11_lookAt 17 = .ok (.getfield 39, 3) := by decide +kernel
theorem dX11_lookAt_20 : decode cX11_lookAt 20 = .ok (.aload_n 0, 1) := by decide +kernel
theorem dX11_lookAt_21 : decode cX11_lookAt 21 = .ok (.getfield 230, 3) := by decide +kernel
theorem dX11_lookAt_24 : decode cX11_lookAt 24 = .ok (.iaload, 1) := by decide +kernel
theorem dX11_lookAt_25 : decode cX11_lookAt 25 = .ok (.bipush 32, 2) := by decide +kernel
theorem dX11_lookAt_27 : decode cX11_lookAt 27 = .ok (.if_icmp .ne 16, 3) := by decide +kernel
theorem dX11_lookAt_30 : decode cX11_lookAt 30 = .ok (.aload_n 0, 1) := by decide +kernel
theorem dX11_lookAt_31 : decode cX11_lookAt 31 = .ok (.dup, 1) := by decide +kernel
theorem dX11_lookAt_32 : decode cX11_lookAt 32 = .ok (.getfield 230, 3) := by decide +kernel
theorem dX11_lookAt_35 : decode cX11_lookAt 35 = .ok (.iconst 1, 1) := by decide +kernel
theorem dX11_lookAt_36 : decode cX11_lookAt 36 = .ok (.iadd, 1) := by decide +kernel
theorem dX11_lookAt_37 : decode cX11_lookAt 37 = .ok (.putfield 230, 3) := by decide +kernel
theorem dX11_lookAt_40 : decode cX11_lookAt 40 = .ok (.goto (-35), 3) := by decide +kernel
theorem dX11_lookAt_43 : decode cX11_lookAt 43 = .ok (.aload_n 0, 1) := by decide +kernel
theorem dX11_lookAt_44 : decode cX11_lookAt 44 = .ok (.iconst 0, 1) := by decide +kernel
theorem dX11_lookAt_45 : decode cX11_lookAt 45 = .ok (.putfield 233, 3) := by decide +kernel
theorem dX11_lookAt_48 : decode cX11_lookAt 48 = .ok (.aload_n 0, 1) := by decide +kernel
theorem dX11_lookAt_49 : decode cX11_lookAt 49 = .ok (.iconst 0, 1) := by decide +kernel
theorem dX11_lookAt_50 : decode cX11_lookAt 50 = .ok (.putfield 236, 3) := by decide +kernel
theorem dX11_lookAt_53 : decode cX11_lookAt 53 = .ok (.aload_n 0, 1) := by decide +kernel
theorem dX11_lookAt_54 : decode cX11_lookAt 54 = .ok (.iconst 0, 1) := by decide +kernel
theorem dX11_lookAt_55 : decode cX11_lookAt 55 = .ok (.putfield 239, 3) := by decide +kernel
theorem dX11_lookAt_58 : decode cX11_lookAt 58 = .ok (.aload_n 0, 1) := by decide +kernel
theorem dX11_lookAt_59 : decode cX11_lookAt 59 = .ok (.getfield 230, 3) := by decide +kernel
theorem dX11_lookAt_62 : decode cX11_lookAt 62 = .ok (.aload_n 0, 1) := by decide +kernel
theorem dX11_lookAt_63 : decode cX11_lookAt 63 = .ok (.getfield 219, 3) := by decide +kernel
theorem dX11_lookAt_66 : decode cX11_lookAt 66 = .ok (.if_icmp .ne 4, 3) := by decide +kernel
theorem dX11_lookAt_69 : decode cX11_lookAt 69 = .ok (.return_, 1) := by decide +kernel
theorem dX11_lookAt_70 : decode cX11_lookAt 70 = .ok (.aload_n 0, 1) := by decide +kernel
theorem dX11_lookAt_71 : decode cX11_lookAt 71 = .ok (.getfield 39, 3) := by decide +kernel
theorem dX11_lookAt_74 : decode cX11_lookAt 74 = .ok (.aload_n 0, 1) := by decide +kernel
theorem dX11_lookAt_75 : decode cX11_lookAt 75 = .ok (.getfield 230, 3) := by decide +kernel
theorem dX11_lookAt_78 : decode cX11_lookAt 78 = .ok (.iaload, 1) := by decide +kernel
theorem dX11_lookAt_79 : decode cX11_lookAt 79 = .ok (.istore_n 2, 1) := by decide +kernel
theorem dX11_lookAt_80 : decode cX11_lookAt 80 = .ok (.aload_n 0, 1) := by decide +kernel
theorem dX11_lookAt_81 : decode cX11_lookAt 81 = .ok (.iload_n 2, 1) := by decide +kernel
theorem dX11_lookAt_82 : decode cX11_lookAt 82 = .ok (.invokestatic 242, 3) := by decide +kernel
theorem dX11_lookAt_85 : decode cX11_lookAt 85 = .ok (.ifCond .eq 7, 3) := by decide +kernel
theorem dX11_lookAt_88 : decode cX11_lookAt 88 = .ok (.iconst 1, 1) := by decide +kernel
theorem dX11_lookAt_89 : decode cX11_lookAt 89 = .ok (.goto 25, 3) := by decide +kernel
theorem dX11_lookAt_92 : decode cX11_lookAt 92 = .ok (.iload_n 2, 1) := by decide +kernel
theorem dX11_lookAt_93 : decode cX11_lookAt 93 = .ok (.invokestatic 245, 3) := by decide +kernel
theorem dX11_lookAt_96 : decode cX11_lookAt 96 = .ok (.ifCond .eq 7, 3) := by decide +kernel
theorem dX11_lookAt_99 : decode cX11_lookAt 99 = .ok (.iconst 2, 1) := by decide +kernel
theorem dX11_lookAt_100 : decode cX11_lookAt 100 = .ok (.goto 14, 3) := by decide +kernel
theorem dX11_lookAt_103 : decode cX11_lookAt 103 = .ok (.iload_n 2, 1) := by decide +kernel
theorem dX11_lookAt_104 : decode cX11_lookAt 104 = .ok (.bipush 59, 2) := by decide +kernel
theorem dX11_lookAt_106 : decode cX11_lookAt 106 = .ok (.if_icmp .ne 7, 3) := by decide +kernel
theorem dX11_lookAt_109 : decode cX11_lookAt 109 = .ok (.iconst 3, 1) := by decide +kernel
theorem dX11_lookAt_110 : decode cX11_lookAt 110 = .ok (.goto 4, 3) := by decide +kernel
theorem dX11_lookAt_113 : decode cX11_lookAt 113 = .ok (.iconst 4, 1) := by decide +kernel
theorem dX11_lookAt_114 : decode cX11_lookAt 114 = .ok (.putfield 236, 3) := by decide +kernel
theorem dX11_lookAt_117 : decode cX11_lookAt 117 = .ok (.aload_n 0, 1) := by decide +kernel
theorem dX11_lookAt_118 : decode cX11_lookAt 118 = .ok (.iconst 1, 1) := by decide +kernel
theorem dX11_lookAt_119 : decode cX11_lookAt 119 = .ok (.putfield 233, 3) := by decide +kernel
theorem dX11_lookAt_122 : decode cX11_lookAt 122 = .ok (.aload_n 0, 1) := by decide +kernel
theorem dX11_lookAt_123 : decode cX11_lookAt 123 = .ok (.getfield 236, 3) := by decide +kernel
theorem dX11_lookAt_126 : decode cX11_lookAt 126 = .ok (.iconst 3, 1) := by decide +kernel
theorem dX11_lookAt_127 : decode cX11_lookAt 127 = .ok (.if_icmp .ge 7, 3) := by decide +kernel
theorem dX11_lookAt_130 : decode cX11_lookAt 130 = .ok (.iconst 1, 1) := by decide +kernel
theorem dX11_lookAt_131 : decode cX11_lookAt 131 = .ok (.goto 4, 3) := by decide +kernel
theorem dX11_lookAt_134 : decode cX11_lookAt 134 = .ok (.iconst 0, 1) := by decide +kernel
theorem dX11_lookAt_135 : decode cX11_lookAt 135 = .ok (.istore_n 3, 1) := by decide +kernel
theorem dX11_lookAt_136 : decode cX11_lookAt 136 = .ok (.iload_n 3, 1) := by decide +kernel
theorem dX11_lookAt_137 : decode cX11_lookAt 137 = .ok (.ifCond .eq 78, 3) := by decide +kernel
theorem dX11_lookAt_140 : decode cX11_lookAt 140 = .ok (.aload_n 0, 1) := by decide +kernel
theorem dX11_lookAt_141 : decode cX11_lookAt 141 = .ok (.getfield 230, 3) := by decide +kernel
theorem dX11_lookAt_144 : decode cX11_lookAt 144 = .ok (.aload_n 0, 1) := by decide +kernel
theorem dX11_lookAt_145 : decode cX11_lookAt 145 = .ok (.getfield 233, 3) := by decide +kernel
theorem dX11_lookAt_148 : decode cX11_lookAt 148 = .ok (.iadd, 1) := by decide +kernel
theorem dX11_lookAt_149 : decode cX11_lookAt 149 = .ok (.aload_n 0, 1) := by decide +kernel
theorem dX11_lookAt_150 : decode cX11_lookAt 150 = .ok (.getfield 219, 3) := by decide +kernel
theorem dX11_lookAt_153 : decode cX11_lookAt 153 = .ok (.if_icmp .ge 62, 3) := by decide +kernel
theorem dX11_lookAt_156 : decode cX11_lookAt 156 = .ok (.aload_n 0, 1) := by decide +kernel
theorem dX11_lookAt_157 : decode cX11_lookAt 157 = .ok (.getfield 39, 3) := by decide +kernel
theorem dX11_lookAt_160 : decode cX11_lookAt 160 = .ok (.aload_n 0, 1) := by decide +kernel
theorem dX11_lookAt_161 : decode cX11_lookAt 161 = .ok (.getfield 230, 3) := by decide +kernel
theorem dX11_lookAt_164 : decode cX11_lookAt 164 = .ok (.aload_n 0, 1) := by decide +kernel
theorem dX11_lookAt_165 : decode cX11_lookAt 165 = .ok (.getfield 233, 3) := by decide +kernel
theorem dX11_lookAt_168 : decode cX11_lookAt 168 = .ok (.iadd, 1) := by decide +kernel
theorem dX11_lookAt_169 : decode cX11_lookAt 169 = .ok (.iaload, 1) := by decide +kernel
theorem dX11_lookAt_170 : decode cX11_lookAt 170 = .ok (.istore 4, 2) := by decide +kernel
theorem dX11_lookAt_172 : decode cX11_lookAt 172 = .ok (.aload_n 0, 1) := by decide +kernel
theorem dX11_lookAt_173 : decode cX11_lookAt 173 = .ok (.getfield 236, 3) := by decide +kernel
theorem dX11_lookAt_176 : decode cX11_lookAt 176 = .ok (.iconst 1, 1) := by decide +kernel
theorem dX11_lookAt_177 : decode cX11_lookAt 177 = .ok (.if_icmp .ne 11, 3) := by decide +kernel
theorem dX11_lookAt_180 : decode cX11_lookAt 180 = .ok (.iload 4, 2) := by decide +kernel
theorem dX11_lookAt_182 : decode cX11_lookAt 182 = .ok (.invokestatic 242, 3) := by decide +kernel
theorem dX11_lookAt_185 : decode cX11_lookAt 185 = .ok (.goto 8, 3) := by decide +kernel
theorem dX11_lookAt_188 : decode cX11_lookAt 188 = .ok (.iload 4, 2) := by decide +kernel
theorem dX11_lookAt_190 : decode cX11_lookAt 190 = .ok (.invokestatic 245, 3) := by decide +kernel
theorem dX11_lookAt_193 : decode cX11_lookAt 193 = .ok (.istore_n 3, 1) := by decide +kernel
theorem dX11_lookAt_194 : decode cX11_lookAt 194 = .ok (.aload_n 0, 1) := by decide +kernel
theorem dX11_lookAt_195 : decode cX11_lookAt 195 = .ok (.dup, 1) := by decide +kernel
theorem dX11_lookAt_196 : decode cX11_lookAt 196 = .ok (.getfield 233, 3) := by decide +kernel
theorem dX11_lookAt_199 : decode cX11_lookAt 199 = .ok (.iload_n 3, 1) := by decide +kernel
theorem dX11_lookAt_200 : decode cX11_lookAt 200 = .ok (.ifCond .eq 7, 3) := by decide +kernel
theorem dX11_lookAt_203 : decode cX11_lookAt 203 = .ok (.iconst 1, 1) := by decide +kernel
theorem dX11_lookAt_204 : decode cX11_lookAt 204 = .ok (.goto 4, 3) := by decide +kernel
theorem dX11_lookAt_207 : decode cX11_lookAt 207 = .ok (.iconst 0, 1) := by decide +kernel
theorem dX11_lookAt_208 : decode cX11_lookAt 208 = .ok (.iadd, 1) := by decide +kernel
theorem dX11_lookAt_209 : decode cX11_lookAt 209 = .ok (.putfield 233, 3) := by decide +kernel
theorem dX11_lookAt_212 : decode cX11_lookAt 212 = .ok (.goto (-76), 3) := by decide +kernel
theorem dX11_lookAt_215 : decode cX11_lookAt 215 = .ok (.iconst 0, 1) := by decide +kernel
theorem dX11_lookAt_216 : decode cX11_lookAt 216 = .ok (.istore 4, 2) := by decide +kernel
theorem dX11_lookAt_218 : decode cX11_lookAt 218 = .ok (.iload 4, 2) := by decide +kernel
theorem dX11_lookAt_220 : decode cX11_lookAt 220 = .ok (.aload_n 0, 1) := by decide +kernel
theorem dX11_lookAt_221 : decode cX11_lookAt 221 = .ok (.getfield 233, 3) := by decide +kernel
theorem dX11_lookAt_224 : decode cX11_lookAt 224 = .ok (.if_icmp .ge 50, 3) := by decide +kernel
theorem dX11_lookAt_227 : decode cX11_lookAt 227 = .ok (.iload 4, 2) := by decide +kernel
theorem dX11_lookAt_229 : decode cX11_lookAt 229 = .ok (.iconst 2, 1) := by decide +kernel
theorem dX11_lookAt_230 : decode cX11_lookAt 230 = .ok (.if_icmp .ge 44, 3) := by decide +kernel
theorem dX11_lookAt_233 : decode cX11_lookAt 233 = .ok (.aload_n 0, 1) := by decide +kernel
theorem dX11_lookAt_234 : decode cX11_lookAt 234 = .ok (.getfield 236, 3) := by decide +kernel
theorem dX11_lookAt_237 : decode cX11_lookAt 237 = .ok (.iconst 2, 1) := by decide +kernel
theorem dX11_lookAt_238 : decode cX11_lookAt 238 = .ok (.if_icmp .ne 36, 3) := by decide +kernel
theorem dX11_lookAt_241 : decode cX11_lookAt 241 = .ok (.aload_n 0, 1) := by decide +kernel
theorem dX11_lookAt_242 : decode cX11_lookAt 242 = .ok (.bipush 10, 2) := by decide +kernel
theorem dX11_lookAt_244 : decode cX11_lookAt 244 = .ok (.aload_n 0, 1) := by decide +kernel
theorem dX11_lookAt_245 : decode cX11_lookAt 245 = .ok (.getfield 239, 3) := by decide +kernel
theorem dX11_lookAt_248 : decode cX11_lookAt 248 = .ok (.imul, 1) := by decide +kernel
theorem dX11_lookAt_249 : decode cX11_lookAt 249 = .ok (.aload_n 0, 1) := by decide +kernel
theorem dX11_lookAt_250 : decode cX11_lookAt 250 = .ok (.getfield 39, 3) := by decide +kernel
theorem dX11_lookAt_253 : decode cX11_lookAt 253 = .ok (.aload_n 0, 1) := by decide +kernel
theorem dX11_lookAt_254 : decode cX11_lookAt 254 = .ok (.getfield 230, 3) := by decide +kernel
theorem dX11_lookAt_257 : decode cX11_lookAt 257 = .ok (.iload 4, 2) := by decide +kernel
theorem dX11_lookAt_259 : decode cX11_lookAt 259 = .ok (.iadd, 1) := by decide +kernel
theorem dX11_lookAt_260 : decode cX11_lookAt 260 = .ok (.iaload, 1) := by decide +kernel
theorem dX11_lookAt_261 : decode cX11_lookAt 261 = .ok (.iadd, 1) := by decide +kernel
theorem dX11_lookAt_262 : decode cX11_lookAt 262 = .ok (.bipush 48, 2) := by decide +kernel
theorem dX11_lookAt_264 : decode cX11_lookAt 264 = .ok (.isub, 1) := by decide +kernel
theorem dX11_lookAt_265 : decode cX11_lookAt 265 = .ok (.putfield 239, 3) := by decide +kernel
theorem dX11_lookAt_268 : decode cX11_lookAt 268 = .ok (.iinc 4 1, 3) := by decide +kernel
theorem dX11_lookAt_271 : decode cX11_lookAt 271 = .ok (.goto (-53), 3) := by decide +kernel
theorem dX11_lookAt_274 : decode cX11_lookAt 274 = .ok (.aload_n 0, 1) := by decide +kernel
theorem dX11_lookAt_275 : decode cX11_lookAt 275 = .ok (.aload_n 0, 1) := by decide +kernel
theorem dX11_lookAt_276 : decode cX11_lookAt 276 = .ok (.getfield 236, 3) := by decide +kernel
theorem dX11_lookAt_279 : decode cX11_lookAt 279 = .ok (.iconst 2, 1) := by decide +kernel
theorem dX11_lookAt_280 : decode cX11_lookAt 280 = .ok (.if_icmp .ne 15, 3) := by decide +kernel
theorem dX11_lookAt_283 : decode cX11_lookAt 283 = .ok (.aload_n 0, 1) := by decide +kernel
theorem dX11_lookAt_284 : decode cX11_lookAt 284 = .ok (.getfield 233, 3) := by decide +kernel
theorem dX11_lookAt_287 : decode cX11_lookAt 287 = .ok (.iconst 2, 1) := by decide +kernel
theorem dX11_lookAt_288 : decode cX11_lookAt 288 = .ok (.if_icmp .le 7, 3) := by decide +kernel
theorem dX11_lookAt_291 : decode cX11_lookAt 291 = .ok (.iconst 4, 1) := by decide +kernel
theorem dX11_lookAt_292 : decode cX11_lookAt 292 = .ok (.goto 7, 3) := by decide +kernel
theorem dX11_lookAt_295 : decode cX11_lookAt 295 = .ok (.aload_n 0, 1) := by decide +kernel
theorem dX11_lookAt_296 : decode cX11_lookAt 296 = .ok (.getfield 236, 3) := by decide +kernel
theorem dX11_lookAt_299 : decode cX11_lookAt 299 = .ok (.putfield 236, 3) := by decide +kernel
theorem dX11_lookAt_302 : decode cX11_lookAt 302 = .ok (.return_, 1) := by decide +kernel
theorem dX11_goBehind_0 : decode cX11_goBehind 0 = .ok (.aload_n 0, 1) := by decide +kernel
theorem dX11_goBehind_1 : decode cX11_goBehind 1 = .ok (.aload_n 0, 1) := by decide +kernel
theorem dX11_goBehind_2 : decode cX11_goBehind 2 = .ok (.getfield 230, 3) := by decide +kernel
theorem dX11_goBehind_5 : decode cX11_goBehind 5 = .ok (.aload_n 0, 1) := by decide +kernel
theorem dX11_goBehind_6 : decode cX11_goBehind 6 = .ok (.getfield 233, 3) := by decide +kernel
theorem dX11_goBehind_9 : decode cX11_goBehind 9 = .ok (.iadd, 1) := by decide +kernel
theorem dX11_goBehind_10 : decode cX11_goBehind 10 = .ok (.invokevirtual 248, 3) := by decide +kernel
theorem dX11_goBehind_13 : decode cX11_goBehind 13 = .ok (.return_, 1) := by decide +kernel
theorem dX11_spells_0 : decode cX11_spells 0 = .ok (.aload_n 0, 1) := by decide +kernel
theorem dX11_spells_1 : decode cX11_spells 1 = .ok (.getfield 236, 3) := by decide +kernel
theorem dX11_spells_4 : decode cX11_spells 4 = .ok (.iconst 1, 1) := by decide +kernel
theorem dX11_spells_5 : decode cX11_spells 5 = .ok (.if_icmp .ne 15, 3) := by decide +kernel
theorem dX11_spells_8 : decode cX11_spells 8 = .ok (.aload_n 0, 1) := by decide +kernel
theorem dX11_spells_9 : decode cX11_spells 9 = .ok (.getfield 233, 3) := by decide +kernel
theorem dX11_spells_12 : decode cX11_spells 12 = .ok (.iload_n 1, 1) := by decide +kernel
theorem dX11_spells_13 : decode cX11_spells 13 = .ok (.if_icmp .ne 7, 3) := by decide +kernel
theorem dX11_spells_16 : decode cX11_spells 16 = .ok (.iconst 1, 1) := by decide +kernel
theorem dX11_spells_17 : decode cX11_spells 17 = .ok (.goto 4, 3) := by decide +kernel
theorem dX11_spells_20 : decode cX11_spells 20 = .ok (.iconst 0, 1) := by decide +kernel
theorem dX11_spells_21 : decode cX11_spells 21 = .ok (.istore 8, 2) := by decide +kernel
theorem dX11_spells_23 : decode cX11_spells 23 = .ok (.iconst 0, 1) := by decide +kernel
theorem dX11_spells_24 : decode cX11_spells 24 = .ok (.istore 9, 2) := by decide +kernel
theorem dX11_spells_26 : decode cX11_spells 26 = .ok (.iload 9, 2) := by decide +kernel
theorem dX11_spells_28 : decode cX11_spells 28 = .ok (.iload_n 1, 1) := by decide +kernel
theorem dX11_spells_29 : decode cX11_spells 29 = .ok (.if_icmp .ge 90, 3) := by decide +kernel
theorem dX11_spells_32 : decode cX11_spells 32 = .ok (.iload 8, 2) := by decide +kernel
theorem dX11_spells_34 : decode cX11_spells 34 = .ok (.ifCond .eq 85, 3) := by decide +kernel
theorem dX11_spells_37 : decode cX11_spells 37 = .ok (.aload_n 0, 1) := by decide +kernel
theorem dX11_spells_38 : decode cX11_spells 38 = .ok (.getfield 39, 3) := by decide +kernel
theorem dX11_spells_41 : decode cX11_spells 41 = .ok (.aload_n 0, 1) := by decide +kernel
theorem dX11_spells_42 : decode cX11_spells 42 = .ok (.getfield 230, 3) := by decide +kernel
theorem dX11_spells_45 : decode cX11_spells 45 = .ok (.iload 9, 2) := by decide +kernel
theorem dX11_spells_47 : decode cX11_spells 47 = .ok (.iadd, 1) := by decide +kernel
theorem dX11_spells_48 : decode cX11_spells 48 = .ok (.iaload, 1) := by decide +kernel
theorem dX11_spells_49 : decode cX11_spells 49 = .ok (.iload 9, 2) := by decide +kernel
theorem dX11_spells_51 : decode cX11_spells 51 = .ok (.ifCond .ne 7, 3) := by decide +kernel
theorem dX11_spells_54 : decode cX11_spells 54 = .ok (.iload_n 2, 1) := by decide +kernel
theorem dX11_spells_55 : decode cX11_spells 55 = .ok (.goto 48, 3) := by decide +kernel
theorem dX11_spells_58 : decode cX11_spells 58 = .ok (.iload 9, 2) := by decide +kernel
theorem dX11_spells_60 : decode cX11_spells 60 = .ok (.iconst 1, 1) := by decide +kernel
theorem dX11_spells_61 : decode cX11_spells 61 = .ok (.if_icmp .ne 7, 3) := by decide +kernel
theorem dX11_spells_64 : decode cX11_spells 64 = .ok (.iload_n 3, 1) := by decide +kernel
theorem dX11_spells_65 : decode cX11_spells 65 = .ok (.goto 38, 3) := by decide +kernel
theorem dX11_spells_68 : decode cX11_spells 68 = .ok (.iload 9, 2) := by decide +kernel
theorem dX11_spells_70 : decode cX11_spells 70 = .ok (.iconst 2, 1) := by decide +kernel
theorem dX11_spells_71 : decode cX11_spells 71 = .ok (.if_icmp .ne 8, 3) := by decide +kernel
theorem dX11_spells_74 : decode cX11_spells 74 = .ok (.iload 4, 2) := by decide +kernel
theorem dX11_spells_76 : decode cX11_spells 76 = .ok (.goto 27, 3) := by decide +kernel
theorem dX11_spells_79 : decode cX11_spells 79 = .ok (.iload 9, 2) := by decide +kernel
theorem dX11_spells_81 : decode cX11_spells 81 = .ok (.iconst 3, 1) := by decide +kernel
theorem dX11_spells_82 : decode cX11_spells 82 = .ok (.if_icmp .ne 8, 3) := by decide +kernel
theorem dX11_spells_85 : decode cX11_spells 85 = .ok (.iload 5, 2) := by decide +kernel
theorem dX11_spells_87 : decode cX11_spells 87 = .ok (.goto 16, 3) := by decide +kernel
theorem dX11_spells_90 : decode cX11_spells 90 = .ok (.iload 9, 2) := by decide +kernel
theorem dX11_spells_92 : decode cX11_spells 92 = .ok (.iconst 4, 1) := by decide +kernel
theorem dX11_spells_93 : decode cX11_spells 93 = .ok (.if_icmp .ne 8, 3) := by decide +kernel
theorem dX11_spells_96 : decode cX11_spells 96 = .ok (.iload 6, 2) := by decide +kernel
theorem dX11_spells_98 : decode cX11_spells 98 = .ok (.goto 5, 3) := by decide +kernel
theorem dX11_spells_101 : decode cX11_spells 101 = .ok (.iload 7, 2) := by decide +kernel
theorem dX11_spells_103 : decode cX11_spells 103 = .ok (.if_icmp .ne 7, 3) := by decide +kernel
theorem dX11_spells_106 : decode cX11_spells 106 = .ok (.iconst 1, 1) := by decide +kernel
theorem dX11_spells_107 : decode cX11_spells 107 = .ok (.goto 4, 3) := by decide +kernel
theorem dX11_spells_110 : decode cX11_spells 110 = .ok (.iconst 0, 1) := by decide +kernel
theorem dX11_spells_111 : decode cX11_spells 111 = .ok (.istore 8, 2) := by decide +kernel
theorem dX11_spells_113 : decode cX11_spells 113 = .ok (.iinc 9 1, 3) := by decide +kernel
theorem dX11_spells_116 : decode cX11_spells 116 = .ok (.goto (-90), 3) := by decide +kernel
theorem dX11_spells_119 : decode cX11_spells 119 = .ok (.iload 8, 2) := by decide +kernel
theorem dX11_spells_121 : decode cX11_spells 121 = .ok (.ireturn, 1) := by decide +kernel
theorem dX11_takes_0 : decode cX11_takes 0 = .ok (.aload_n 0, 1) := by decide +kernel
theorem dX11_takes_1 : decode cX11_takes 1 = .ok (.getfield 236, 3) := by decide +kernel
theorem dX11_takes_4 : decode cX11_takes 4 = .ok (.iconst 2, 1) := by decide +kernel
theorem dX11_takes_5 : decode cX11_takes 5 = .ok (.if_icmp .ne 18, 3) := by decide +kernel
theorem dX11_takes_8 : decode cX11_takes 8 = .ok (.aload_n 0, 1) := by decide +kernel
theorem dX11_takes_9 : decode cX11_takes 9 = .ok (.getfield 239, 3) := by decide +kernel
theorem dX11_takes_12 : decode cX11_takes 12 = .ok (.i2l, 1) := by decide +kernel
theorem dX11_takes_13 : decode cX11_takes 13 = .ok (.iload_n 2, 1) := by decide +kernel
theorem dX11_takes_14 : decode cX11_takes 14 = .ok (.i2l, 1) := by decide +kernel
theorem dX11_takes_15 : decode cX11_takes 15 = .ok (.iload_n 3, 1) := by decide +kernel
theorem dX11_takes_16 : decode cX11_takes 16 = .ok (.i2l, 1) := by decide +kernel
theorem dX11_takes_17 : decode cX11_takes 17 = .ok (.invokestatic 56, 3) := by decide +kernel
theorem dX11_takes_20 : decode cX11_takes 20 = .ok (.ifCond .ne 5, 3) := by decide +kernel
theorem dX11_takes_23 : decode cX11_takes 23 = .ok (.iconst 0, 1) := by decide +kernel
theorem dX11_takes_24 : decode cX11_takes 24 = .ok (.ireturn, 1) := by decide +kernel
theorem dX11_takes_25 : decode cX11_takes 25 = .ok (.aload_n 0, 1) := by decide +kernel
theorem dX11_takes_26 : decode cX11_takes 26 = .ok (.getfield 45, 3) := by decide +kernel
theorem dX11_takes_29 : decode cX11_takes 29 = .ok (.iload_n 1, 1) := by decide +kernel
theorem dX11_takes_30 : decode cX11_takes 30 = .ok (.aload_n 0, 1) := by decide +kernel
theorem dX11_takes_31 : decode cX11_takes 31 = .ok (.getfield 239, 3) := by decide +kernel
theorem dX11_takes_34 : decode cX11_takes 34 = .ok (.iastore, 1) := by decide +kernel
theorem dX11_takes_35 : decode cX11_takes 35 = .ok (.aload_n 0, 1) := by decide +kernel
theorem dX11_takes_36 : decode cX11_takes 36 = .ok (.invokevirtual 252, 3) := by decide +kernel
theorem dX11_takes_39 : decode cX11_takes 39 = .ok (.iconst 1, 1) := by decide +kernel
theorem dX11_takes_40 : decode cX11_takes 40 = .ok (.ireturn, 1) := by decide +kernel
theorem dX11_takesWood_0 : decode cX11_takesWood 0 = .ok (.aload_n 0, 1) := by decide +kernel
theorem dX11_takesWood_1 : decode cX11_takesWood 1 = .ok (.iconst 4, 1) := by decide +kernel
theorem dX11_takesWood_2 : decode cX11_takesWood 2 = .ok (.bipush 119, 2) := by decide +kernel
theorem dX11_takesWood_4 : decode cX11_takesWood 4 = .ok (.bipush 111, 2) := by decide +kernel
theorem dX11_takesWood_6 : decode cX11_takesWood 6 = .ok (.bipush 111, 2) := by decide +kernel
theorem dX11_takesWood_8 : decode cX11_takesWood 8 = .ok (.bipush 100, 2) := by decide +kernel
theorem dX11_takesWood_10 : decode cX11_takesWood 10 = .ok (.iconst 0, 1) := by decide +kernel
theorem dX11_takesWood_11 : decode cX11_takesWood 11 = .ok (.iconst 0, 1) := by decide +kernel
theorem dX11_takesWood_12 : decode cX11_takesWood 12 = .ok (.invokevirtual 255, 3) := by decide +kernel
theorem dX11_takesWood_15 : decode cX11_takesWood 15 = .ok (.ifCond .ne 5, 3) := by decide +kernel
theorem dX11_takesWood_18 : decode cX11_takesWood 18 = .ok (.iconst 0, 1) := by decide +kernel
theorem dX11_takesWood_19 : decode cX11_takesWood 19 = .ok (.ireturn, 1) := by decide +kernel
theorem dX11_takesWood_20 : decode cX11_takesWood 20 = .ok (.aload_n 0, 1) := by decide +kernel
theorem dX11_takesWood_21 : decode cX11_takesWood 21 = .ok (.invokevirtual 252, 3) := by decide +kernel
theorem dX11_takesWood_24 : decode cX11_takesWood 24 = .ok (.aload_n 0, 1) := by decide +kernel
theorem dX11_takesWood_25 : decode cX11_takesWood 25 = .ok (.iconst 0, 1) := by decide +kernel
theorem dX11_takesWood_26 : decode cX11_takesWood 26 = .ok (.iconst 0, 1) := by decide +kernel
theorem dX11_takesWood_27 : decode cX11_takesWood 27 = .ok (.bipush 99, 2) := by decide +kernel
theorem dX11_takesWood_29 : decode cX11_takesWood 29 = .ok (.invokevirtual 259, 3) := by decide +kernel
theorem dX11_takesWood_32 : decode cX11_takesWood 32 = .ok (.ifCond .ne 5, 3) := by decide +kernel
theorem dX11_takesWood_35 : decode cX11_takesWood 35 = .ok (.iconst 0, 1) := by decide +kernel
theorem dX11_takesWood_36 : decode cX11_takesWood 36 = .ok (.ireturn, 1) := by decide +kernel
theorem dX11_takesWood_37 : decode cX11_takesWood 37 = .ok (.aload_n 0, 1) := by decide +kernel
theorem dX11_takesWood_38 : decode cX11_takesWood 38 = .ok (.getfield 42, 3) := by decide +kernel
theorem dX11_takesWood_41 : decode cX11_takesWood 41 = .ok (.aload_n 0, 1) := by decide +kernel
theorem dX11_takesWood_42 : decode cX11_takesWood 42 = .ok (.getfield 45, 3) := by decide +kernel
theorem dX11_takesWood_45 : decode cX11_takesWood 45 = .ok (.iconst 0, 1) := by decide +kernel
theorem dX11_takesWood_46 : decode cX11_takesWood 46 = .ok (.iaload, 1) := by decide +kernel
theorem dX11_takesWood_47 : decode cX11_takesWood 47 = .ok (.invokestatic 48, 3) := by decide +kernel
theorem dX11_takesWood_50 : decode cX11_takesWood 50 = .ok (.aload_n 0, 1) := by decide +kernel
theorem dX11_takesWood_51 : decode cX11_takesWood 51 = .ok (.getfield 236, 3) := by decide +kernel
theorem dX11_takesWood_54 : decode cX11_takesWood 54 = .ok (.iconst 3, 1) := by decide +kernel
theorem dX11_takesWood_55 : decode cX11_takesWood 55 = .ok (.if_icmp .ne 7, 3) := by decide +kernel
theorem dX11_takesWood_58 : decode cX11_takesWood 58 = .ok (.iconst 1, 1) := by decide +kernel
theorem dX11_takesWood_59 : decode cX11_takesWood 59 = .ok (.goto 4, 3) := by decide +kernel
theorem dX11_takesWood_62 : decode cX11_takesWood 62 = .ok (.iconst 0, 1) := by decide +kernel
theorem dX11_takesWood_63 : decode cX11_takesWood 63 = .ok (.ireturn, 1) := by decide +kernel
theorem dX11_takesTree_0 : decode cX11_takesTree 0 = .ok (.aload_n 0, 1) := by decide +kernel
theorem dX11_takesTree_1 : decode cX11_takesTree 1 = .ok (.getfield 42, 3) := by decide +kernel
theorem dX11_takesTree_4 : decode cX11_takesTree 4 = .ok (.iconst 0, 1) := by decide +kernel
theorem dX11_takesTree_5 : decode cX11_takesTree 5 = .ok (.iaload, 1) := by decide +kernel
theorem dX11_takesTree_6 : decode cX11_takesTree 6 = .ok (.bipush 7, 2) := by decide +kernel
theorem dX11_takesTree_8 : decode cX11_takesTree 8 = .ok (.if_icmp .ne 5, 3) := by decide +kernel
theorem dX11_takesTree_11 : decode cX11_takesTree 11 = .ok (.iconst 0, 1) := by decide +kernel
theorem dX11_takesTree_12 : decode cX11_takesTree 12 = .ok (.ireturn, 1) := by decide +kernel
theorem dX11_takesTree_13 : decode cX11_takesTree 13 = .ok (.aload_n 0, 1) := by decide +kernel
theorem dX11_takesTree_14 : decode cX11_takesTree 14 = .ok (.invokevirtual 252, 3) := by decide +kernel
theorem dX11_takesTree_17 : decode cX11_takesTree 17 = .ok (.aload_n 0, 1) := by decide +kernel
theorem dX11_takesTree_18 : decode cX11_takesTree 18 = .ok (.iconst 0, 1) := by decide +kernel
theorem dX11_takesTree_19 : decode cX11_takesTree 19 = .ok (.iconst 0, 1) := by decide +kernel
theorem dX11_takesTree_20 : decode cX11_takesTree 20 = .ok (.iconst 5, 1) := by decide +kernel
theorem dX11_takesTree_21 : decode cX11_takesTree 21 = .ok (.invokevirtual 259, 3) := by decide +kernel
theorem dX11_takesTree_24 : decode cX11_takesTree 24 = .ok (.ifCond .ne 5, 3) := by decide +kernel
theorem dX11_takesTree_27 : decode cX11_takesTree 27 = .ok (.iconst 0, 1) := by decide +kernel
theorem dX11_takesTree_28 : decode cX11_takesTree 28 = .ok (.ireturn, 1) := by decide +kernel
theorem dX11_takesTree_29 : decode cX11_takesTree 29 = .ok (.aload_n 0, 1) := by decide +kernel
theorem dX11_takesTree_30 : decode cX11_takesTree 30 = .ok (.getfield 42, 3) := by decide +kernel
theorem dX11_takesTree_33 : decode cX11_takesTree 33 = .ok (.bipush 6, 2) := by decide +kernel
theorem dX11_takesTree_35 : decode cX11_takesTree 35 = .ok (.aload_n 0, 1) := by decide +kernel
theorem dX11_takesTree_36 : decode cX11_takesTree 36 = .ok (.getfield 42, 3) := by decide +kernel
theorem dX11_takesTree_39 : decode cX11_takesTree 39 = .ok (.iconst 0, 1) := by decide +kernel
theorem dX11_takesTree_40 : decode cX11_takesTree 40 = .ok (.iaload, 1) := by decide +kernel
theorem dX11_takesTree_41 : decode cX11_takesTree 41 = .ok (.iadd, 1) := by decide +kernel
theorem dX11_takesTree_42 : decode cX11_takesTree 42 = .ok (.aload_n 0, 1) := by decide +kernel
theorem dX11_takesTree_43 : decode cX11_takesTree 43 = .ok (.getfield 45, 3) := by decide +kernel
theorem dX11_takesTree_46 : decode cX11_takesTree 46 = .ok (.iconst 0, 1) := by decide +kernel
theorem dX11_takesTree_47 : decode cX11_takesTree 47 = .ok (.iaload, 1) := by decide +kernel
theorem dX11_takesTree_48 : decode cX11_takesTree 48 = .ok (.iastore, 1) := by decide +kernel
theorem dX11_takesTree_49 : decode cX11_takesTree 49 = .ok (.aload_n 0, 1) := by decide +kernel
theorem dX11_takesTree_50 : decode cX11_takesTree 50 = .ok (.getfield 42, 3) := by decide +kernel
theorem dX11_takesTree_53 : decode cX11_takesTree 53 = .ok (.iconst 0, 1) := by decide +kernel
theorem dX11_takesTree_54 : decode cX11_takesTree 54 = .ok (.dup2, 1) := by decide +kernel
theorem dX11_takesTree_55 : decode cX11_takesTree 55 = .ok (.iaload, 1) := by decide +kernel
theorem dX11_takesTree_56 : decode cX11_takesTree 56 = .ok (.iconst 1, 1) := by decide +kernel
theorem dX11_takesTree_57 : decode cX11_takesTree 57 = .ok (.iadd, 1) := by decide +kernel
theorem dX11_takesTree_58 : decode cX11_takesTree 58 = .ok (.iastore, 1) := by decide +kernel
theorem dX11_takesTree_59 : decode cX11_takesTree 59 = .ok (.iconst 1, 1) := by decide +kernel
theorem dX11_takesTree_60 : decode cX11_takesTree 60 = .ok (.ireturn, 1) := by decide +kernel
theorem dX11_takesTouch_0 : decode cX11_takesTouch 0 = .ok (.aload_n 0, 1) := by decide +kernel
theorem dX11_takesTouch_1 : decode cX11_takesTouch 1 = .ok (.invokevirtual 252, 3) := by decide +kernel
theorem dX11_takesTouch_4 : decode cX11_takesTouch 4 = .ok (.aload_n 0, 1) := by decide +kernel
theorem dX11_takesTouch_5 : decode cX11_takesTouch 5 = .ok (.iconst 0, 1) := by decide +kernel
theorem dX11_takesTouch_6 : decode cX11_takesTouch 6 = .ok (.iconst 0, 1) := by decide +kernel
theorem dX11_takesTouch_7 : decode cX11_takesTouch 7 = .ok (.aload_n 0, 1) := by decide +kernel
theorem dX11_takesTouch_8 : decode cX11_takesTouch 8 = .ok (.getfield 42, 3) := by decide +kernel
theorem dX11_takesTouch_11 : decode cX11_takesTouch 11 = .ok (.iconst 0, 1) := by decide +kernel
theorem dX11_takesTouch_12 : decode cX11_takesTouch 12 = .ok (.iaload, 1) := by decide +kernel
theorem dX11_takesTouch_13 : decode cX11_takesTouch 13 = .ok (.iconst 1, 1) := by decide +kernel
theorem dX11_takesTouch_14 : decode cX11_takesTouch 14 = .ok (.isub, 1) := by decide +kernel
theorem dX11_takesTouch_15 : decode cX11_takesTouch 15 = .ok (.invokevirtual 259, 3) := by decide +kernel
theorem dX11_takesTouch_18 : decode cX11_takesTouch 18 = .ok (.ifCond .eq 41, 3) := by decide +kernel
theorem dX11_takesTouch_21 : decode cX11_takesTouch 21 = .ok (.aload_n 0, 1) := by decide +kernel
theorem dX11_takesTouch_22 : decode cX11_takesTouch 22 = .ok (.getfield 236, 3) := by decide +kernel
theorem dX11_takesTouch_25 : decode cX11_takesTouch 25 = .ok (.iconst 2, 1) := by decide +kernel
theorem dX11_takesTouch_26 : decode cX11_takesTouch 26 = .ok (.if_icmp .ne 33, 3) := by decide +kernel
theorem dX11_takesTouch_29 : decode cX11_takesTouch 29 = .ok (.aload_n 0, 1) := by decide +kernel
theorem dX11_takesTouch_30 : decode cX11_takesTouch 30 = .ok (.getfield 239, 3) := by decide +kernel
theorem dX11_takesTouch_33 : decode cX11_takesTouch 33 = .ok (.aload_n 0, 1) := by decide +kernel
theorem dX11_takesTouch_34 : decode cX11_takesTouch 34 = .ok (.getfield 45, 3) := by decide +kernel
theorem dX11_takesTouch_37 : decode cX11_takesTouch 37 = .ok (.iconst 0, 1) := by decide +kernel
theorem dX11_takesTouch_38 : decode cX11_takesTouch 38 = .ok (.iaload, 1) := by decide +kernel
theorem dX11_takesTouch_39 : decode cX11_takesTouch 39 = .ok (.if_icmp .eq 20, 3) := by decide +kernel
theorem dX11_takesTouch_42 : decode cX11_takesTouch 42 = .ok (.aload_n 0, 1) := by decide +kernel
theorem dX11_takesTouch_43 : decode cX11_takesTouch 43 = .ok (.iconst 1, 1) := by decide +kernel
theorem dX11_takesTouch_44 : decode cX11_takesTouch 44 = .ok (.iconst 0, 1) := by decide +kernel
theorem dX11_takesTouch_45 : decode cX11_takesTouch 45 = .ok (.aload_n 0, 1) := by decide +kernel
theorem dX11_takesTouch_46 : decode cX11_takesTouch 46 = .ok (.getfield 42, 3) := by decide +kernel
theorem dX11_takesTouch_49 : decode cX11_takesTouch 49 = .ok (.iconst 0, 1) := by decide +kernel
theorem dX11_takesTouch_50 : decode cX11_takesTouch 50 = .ok (.iaload, 1) := by decide +kernel
theorem dX11_takesTouch_51 : decode cX11_takesTouch 51 = .ok (.iconst 1, 1) := by decide +kernel
theorem dX11_takesTouch_52 : decode cX11_takesTouch 52 = .ok (.isub, 1) := by decide +kernel
theorem dX11_takesTouch_53 : decode cX11_takesTouch 53 = .ok (.invokevirtual 259, 3) := by decide +kernel
theorem dX11_takesTouch_56 : decode cX11_takesTouch 56 = .ok (.ifCond .ne 5, 3) := by decide +kernel
theorem dX11_takesTouch_59 : decode cX11_takesTouch 59 = .ok (.iconst 0, 1) := by decide +kernel
theorem dX11_takesTouch_60 : decode cX11_takesTouch 60 = .ok (.ireturn, 1) := by decide +kernel
theorem dX11_takesTouch_61 : decode cX11_takesTouch 61 = .ok (.aload_n 0, 1) := by decide +kernel
theorem dX11_takesTouch_62 : decode cX11_takesTouch 62 = .ok (.getfield 42, 3) := by decide +kernel
theorem dX11_takesTouch_65 : decode cX11_takesTouch 65 = .ok (.aload_n 0, 1) := by decide +kernel
theorem dX11_takesTouch_66 : decode cX11_takesTouch 66 = .ok (.getfield 45, 3) := by decide +kernel
theorem dX11_takesTouch_69 : decode cX11_takesTouch 69 = .ok (.iconst 0, 1) := by decide +kernel
theorem dX11_takesTouch_70 : decode cX11_takesTouch 70 = .ok (.iaload, 1) := by decide +kernel
theorem dX11_takesTouch_71 : decode cX11_takesTouch 71 = .ok (.aload_n 0, 1) := by decide +kernel
theorem dX11_takesTouch_72 : decode cX11_takesTouch 72 = .ok (.getfield 45, 3) := by decide +kernel
theorem dX11_takesTouch_75 : decode cX11_takesTouch 75 = .ok (.iconst 1, 1) := by decide +kernel
theorem dX11_takesTouch_76 : decode cX11_takesTouch 76 = .ok (.iaload, 1) := by decide +kernel
theorem dX11_takesTouch_77 : decode cX11_takesTouch 77 = .ok (.iconst 1, 1) := by decide +kernel
theorem dX11_takesTouch_78 : decode cX11_takesTouch 78 = .ok (.invokestatic 79, 3) := by decide +kernel
theorem dX11_takesTouch_81 : decode cX11_takesTouch 81 = .ok (.iconst 1, 1) := by decide +kernel
theorem dX11_takesTouch_82 : decode cX11_takesTouch 82 = .ok (.ireturn, 1) := by decide +kernel
theorem dX11_takesFell_0 : decode cX11_takesFell 0 = .ok (.aload_n 0, 1) := by decide +kernel
theorem dX11_takesFell_1 : decode cX11_takesFell 1 = .ok (.invokevirtual 252, 3) := by decide +kernel
theorem dX11_takesFell_4 : decode cX11_takesFell 4 = .ok (.aload_n 0, 1) := by decide +kernel
theorem dX11_takesFell_5 : decode cX11_takesFell 5 = .ok (.iconst 0, 1) := by decide +kernel
theorem dX11_takesFell_6 : decode cX11_takesFell 6 = .ok (.iconst 0, 1) := by decide +kernel
theorem dX11_takesFell_7 : decode cX11_takesFell 7 = .ok (.aload_n 0, 1) := by decide +kernel
theorem dX11_takesFell_8 : decode cX11_takesFell 8 = .ok (.getfield 42, 3) := by decide +kernel
theorem dX11_takesFell_11 : decode cX11_takesFell 11 = .ok (.iconst 0, 1) := by decide +kernel
theorem dX11_takesFell_12 : decode cX11_takesFell 12 = .ok (.iaload, 1) := by decide +kernel
theorem dX11_takesFell_13 : decode cX11_takesFell 13 = .ok (.iconst 1, 1) := by decide +kernel
theorem dX11_takesFell_14 : decode cX11_takesFell 14 = .ok (.isub, 1) := by decide +kernel
theorem dX11_takesFell_15 : decode cX11_takesFell 15 = .ok (.invokevirtual 259, 3) := by decide +kernel
theorem dX11_takesFell_18 : decode cX11_takesFell 18 = .ok (.ifCond .ne 5, 3) := by decide +kernel
theorem dX11_takesFell_21 : decode cX11_takesFell 21 = .ok (.iconst 0, 1) := by decide +kernel
theorem dX11_takesFell_22 : decode cX11_takesFell 22 = .ok (.ireturn, 1) := by decide +kernel
theorem dX11_takesFell_23 : decode cX11_takesFell 23 = .ok (.aload_n 0, 1) := by decide +kernel
theorem dX11_takesFell_24 : decode cX11_takesFell 24 = .ok (.getfield 42, 3) := by decide +kernel
theorem dX11_takesFell_27 : decode cX11_takesFell 27 = .ok (.iconst 1, 1) := by decide +kernel
theorem dX11_takesFell_28 : decode cX11_takesFell 28 = .ok (.dup2, 1) := by decide +kernel
theorem dX11_takesFell_29 : decode cX11_takesFell 29 = .ok (.iaload, 1) := by decide +kernel
theorem dX11_takesFell_30 : decode cX11_takesFell 30 = .ok (.iconst 1, 1) := by decide +kernel
theorem dX11_takesFell_31 : decode cX11_takesFell 31 = .ok (.aload_n 0, 1) := by decide +kernel
theorem dX11_takesFell_32 : decode cX11_takesFell 32 = .ok (.getfield 45, 3) := by decide +kernel
theorem dX11_takesFell_35 : decode cX11_takesFell 35 = .ok (.iconst 0, 1) := by decide +kernel
theorem dX11_takesFell_36 : decode cX11_takesFell 36 = .ok (.iaload, 1) := by decide +kernel
theorem dX11_takesFell_37 : decode cX11_takesFell 37 = .ok (.ishl, 1) := by decide +kernel
theorem dX11_takesFell_38 : decode cX11_takesFell 38 = .ok (.ior, 1) := by decide +kernel
theorem dX11_takesFell_39 : decode cX11_takesFell 39 = .ok (.iastore, 1) := by decide +kernel
theorem dX11_takesFell_40 : decode cX11_takesFell 40 = .ok (.iconst 1, 1) := by decide +kernel
theorem dX11_takesFell_41 : decode cX11_takesFell 41 = .ok (.ireturn, 1) := by decide +kernel
theorem dX11_takesItem_0 : decode cX11_takesItem 0 = .ok (.aload_n 0, 1) := by decide +kernel
theorem dX11_takesItem_1 : decode cX11_takesItem 1 = .ok (.iconst 4, 1) := by decide +kernel
theorem dX11_takesItem_2 : decode cX11_takesItem 2 = .ok (.bipush 116, 2) := by decide +kernel
theorem dX11_takesItem_4 : decode cX11_takesItem 4 = .ok (.bipush 114, 2) := by decide +kernel
theorem dX11_takesItem_6 : decode cX11_takesItem 6 = .ok (.bipush 101, 2) := by decide +kernel
theorem dX11_takesItem_8 : decode cX11_takesItem 8 = .ok (.bipush 101, 2) := by decide +kernel
theorem dX11_takesItem_10 : decode cX11_takesItem 10 = .ok (.iconst 0, 1) := by decide +kernel
theorem dX11_takesItem_11 : decode cX11_takesItem 11 = .ok (.iconst 0, 1) := by decide +kernel
theorem dX11_takesItem_12 : decode cX11_takesItem 12 = .ok (.invokevirtual 255, 3) := by decide +kernel
theorem dX11_takesItem_15 : decode cX11_takesItem 15 = .ok (.ifCond .eq 8, 3) := by decide +kernel
theorem dX11_takesItem_18 : decode cX11_takesItem 18 = .ok (.aload_n 0, 1) := by decide +kernel
theorem dX11_takesItem_19 : decode cX11_takesItem 19 = .ok (.invokevirtual 262, 3) := by decide +kernel
theorem dX11_takesItem_22 : decode cX11_takesItem 22 = .ok (.ireturn, 1) := by decide +kernel
theorem dX11_takesItem_23 : decode cX11_takesItem 23 = .ok (.aload_n 0, 1) := by decide +kernel
theorem dX11_takesItem_24 : decode cX11_takesItem 24 = .ok (.iconst 5, 1) := by decide +kernel
theorem dX11_takesItem_25 : decode cX11_takesItem 25 = .ok (.bipush 116, 2) := by decide +kernel
theorem dX11_takesItem_27 : decode cX11_takesItem 27 = .ok (.bipush 111, 2) := by decide +kernel
theorem dX11_takesItem_29 : decode cX11_takesItem 29 = .ok (.bipush 117, 2) := by decide +kernel
theorem dX11_takesItem_31 : decode cX11_takesItem 31 = .ok (.bipush 99, 2) := by decide +kernel
theorem dX11_takesItem_33 : decode cX11_takesItem 33 = .ok (.bipush 104, 2) := by decide +kernel
theorem dX11_takesItem_35 : decode cX11_takesItem 35 = .ok (.iconst 0, 1) := by decide +kernel
theorem dX11_takesItem_36 : decode cX11_takesItem 36 = .ok (.invokevirtual 255, 3) := by decide +kernel
theorem dX11_takesItem_39 : decode cX11_takesItem 39 = .ok (.ifCond .eq 8, 3) := by decide +kernel
theorem dX11_takesItem_42 : decode cX11_takesItem 42 = .ok (.aload_n 0, 1) := by decide +kernel
theorem dX11_takesItem_43 : decode cX11_takesItem 43 = .ok (.invokevirtual 265, 3) := by decide +kernel
theorem dX11_takesItem_46 : decode cX11_takesItem 46 = .ok (.ireturn, 1) := by decide +kernel
theorem dX11_takesItem_47 : decode cX11_takesItem 47 = .ok (.aload_n 0, 1) := by decide +kernel
theorem dX11_takesItem_48 : decode cX11_takesItem 48 = .ok (.iconst 4, 1) := by decide +kernel
theorem dX11_takesItem_49 : decode cX11_takesItem 49 = .ok (.bipush 102, 2) := by decide +kernel
theorem dX11_takesItem_51 : decode cX11_takesItem 51 = .ok (.bipush 101, 2) := by decide +kernel
theorem dX11_takesItem_53 : decode cX11_takesItem 53 = .ok (.bipush 108, 2) := by decide +kernel
theorem dX11_takesItem_55 : decode cX11_takesItem 55 = .ok (.bipush 108, 2) := by decide +kernel
theorem dX11_takesItem_57 : decode cX11_takesItem 57 = .ok (.iconst 0, 1) := by decide +kernel
theorem dX11_takesItem_58 : decode cX11_takesItem 58 = .ok (.iconst 0, 1) := by decide +kernel
theorem dX11_takesItem_59 : decode cX11_takesItem 59 = .ok (.invokevirtual 255, 3) := by decide +kernel
theorem dX11_takesItem_62 : decode cX11_takesItem 62 = .ok (.ifCond .eq 14, 3) := by decide +kernel
theorem dX11_takesItem_65 : decode cX11_takesItem 65 = .ok (.aload_n 0, 1) := by decide +kernel
theorem dX11_takesItem_66 : decode cX11_takesItem 66 = .ok (.invokevirtual 268, 3) := by decide +kernel
theorem dX11_takesItem_69 : decode cX11_takesItem 69 = .ok (.ifCond .eq 7, 3) := by decide +kernel
theorem dX11_takesItem_72 : decode cX11_takesItem 72 = .ok (.iconst 1, 1) := by decide +kernel
theorem dX11_takesItem_73 : decode cX11_takesItem 73 = .ok (.goto 4, 3) := by decide +kernel
theorem dX11_takesItem_76 : decode cX11_takesItem 76 = .ok (.iconst 0, 1) := by decide +kernel
theorem dX11_takesItem_77 : decode cX11_takesItem 77 = .ok (.ireturn, 1) := by decide +kernel
theorem dX11_read_0 : decode cX11_read 0 = .ok (.aload_n 0, 1) := by decide +kernel
theorem dX11_read_1 : decode cX11_read 1 = .ok (.iconst 0, 1) := by decide +kernel
theorem dX11_read_2 : decode cX11_read 2 = .ok (.invokevirtual 248, 3) := by decide +kernel
theorem dX11_read_5 : decode cX11_read 5 = .ok (.aload_n 0, 1) := by decide +kernel
theorem dX11_read_6 : decode cX11_read 6 = .ok (.invokevirtual 271, 3) := by decide +kernel
theorem dX11_read_9 : decode cX11_read 9 = .ok (.ifCond .ne 11, 3) := by decide +kernel
theorem dX11_read_12 : decode cX11_read 12 = .ok (.bipush (-10), 2) := by decide +kernel
theorem dX11_read_14 : decode cX11_read 14 = .ok (.aload_n 0, 1) := by decide +kernel
theorem dX11_read_15 : decode cX11_read 15 = .ok (.getfield 230, 3) := by decide +kernel
theorem dX11_read_18 : decode cX11_read 18 = .ok (.isub, 1) := by decide +kernel
theorem dX11_read_19 : decode cX11_read 19 = .ok (.ireturn, 1) := by decide +kernel
theorem dX11_read_20 : decode cX11_read 20 = .ok (.aload_n 0, 1) := by decide +kernel
theorem dX11_read_21 : decode cX11_read 21 = .ok (.invokevirtual 252, 3) := by decide +kernel
theorem dX11_read_24 : decode cX11_read 24 = .ok (.iconst 1, 1) := by decide +kernel
theorem dX11_read_25 : decode cX11_read 25 = .ok (.istore_n 1, 1) := by decide +kernel
theorem dX11_read_26 : decode cX11_read 26 = .ok (.aload_n 0, 1) := by decide +kernel
theorem dX11_read_27 : decode cX11_read 27 = .ok (.getfield 236, 3) := by decide +kernel
theorem dX11_read_30 : decode cX11_read 30 = .ok (.ifCond .eq 36, 3) := by decide +kernel
theorem dX11_read_33 : decode cX11_read 33 = .ok (.aload_n 0, 1) := by decide +kernel
theorem dX11_read_34 : decode cX11_read 34 = .ok (.invokevirtual 274, 3) := by decide +kernel
theorem dX11_read_37 : decode cX11_read 37 = .ok (.ifCond .eq 11, 3) := by decide +kernel
theorem dX11_read_40 : decode cX11_read 40 = .ok (.aload_n 0, 1) := by decide +kernel
theorem dX11_read_41 : decode cX11_read 41 = .ok (.getfield 236, 3) := by decide +kernel
theorem dX11_read_44 : decode cX11_read 44 = .ok (.iconst 3, 1) := by decide +kernel
theorem dX11_read_45 : decode cX11_read 45 = .ok (.if_icmp .eq 11, 3) := by decide +kernel
theorem dX11_read_48 : decode cX11_read 48 = .ok (.bipush (-10), 2) := by decide +kernel
theorem dX11_read_50 : decode cX11_read 50 = .ok (.aload_n 0, 1) := by decide +kernel
theorem dX11_read_51 : decode cX11_read 51 = .ok (.getfield 230, 3) := by decide +kernel
theorem dX11_read_54 : decode cX11_read 54 = .ok (.isub, 1) := by decide +kernel
theorem dX11_read_55 : decode cX11_read 55 = .ok (.ireturn, 1) := by decide +kernel
theorem dX11_read_56 : decode cX11_read 56 = .ok (.aload_n 0, 1) := by decide +kernel
theorem dX11_read_57 : decode cX11_read 57 = .ok (.invokevirtual 252, 3) := by decide +kernel
theorem dX11_read_60 : decode cX11_read 60 = .ok (.iinc 1 1, 3) := by decide +kernel
theorem dX11_read_63 : decode cX11_read 63 = .ok (.goto (-37), 3) := by decide +kernel
theorem dX11_read_66 : decode cX11_read 66 = .ok (.iconst 0, 1) := by decide +kernel
theorem dX11_read_67 : decode cX11_read 67 = .ok (.istore_n 2, 1) := by decide +kernel
theorem dX11_read_68 : decode cX11_read 68 = .ok (.iload_n 2, 1) := by decide +kernel
theorem dX11_read_69 : decode cX11_read 69 = .ok (.bipush 68, 2) := by decide +kernel
theorem dX11_read_71 : decode cX11_read 71 = .ok (.if_icmp .ge 21, 3) := by decide +kernel
theorem dX11_read_74 : decode cX11_read 74 = .ok (.aload_n 0, 1) := by decide +kernel
theorem dX11_read_75 : decode cX11_read 75 = .ok (.getfield 7, 3) := by decide +kernel
theorem dX11_read_78 : decode cX11_read 78 = .ok (.iload_n 2, 1) := by decide +kernel
theorem dX11_read_79 : decode cX11_read 79 = .ok (.aload_n 0, 1) := by decide +kernel
theorem dX11_read_80 : decode cX11_read 80 = .ok (.getfield 42, 3) := by decide +kernel
theorem dX11_read_83 : decode cX11_read 83 = .ok (.iload_n 2, 1) := by decide +kernel
theorem dX11_read_84 : decode cX11_read 84 = .ok (.iaload, 1) := by decide +kernel
theorem dX11_read_85 : decode cX11_read 85 = .ok (.iastore, 1) := by decide +kernel
theorem dX11_read_86 : decode cX11_read 86 = .ok (.iinc 2 1, 3) := by decide +kernel
theorem dX11_read_89 : decode cX11_read 89 = .ok (.goto (-21), 3) := by decide +kernel
theorem dX11_read_92 : decode cX11_read 92 = .ok (.iload_n 1, 1) := by decide +kernel
theorem dX11_read_93 : decode cX11_read 93 = .ok (.ireturn, 1) := by decide +kernel
theorem dX11_part_0 : decode cX11_part 0 = .ok (.iload_n 1, 1) := by decide +kernel
theorem dX11_part_1 : decode cX11_part 1 = .ok (.ifCond .ne 10, 3) := by decide +kernel
theorem dX11_part_4 : decode cX11_part 4 = .ok (.aload_n 0, 1) := by decide +kernel
theorem dX11_part_5 : decode cX11_part 5 = .ok (.getfield 198, 3) := by decide +kernel
theorem dX11_part_8 : decode cX11_part 8 = .ok (.goto 22, 3) := by decide +kernel
theorem dX11_part_11 : decode cX11_part 11 = .ok (.iload_n 1, 1) := by decide +kernel
theorem dX11_part_12 : decode cX11_part 12 = .ok (.iconst 1, 1) := by decide +kernel
theorem dX11_part_13 : decode cX11_part 13 = .ok (.if_icmp .ne 10, 3) := by decide +kernel
theorem dX11_part_16 : decode cX11_part 16 = .ok (.aload_n 0, 1) := by decide +kernel
theorem dX11_part_17 : decode cX11_part 17 = .ok (.getfield 23, 3) := by decide +kernel
theorem dX11_part_20 : decode cX11_part 20 = .ok (.goto 10, 3) := by decide +kernel
theorem dX11_part_23 : decode cX11_part 23 = .ok (.aload_n 0, 1) := by decide +kernel
theorem dX11_part_24 : decode cX11_part 24 = .ok (.bipush (-2), 2) := by decide +kernel
theorem dX11_part_26 : decode cX11_part 26 = .ok (.invokevirtual 66, 3) := by decide +kernel
theorem dX11_part_29 : decode cX11_part 29 = .ok (.i2l, 1) := by decide +kernel
theorem dX11_part_30 : decode cX11_part 30 = .ok (.lreturn, 1) := by decide +kernel
theorem dX11_image_0 : decode cX11_image 0 = .ok (.iload_n 1, 1) := by decide +kernel
theorem dX11_image_1 : decode cX11_image 1 = .ok (.i2l, 1) := by decide +kernel
theorem dX11_image_2 : decode cX11_image 2 = .ok (.lconst 0, 1) := by decide +kernel
theorem dX11_image_3 : decode cX11_image 3 = .ok (.lconst 1, 1) := by decide +kernel
theorem dX11_image_4 : decode cX11_image 4 = .ok (.invokestatic 56, 3) := by decide +kernel
theorem dX11_image_7 : decode cX11_image 7 = .ok (.ifCond .ne 10, 3) := by decide +kernel
theorem dX11_image_10 : decode cX11_image 10 = .ok (.aload_n 0, 1) := by decide +kernel
theorem dX11_image_11 : decode cX11_image 11 = .ok (.bipush (-2), 2) := by decide +kernel
theorem dX11_image_13 : decode cX11_image 13 = .ok (.invokevirtual 66, 3) := by decide +kernel
theorem dX11_image_16 : decode cX11_image 16 = .ok (.ireturn, 1) := by decide +kernel
theorem dX11_image_17 : decode cX11_image 17 = .ok (.iconst 0, 1) := by decide +kernel
theorem dX11_image_18 : decode cX11_image 18 = .ok (.istore_n 2, 1) := by decide +kernel
theorem dX11_image_19 : decode cX11_image 19 = .ok (.iload_n 2, 1) := by decide +kernel
theorem dX11_image_20 : decode cX11_image 20 = .ok (.bipush 84, 2) := by decide +kernel
theorem dX11_image_22 : decode cX11_image 22 = .ok (.if_icmp .ge 26, 3) := by decide +kernel
theorem dX11_image_25 : decode cX11_image 25 = .ok (.aload_n 0, 1) := by decide +kernel
theorem dX11_image_26 : decode cX11_image 26 = .ok (.getfield 13, 3) := by decide +kernel
theorem dX11_image_29 : decode cX11_image 29 = .ok (.bipush 84, 2) := by decide +kernel
theorem dX11_image_31 : decode cX11_image 31 = .ok (.iload_n 1, 1) := by decide +kernel
theorem dX11_image_32 : decode cX11_image 32 = .ok (.imul, 1) := by decide +kernel
theorem dX11_image_33 : decode cX11_image 33 = .ok (.iload_n 2, 1) := by decide +kernel
theorem dX11_image_34 : decode cX11_image 34 = .ok (.iadd, 1) := by decide +kernel
theorem dX11_image_35 : decode cX11_image 35 = .ok (.aload_n 0, 1) := by decide +kernel
theorem dX11_image_36 : decode cX11_image 36 = .ok (.getfield 7, 3) := by decide +kernel
theorem dX11_image_39 : decode cX11_image 39 = .ok (.iload_n 2, 1) := by decide +kernel
theorem dX11_image_40 : decode cX11_image 40 = .ok (.iaload, 1) := by decide +kernel
theorem dX11_image_41 : decode cX11_image 41 = .ok (.iastore, 1) := by decide +kernel
theorem dX11_image_42 : decode cX11_image 42 = .ok (.iinc 2 1, 3) := by decide +kernel
theorem dX11_image_45 : decode cX11_image 45 = .ok (.goto (-26), 3) := by decide +kernel
theorem dX11_image_48 : decode cX11_image 48 = .ok (.aload_n 0, 1) := by decide +kernel
theorem dX11_image_49 : decode cX11_image 49 = .ok (.getfield 16, 3) := by decide +kernel
theorem dX11_image_52 : decode cX11_image 52 = .ok (.iload_n 1, 1) := by decide +kernel
theorem dX11_image_53 : decode cX11_image 53 = .ok (.iconst 1, 1) := by decide +kernel
theorem dX11_image_54 : decode cX11_image 54 = .ok (.bastore, 1) := by decide +kernel
theorem dX11_image_55 : decode cX11_image 55 = .ok (.iconst 1, 1) := by decide +kernel
theorem dX11_image_56 : decode cX11_image 56 = .ok (.ireturn, 1) := by decide +kernel
theorem dX11_from_0 : decode cX11_from 0 = .ok (.iload_n 1, 1) := by decide +kernel
theorem dX11_from_1 : decode cX11_from 1 = .ok (.i2l, 1) := by decide +kernel
theorem dX11_from_2 : decode cX11_from 2 = .ok (.lconst 0, 1) := by decide +kernel
theorem dX11_from_3 : decode cX11_from 3 = .ok (.lconst 1, 1) := by decide +kernel
theorem dX11_from_4 : decode cX11_from 4 = .ok (.invokestatic 56, 3) := by decide +kernel
theorem dX11_from_7 : decode cX11_from 7 = .ok (.ifCond .ne 10, 3) := by decide +kernel
theorem dX11_from_10 : decode cX11_from 10 = .ok (.aload_n 0, 1) := by decide +kernel
theorem dX11_from_11 : decode cX11_from 11 = .ok (.bipush (-2), 2) := by decide +kernel
theorem dX11_from_13 : decode cX11_from 13 = .ok (.invokevirtual 66, 3) := by decide +kernel
theorem dX11_from_16 : decode cX11_from 16 = .ok (.ireturn, 1) := by decide +kernel
theorem dX11_from_17 : decode cX11_from 17 = .ok (.aload_n 0, 1) := by decide +kernel
theorem dX11_from_18 : decode cX11_from 18 = .ok (.getfield 16, 3) := by decide +kernel
theorem dX11_from_21 : decode cX11_from 21 = .ok (.iload_n 1, 1) := by decide +kernel
theorem dX11_from_22 : decode cX11_from 22 = .ok (.baload, 1) := by decide +kernel
theorem dX11_from_23 : decode cX11_from 23 = .ok (.ifCond .ne 8, 3) := by decide +kernel
theorem dX11_from_26 : decode cX11_from 26 = .ok (.aload_n 0, 1) := by decide +kernel
theorem dX11_from_27 : decode cX11_from 27 = .ok (.invokevirtual 88, 3) := by decide +kernel
theorem dX11_from_30 : decode cX11_from 30 = .ok (.ireturn, 1) := by decide +kernel
theorem dX11_from_31 : decode cX11_from 31 = .ok (.iconst 0, 1) := by decide +kernel
theorem dX11_from_32 : decode cX11_from 32 = .ok (.istore_n 2, 1) := by decide +kernel
theorem dX11_from_33 : decode cX11_from 33 = .ok (.iload_n 2, 1) := by decide +kernel
theorem dX11_from_34 : decode cX11_from 34 = .ok (.bipush 84, 2) := by decide +kernel
theorem dX11_from_36 : decode cX11_from 36 = .ok (.if_icmp .ge 26, 3) := by decide +kernel
theorem dX11_from_39 : decode cX11_from 39 = .ok (.aload_n 0, 1) := by decide +kernel
theorem dX11_from_40 : decode cX11_from 40 = .ok (.getfield 7, 3) := by decide +kernel
theorem dX11_from_43 : decode cX11_from 43 = .ok (.iload_n 2, 1) := by decide +kernel
theorem dX11_from_44 : decode cX11_from 44 = .ok (.aload_n 0, 1) := by decide +kernel
theorem dX11_from_45 : decode cX11_from 45 = .ok (.getfield 13, 3) := by decide +kernel
theorem dX11_from_48 : decode cX11_from 48 = .ok (.bipush 84, 2) := by decide +kernel
theorem dX11_from_50 : decode cX11_from 50 = .ok (.iload_n 1, 1) := by decide +kernel
theorem dX11_from_51 : decode cX11_from 51 = .ok (.imul, 1) := by decide +kernel
theorem dX11_from_52 : decode cX11_from 52 = .ok (.iload_n 2, 1) := by decide +kernel
theorem dX11_from_53 : decode cX11_from 53 = .ok (.iadd, 1) := by decide +kernel
theorem dX11_from_54 : decode cX11_from 54 = .ok (.iaload, 1) := by decide +kernel
theorem dX11_from_55 : decode cX11_from 55 = .ok (.iastore, 1) := by decide +kernel
theorem dX11_from_56 : decode cX11_from 56 = .ok (.iinc 2 1, 3) := by decide +kernel
theorem dX11_from_59 : decode cX11_from 59 = .ok (.goto (-26), 3) := by decide +kernel
theorem dX11_from_62 : decode cX11_from 62 = .ok (.iconst 1, 1) := by decide +kernel
theorem dX11_from_63 : decode cX11_from 63 = .ok (.ireturn, 1) := by decide +kernel
theorem dX11_status_0 : decode cX11_status 0 = .ok (.iload_n 1, 1) := by decide +kernel
theorem dX11_status_1 : decode cX11_status 1 = .ok (.i2l, 1) := by decide +kernel
theorem dX11_status_2 : decode cX11_status 2 = .ok (.lconst 0, 1) := by decide +kernel
theorem dX11_status_3 : decode cX11_status 3 = .ok (.ldc2_w 91, 3) := by decide +kernel
theorem dX11_status_6 : decode cX11_status 6 = .ok (.invokestatic 56, 3) := by decide +kernel
theorem dX11_status_9 : decode cX11_status 9 = .ok (.ifCond .eq 12, 3) := by decide +kernel
theorem dX11_status_12 : decode cX11_status 12 = .ok (.aload_n 0, 1) := by decide +kernel
theorem dX11_status_13 : decode cX11_status 13 = .ok (.getfield 20, 3) := by decide +kernel
theorem dX11_status_16 : decode cX11_status 16 = .ok (.iload_n 1, 1) := by decide +kernel
theorem dX11_status_17 : decode cX11_status 17 = .ok (.iaload, 1) := by decide +kernel
theorem dX11_status_18 : decode cX11_status 18 = .ok (.goto 8, 3) := by decide +kernel
theorem dX11_status_21 : decode cX11_status 21 = .ok (.aload_n 0, 1) := by decide +kernel
theorem dX11_status_22 : decode cX11_status 22 = .ok (.iconst (-1), 1) := by decide +kernel
theorem dX11_status_23 : decode cX11_status 23 = .ok (.invokevirtual 66, 3) := by decide +kernel
theorem dX11_status_26 : decode cX11_status 26 = .ok (.ireturn, 1) := by decide +kernel
theorem dX11_manyTouches_0 : decode cX11_manyTouches 0 = .ok (.iconst 0, 1) := by decide +kernel
theorem dX11_manyTouches_1 : decode cX11_manyTouches 1 = .ok (.istore_n 1, 1) := by decide +kernel
theorem dX11_manyTouches_2 : decode cX11_manyTouches 2 = .ok (.iconst 0, 1) := by decide +kernel
theorem dX11_manyTouches_3 : decode cX11_manyTouches 3 = .ok (.istore_n 2, 1) := by decide +kernel
theorem dX11_manyTouches_4 : decode cX11_manyTouches 4 = .ok (.iload_n 2, 1) := by decide +kernel
theorem dX11_manyTouches_5 : decode cX11_manyTouches 5 = .ok (.aload_n 0, 1) := by decide +kernel
theorem dX11_manyTouches_6 : decode cX11_manyTouches 6 = .ok (.invokevirtual 52, 3) := by decide +kernel
theorem dX11_manyTouches_9 : decode cX11_manyTouches 9 = .ok (.if_icmp .ge 24, 3) := by decide +kernel
theorem dX11_manyTouches_12 : decode cX11_manyTouches 12 = .ok (.iload_n 1, 1) := by decide +kernel
theorem dX11_manyTouches_13 : decode cX11_manyTouches 13 = .ok (.aload_n 0, 1) := by decide +kernel
theorem dX11_manyTouches_14 : decode cX11_manyTouches 14 = .ok (.getfield 7, 3) := by decide +kernel
theorem dX11_manyTouches_17 : decode cX11_manyTouches 17 = .ok (.bipush 13, 2) := by decide +kernel
theorem dX11_manyTouches_19 : decode cX11_manyTouches 19 = .ok (.iload_n 2, 1) := by decide +kernel
theorem dX11_manyTouches_20 : decode cX11_manyTouches 20 = .ok (.iadd, 1) := by decide +kernel
theorem dX11_manyTouches_21 : decode cX11_manyTouches 21 = .ok (.iaload, 1) := by decide +kernel
theorem dX11_manyTouches_22 : decode cX11_manyTouches 22 = .ok (.invokestatic 178, 3) := by decide +kernel
theorem dX11_manyTouches_25 : decode cX11_manyTouches 25 = .ok (.iadd, 1) := by decide +kernel
theorem dX11_manyTouches_26 : decode cX11_manyTouches 26 = .ok (.istore_n 1, 1) := by decide +kernel
theorem dX11_manyTouches_27 : decode cX11_manyTouches 27 = .ok (.iinc 2 1, 3) := by decide +kernel
theorem dX11_manyTouches_30 : decode cX11_manyTouches 30 = .ok (.goto (-26), 3) := by decide +kernel
theorem dX11_manyTouches_33 : decode cX11_manyTouches 33 = .ok (.iload_n 1, 1) := by decide +kernel
theorem dX11_manyTouches_34 : decode cX11_manyTouches 34 = .ok (.iconst 2, 1) := by decide +kernel
theorem dX11_manyTouches_35 : decode cX11_manyTouches 35 = .ok (.idiv, 1) := by decide +kernel
theorem dX11_manyTouches_36 : decode cX11_manyTouches 36 = .ok (.ireturn, 1) := by decide +kernel
theorem dX11_counted_0 : decode cX11_counted 0 = .ok (.iload_n 1, 1) := by decide +kernel
theorem dX11_counted_1 : decode cX11_counted 1 = .ok (.tableswitch 91 0 6 #[43, 48, 55, 65, 70, 77, 84], 43) := by decide +kernel
theorem dX11_counted_44 : decode cX11_counted 44 = .ok (.aload_n 0, 1) := by decide +kernel
theorem dX11_counted_45 : decode cX11_counted 45 = .ok (.invokevirtual 52, 3) := by decide +kernel
theorem dX11_counted_48 : decode cX11_counted 48 = .ok (.ireturn, 1) := by decide +kernel
theorem dX11_counted_49 : decode cX11_counted 49 = .ok (.aload_n 0, 1) := by decide +kernel
theorem dX11_counted_50 : decode cX11_counted 50 = .ok (.getfield 7, 3) := by decide +kernel
theorem dX11_counted_53 : decode cX11_counted 53 = .ok (.iconst 2, 1) := by decide +kernel
theorem dX11_counted_54 : decode cX11_counted 54 = .ok (.iaload, 1) := by decide +kernel
theorem dX11_counted_55 : decode cX11_counted 55 = .ok (.ireturn, 1) := by decide +kernel
theorem dX11_counted_56 : decode cX11_counted 56 = .ok (.aload_n 0, 1) := by decide +kernel
theorem dX11_counted_57 : decode cX11_counted 57 = .ok (.getfield 7, 3) := by decide +kernel
theorem dX11_counted_60 : decode cX11_counted 60 = .ok (.iconst 1, 1) := by decide +kernel
theorem dX11_counted_61 : decode cX11_counted 61 = .ok (.iaload, 1) := by decide +kernel
theorem dX11_counted_62 : decode cX11_counted 62 = .ok (.invokestatic 178, 3) := by decide +kernel
theorem dX11_counted_65 : decode cX11_counted 65 = .ok (.ireturn, 1) := by decide +kernel
theorem dX11_counted_66 : decode cX11_counted 66 = .ok (.aload_n 0, 1) := by decide +kernel
theorem dX11_counted_67 : decode cX11_counted 67 = .ok (.invokevirtual 277, 3) := by decide +kernel
theorem dX11_counted_70 : decode cX11_counted 70 = .ok (.ireturn, 1) := by decide +kernel
theorem dX11_counted_71 : decode cX11_counted 71 = .ok (.aload_n 0, 1) := by decide +kernel
theorem dX11_counted_72 : decode cX11_counted 72 = .ok (.getfield 7, 3) := by decide +kernel
theorem dX11_counted_75 : decode cX11_counted 75 = .ok (.iconst 3, 1) := by decide +kernel
theorem dX11_counted_76 : decode cX11_counted 76 = .ok (.iaload, 1) := by decide +kernel
theorem dX11_counted_77 : decode cX11_counted 77 = .ok (.ireturn, 1) := by decide +kernel
theorem dX11_counted_78 : decode cX11_counted 78 = .ok (.aload_n 0, 1) := by decide +kernel
theorem dX11_counted_79 : decode cX11_counted 79 = .ok (.getfield 7, 3) := by decide +kernel
theorem dX11_counted_82 : decode cX11_counted 82 = .ok (.iconst 4, 1) := by decide +kernel
theorem dX11_counted_83 : decode cX11_counted 83 = .ok (.iaload, 1) := by decide +kernel
theorem dX11_counted_84 : decode cX11_counted 84 = .ok (.ireturn, 1) := by decide +kernel
theorem dX11_counted_85 : decode cX11_counted 85 = .ok (.aload_n 0, 1) := by decide +kernel
theorem dX11_counted_86 : decode cX11_counted 86 = .ok (.getfield 7, 3) := by decide +kernel
theorem dX11_counted_89 : decode cX11_counted 89 = .ok (.iconst 5, 1) := by decide +kernel
theorem dX11_counted_90 : decode cX11_counted 90 = .ok (.iaload, 1) := by decide +kernel
theorem dX11_counted_91 : decode cX11_counted 91 = .ok (.ireturn, 1) := by decide +kernel
theorem dX11_counted_92 : decode cX11_counted 92 = .ok (.aload_n 0, 1) := by decide +kernel
theorem dX11_counted_93 : decode cX11_counted 93 = .ok (.getfield 219, 3) := by decide +kernel
theorem dX11_counted_96 : decode cX11_counted 96 = .ok (.ireturn, 1) := by decide +kernel
theorem dX11_count_0 : decode cX11_count 0 = .ok (.iload_n 1, 1) := by decide +kernel
theorem dX11_count_1 : decode cX11_count 1 = .ok (.i2l, 1) := by decide +kernel
theorem dX11_count_2 : decode cX11_count 2 = .ok (.lconst 0, 1) := by decide +kernel
theorem dX11_count_3 : decode cX11_count 3 = .ok (.ldc2_w 280, 3) := by decide +kernel
theorem dX11_count_6 : decode cX11_count 6 = .ok (.invokestatic 56, 3) := by decide +kernel
theorem dX11_count_9 : decode cX11_count 9 = .ok (.ifCond .eq 11, 3) := by decide +kernel
theorem dX11_count_12 : decode cX11_count 12 = .ok (.aload_n 0, 1) := by decide +kernel
theorem dX11_count_13 : decode cX11_count 13 = .ok (.iload_n 1, 1) := by decide +kernel
theorem dX11_count_14 : decode cX11_count 14 = .ok (.invokevirtual 282, 3) := by decide +kernel
theorem dX11_count_17 : decode cX11_count 17 = .ok (.goto 9, 3) := by decide +kernel
theorem dX11_count_20 : decode cX11_count 20 = .ok (.aload_n 0, 1) := by decide +kernel
theorem dX11_count_21 : decode cX11_count 21 = .ok (.bipush (-2), 2) := by decide +kernel
theorem dX11_count_23 : decode cX11_count 23 = .ok (.invokevirtual 66, 3) := by decide +kernel
theorem dX11_count_26 : decode cX11_count 26 = .ok (.ireturn, 1) := by decide +kernel
theorem dX11_sums_0 : decode cX11_sums 0 = .ok (.lload_n 1, 1) := by decide +kernel
theorem dX11_sums_1 : decode cX11_sums 1 = .ok (.lstore 5, 2) := by decide +kernel
theorem dX11_sums_3 : decode cX11_sums 3 = .ok (.iconst 0, 1) := by decide +kernel
theorem dX11_sums_4 : decode cX11_sums 4 = .ok (.istore 7, 2) := by decide +kernel
theorem dX11_sums_6 : decode cX11_sums 6 = .ok (.iload 7, 2) := by decide +kernel
theorem dX11_sums_8 : decode cX11_sums 8 = .ok (.iload 4, 2) := by decide +kernel
theorem dX11_sums_10 : decode cX11_sums 10 = .ok (.if_icmp .ge 28, 3) := by decide +kernel
theorem dX11_sums_13 : decode cX11_sums 13 = .ok (.ldc2_w 285, 3) := by decide +kernel
theorem dX11_sums_16 : decode cX11_sums 16 = .ok (.lload 5, 2) := by decide +kernel
theorem dX11_sums_18 : decode cX11_sums 18 = .ok (.lmul, 1) := by decide +kernel
theorem dX11_sums_19 : decode cX11_sums 19 = .ok (.aload_n 0, 1) := by decide +kernel
theorem dX11_sums_20 : decode cX11_sums 20 = .ok (.getfield 7, 3) := by decide +kernel
theorem dX11_sums_23 : decode cX11_sums 23 = .ok (.iload_n 3, 1) := by decide +kernel
theorem dX11_sums_24 : decode cX11_sums 24 = .ok (.iload 7, 2) := by decide +kernel
theorem dX11_sums_26 : decode cX11_sums 26 = .ok (.iadd, 1) := by decide +kernel
theorem dX11_sums_27 : decode cX11_sums 27 = .ok (.iaload, 1) := by decide +kernel
theorem dX11_sums_28 : decode cX11_sums 28 = .ok (.i2l, 1) := by decide +kernel
theorem dX11_sums_29 : decode cX11_sums 29 = .ok (.ladd, 1) := by decide +kernel
theorem dX11_sums_30 : decode cX11_sums 30 = .ok (.lstore 5, 2) := by decide +kernel
theorem dX11_sums_32 : decode cX11_sums 32 = .ok (.iinc 7 1, 3) := by decide +kernel
theorem dX11_sums_35 : decode cX11_sums 35 = .ok (.goto (-29), 3) := by decide +kernel
theorem dX11_sums_38 : decode cX11_sums 38 = .ok (.lload 5, 2) := by decide +kernel
theorem dX11_sums_40 : decode cX11_sums 40 = .ok (.lreturn, 1) := by decide +kernel
theorem dX11_digest_0 : decode cX11_digest 0 = .ok (.ldc2_w 287, 3) := by decide +kernel
theorem dX11_digest_3 : decode cX11_digest 3 = .ok (.lstore_n 1, 1) := by decide +kernel
theorem dX11_digest_4 : decode cX11_digest 4 = .ok (.iconst 0, 1) := by decide +kernel
theorem dX11_digest_5 : decode cX11_digest 5 = .ok (.istore_n 3, 1) := by decide +kernel
theorem dX11_digest_6 : decode cX11_digest 6 = .ok (.iload_n 3, 1) := by decide +kernel
theorem dX11_digest_7 : decode cX11_digest 7 = .ok (.bipush 8, 2) := by decide +kernel
theorem dX11_digest_9 : decode cX11_digest 9 = .ok (.if_icmp .ge 22, 3) := by decide +kernel
theorem dX11_digest_12 : decode cX11_digest 12 = .ok (.ldc2_w 285, 3) := by decide +kernel
theorem dX11_digest_15 : decode cX11_digest 15 = .ok (.lload_n 1, 1) := by decide +kernel
theorem dX11_digest_16 : decode cX11_digest 16 = .ok (.lmul, 1) := by decide +kernel
theorem dX11_digest_17 : decode cX11_digest 17 = .ok (.aload_n 0, 1) := by decide +kernel
theorem dX11_digest_18 : decode cX11_digest 18 = .ok (.iload_n 3, 1) := by decide +kernel
theorem dX11_digest_19 : decode cX11_digest 19 = .ok (.invokevirtual 282, 3) := by decide +kernel
theorem dX11_digest_22 : decode cX11_digest 22 = .ok (.i2l, 1) := by decide +kernel
theorem dX11_digest_23 : decode cX11_digest 23 = .ok (.ladd, 1) := by decide +kernel
theorem dX11_digest_24 : decode cX11_digest 24 = .ok (.lstore_n 1, 1) := by decide +kernel
theorem dX11_digest_25 : decode cX11_digest 25 = .ok (.iinc 3 1, 3) := by decide +kernel
theorem dX11_digest_28 : decode cX11_digest 28 = .ok (.goto (-22), 3) := by decide +kernel
theorem dX11_digest_31 : decode cX11_digest 31 = .ok (.iconst 0, 1) := by decide +kernel
theorem dX11_digest_32 : decode cX11_digest 32 = .ok (.istore_n 3, 1) := by decide +kernel
theorem dX11_digest_33 : decode cX11_digest 33 = .ok (.iload_n 3, 1) := by decide +kernel
theorem dX11_digest_34 : decode cX11_digest 34 = .ok (.aload_n 0, 1) := by decide +kernel
theorem dX11_digest_35 : decode cX11_digest 35 = .ok (.invokevirtual 52, 3) := by decide +kernel
theorem dX11_digest_38 : decode cX11_digest 38 = .ok (.if_icmp .ge 57, 3) := by decide +kernel
theorem dX11_digest_41 : decode cX11_digest 41 = .ok (.ldc2_w 285, 3) := by decide +kernel
theorem dX11_digest_44 : decode cX11_digest 44 = .ok (.ldc2_w 285, 3) := by decide +kernel
theorem dX11_digest_47 : decode cX11_digest 47 = .ok (.ldc2_w 285, 3) := by decide +kernel
theorem dX11_digest_50 : decode cX11_digest 50 = .ok (.lload_n 1, 1) := by decide +kernel
theorem dX11_digest_51 : decode cX11_digest 51 = .ok (.lmul, 1) := by decide +kernel
theorem dX11_digest_52 : decode cX11_digest 52 = .ok (.aload_n 0, 1) := by decide +kernel
theorem dX11_digest_53 : decode cX11_digest 53 = .ok (.getfield 7, 3) := by decide +kernel
theorem dX11_digest_56 : decode cX11_digest 56 = .ok (.bipush 6, 2) := by decide +kernel
theorem dX11_digest_58 : decode cX11_digest 58 = .ok (.iload_n 3, 1) := by decide +kernel
theorem dX11_digest_59 : decode cX11_digest 59 = .ok (.iadd, 1) := by decide +kernel
theorem dX11_digest_60 : decode cX11_digest 60 = .ok (.iaload, 1) := by decide +kernel
theorem dX11_digest_61 : decode cX11_digest 61 = .ok (.i2l, 1) := by decide +kernel
theorem dX11_digest_62 : decode cX11_digest 62 = .ok (.ladd, 1) := by decide +kernel
theorem dX11_digest_63 : decode cX11_digest 63 = .ok (.lmul, 1) := by decide +kernel
theorem dX11_digest_64 : decode cX11_digest 64 = .ok (.aload_n 0, 1) := by decide +kernel
theorem dX11_digest_65 : decode cX11_digest 65 = .ok (.getfield 7, 3) := by decide +kernel
theorem dX11_digest_68 : decode cX11_digest 68 = .ok (.iconst 1, 1) := by decide +kernel
theorem dX11_digest_69 : decode cX11_digest 69 = .ok (.iaload, 1) := by decide +kernel
theorem dX11_digest_70 : decode cX11_digest 70 = .ok (.iload_n 3, 1) := by decide +kernel
theorem dX11_digest_71 : decode cX11_digest 71 = .ok (.ishr, 1) := by decide +kernel
theorem dX11_digest_72 : decode cX11_digest 72 = .ok (.iconst 1, 1) := by decide +kernel
theorem dX11_digest_73 : decode cX11_digest 73 = .ok (.iand, 1) := by decide +kernel
theorem dX11_digest_74 : decode cX11_digest 74 = .ok (.i2l, 1) := by decide +kernel
theorem dX11_digest_75 : decode cX11_digest 75 = .ok (.ladd, 1) := by decide +kernel
theorem dX11_digest_76 : decode cX11_digest 76 = .ok (.lmul, 1) := by decide +kernel
theorem dX11_digest_77 : decode cX11_digest 77 = .ok (.aload_n 0, 1) := by decide +kernel
theorem dX11_digest_78 : decode cX11_digest 78 = .ok (.getfield 7, 3) := by decide +kernel
theorem dX11_digest_81 : decode cX11_digest 81 = .ok (.bipush 13, 2) := by decide +kernel
theorem dX11_digest_83 : decode cX11_digest 83 = .ok (.iload_n 3, 1) := by decide +kernel
theorem dX11_digest_84 : decode cX11_digest 84 = .ok (.iadd, 1) := by decide +kernel
theorem dX11_digest_85 : decode cX11_digest 85 = .ok (.iaload, 1) := by decide +kernel
theorem dX11_digest_86 : decode cX11_digest 86 = .ok (.i2l, 1) := by decide +kernel
theorem dX11_digest_87 : decode cX11_digest 87 = .ok (.ladd, 1) := by decide +kernel
theorem dX11_digest_88 : decode cX11_digest 88 = .ok (.lstore_n 1, 1) := by decide +kernel
theorem dX11_digest_89 : decode cX11_digest 89 = .ok (.iinc 3 1, 3) := by decide +kernel
theorem dX11_digest_92 : decode cX11_digest 92 = .ok (.goto (-59), 3) := by decide +kernel
theorem dX11_digest_95 : decode cX11_digest 95 = .ok (.aload_n 0, 1) := by decide +kernel
theorem dX11_digest_96 : decode cX11_digest 96 = .ok (.lload_n 1, 1) := by decide +kernel
theorem dX11_digest_97 : decode cX11_digest 97 = .ok (.bipush 20, 2) := by decide +kernel
theorem dX11_digest_99 : decode cX11_digest 99 = .ok (.iconst 5, 1) := by decide +kernel
theorem dX11_digest_100 : decode cX11_digest 100 = .ok (.aload_n 0, 1) := by decide +kernel
theorem dX11_digest_101 : decode cX11_digest 101 = .ok (.getfield 7, 3) := by decide +kernel
theorem dX11_digest_104 : decode cX11_digest 104 = .ok (.iconst 3, 1) := by decide +kernel
theorem dX11_digest_105 : decode cX11_digest 105 = .ok (.iaload, 1) := by decide +kernel
theorem dX11_digest_106 : decode cX11_digest 106 = .ok (.imul, 1) := by decide +kernel
theorem dX11_digest_107 : decode cX11_digest 107 = .ok (.invokevirtual 289, 3) := by decide +kernel
theorem dX11_digest_110 : decode cX11_digest 110 = .ok (.lstore_n 1, 1) := by decide +kernel
theorem dX11_digest_111 : decode cX11_digest 111 = .ok (.aload_n 0, 1) := by decide +kernel
theorem dX11_digest_112 : decode cX11_digest 112 = .ok (.lload_n 1, 1) := by decide +kernel
theorem dX11_digest_113 : decode cX11_digest 113 = .ok (.bipush 50, 2) := by decide +kernel
theorem dX11_digest_115 : decode cX11_digest 115 = .ok (.iconst 3, 1) := by decide +kernel
theorem dX11_digest_116 : decode cX11_digest 116 = .ok (.aload_n 0, 1) := by decide +kernel
theorem dX11_digest_117 : decode cX11_digest 117 = .ok (.getfield 7, 3) := by decide +kernel
theorem dX11_digest_120 : decode cX11_digest 120 = .ok (.iconst 4, 1) := by decide +kernel
theorem dX11_digest_121 : decode cX11_digest 121 = .ok (.iaload, 1) := by decide +kernel
theorem dX11_digest_122 : decode cX11_digest 122 = .ok (.imul, 1) := by decide +kernel
theorem dX11_digest_123 : decode cX11_digest 123 = .ok (.invokevirtual 289, 3) := by decide +kernel
theorem dX11_digest_126 : decode cX11_digest 126 = .ok (.lstore_n 1, 1) := by decide +kernel
theorem dX11_digest_127 : decode cX11_digest 127 = .ok (.ldc2_w 285, 3) := by decide +kernel
theorem dX11_digest_130 : decode cX11_digest 130 = .ok (.ldc2_w 285, 3) := by decide +kernel
theorem dX11_digest_133 : decode cX11_digest 133 = .ok (.lload_n 1, 1) := by decide +kernel
theorem dX11_digest_134 : decode cX11_digest 134 = .ok (.lmul, 1) := by decide +kernel
theorem dX11_digest_135 : decode cX11_digest 135 = .ok (.aload_n 0, 1) := by decide +kernel
theorem dX11_digest_136 : decode cX11_digest 136 = .ok (.getfield 198, 3) := by decide +kernel
theorem dX11_digest_139 : decode cX11_digest 139 = .ok (.ladd, 1) := by decide +kernel
theorem dX11_digest_140 : decode cX11_digest 140 = .ok (.lmul, 1) := by decide +kernel
theorem dX11_digest_141 : decode cX11_digest 141 = .ok (.aload_n 0, 1) := by decide +kernel
theorem dX11_digest_142 : decode cX11_digest 142 = .ok (.getfield 23, 3) := by decide +kernel
theorem dX11_digest_145 : decode cX11_digest 145 = .ok (.ladd, 1) := by decide +kernel
theorem dX11_digest_146 : decode cX11_digest 146 = .ok (.lreturn, 1) := by decide +kernel
theorem dJ6_bitCount_0f7a4_0 : decode cJ6_bitCount_0f7a4 0 = .ok (.iload_n 0, 1) := by decide +kernel
theorem dJ6_bitCount_0f7a4_1 : decode cJ6_bitCount_0f7a4 1 = .ok (.iload_n 0, 1) := by decide +kernel
theorem dJ6_bitCount_0f7a4_2 : decode cJ6_bitCount_0f7a4 2 = .ok (.iconst 1, 1) := by decide +kernel
theorem dJ6_bitCount_0f7a4_3 : decode cJ6_bitCount_0f7a4 3 = .ok (.iushr, 1) := by decide +kernel
theorem dJ6_bitCount_0f7a4_4 : decode cJ6_bitCount_0f7a4 4 = .ok (.ldc_w 265, 3) := by decide +kernel
theorem dJ6_bitCount_0f7a4_7 : decode cJ6_bitCount_0f7a4 7 = .ok (.iand, 1) := by decide +kernel
theorem dJ6_bitCount_0f7a4_8 : decode cJ6_bitCount_0f7a4 8 = .ok (.isub, 1) := by decide +kernel
theorem dJ6_bitCount_0f7a4_9 : decode cJ6_bitCount_0f7a4 9 = .ok (.istore_n 0, 1) := by decide +kernel
theorem dJ6_bitCount_0f7a4_10 : decode cJ6_bitCount_0f7a4 10 = .ok (.iload_n 0, 1) := by decide +kernel
theorem dJ6_bitCount_0f7a4_11 : decode cJ6_bitCount_0f7a4 11 = .ok (.ldc_w 266, 3) := by decide +kernel
theorem dJ6_bitCount_0f7a4_14 : decode cJ6_bitCount_0f7a4 14 = .ok (.iand, 1) := by decide +kernel
theorem dJ6_bitCount_0f7a4_15 : decode cJ6_bitCount_0f7a4 15 = .ok (.iload_n 0, 1) := by decide +kernel
theorem dJ6_bitCount_0f7a4_16 : decode cJ6_bitCount_0f7a4 16 = .ok (.iconst 2, 1) := by decide +kernel
theorem dJ6_bitCount_0f7a4_17 : decode cJ6_bitCount_0f7a4 17 = .ok (.iushr, 1) := by decide +kernel
theorem dJ6_bitCount_0f7a4_18 : decode cJ6_bitCount_0f7a4 18 = .ok (.ldc_w 266, 3) := by decide +kernel
theorem dJ6_bitCount_0f7a4_21 : decode cJ6_bitCount_0f7a4 21 = .ok (.iand, 1) := by decide +kernel
theorem dJ6_bitCount_0f7a4_22 : decode cJ6_bitCount_0f7a4 22 = .ok (.iadd, 1) := by decide +kernel
theorem dJ6_bitCount_0f7a4_23 : decode cJ6_bitCount_0f7a4 23 = .ok (.istore_n 0, 1) := by decide +kernel
theorem dJ6_bitCount_0f7a4_24 : decode cJ6_bitCount_0f7a4 24 = .ok (.iload_n 0, 1) := by decide +kernel
theorem dJ6_bitCount_0f7a4_25 : decode cJ6_bitCount_0f7a4 25 = .ok (.iload_n 0, 1) := by decide +kernel
theorem dJ6_bitCount_0f7a4_26 : decode cJ6_bitCount_0f7a4 26 = .ok (.iconst 4, 1) := by decide +kernel
theorem dJ6_bitCount_0f7a4_27 : decode cJ6_bitCount_0f7a4 27 = .ok (.iushr, 1) := by decide +kernel
theorem dJ6_bitCount_0f7a4_28 : decode cJ6_bitCount_0f7a4 28 = .ok (.iadd, 1) := by decide +kernel
theorem dJ6_bitCount_0f7a4_29 : decode cJ6_bitCount_0f7a4 29 = .ok (.ldc_w 267, 3) := by decide +kernel
theorem dJ6_bitCount_0f7a4_32 : decode cJ6_bitCount_0f7a4 32 = .ok (.iand, 1) := by decide +kernel
theorem dJ6_bitCount_0f7a4_33 : decode cJ6_bitCount_0f7a4 33 = .ok (.istore_n 0, 1) := by decide +kernel
theorem dJ6_bitCount_0f7a4_34 : decode cJ6_bitCount_0f7a4 34 = .ok (.iload_n 0, 1) := by decide +kernel
theorem dJ6_bitCount_0f7a4_35 : decode cJ6_bitCount_0f7a4 35 = .ok (.iload_n 0, 1) := by decide +kernel
theorem dJ6_bitCount_0f7a4_36 : decode cJ6_bitCount_0f7a4 36 = .ok (.bipush 8, 2) := by decide +kernel
theorem dJ6_bitCount_0f7a4_38 : decode cJ6_bitCount_0f7a4 38 = .ok (.iushr, 1) := by decide +kernel
theorem dJ6_bitCount_0f7a4_39 : decode cJ6_bitCount_0f7a4 39 = .ok (.iadd, 1) := by decide +kernel
theorem dJ6_bitCount_0f7a4_40 : decode cJ6_bitCount_0f7a4 40 = .ok (.istore_n 0, 1) := by decide +kernel
theorem dJ6_bitCount_0f7a4_41 : decode cJ6_bitCount_0f7a4 41 = .ok (.iload_n 0, 1) := by decide +kernel
theorem dJ6_bitCount_0f7a4_42 : decode cJ6_bitCount_0f7a4 42 = .ok (.iload_n 0, 1) := by decide +kernel
theorem dJ6_bitCount_0f7a4_43 : decode cJ6_bitCount_0f7a4 43 = .ok (.bipush 16, 2) := by decide +kernel
theorem dJ6_bitCount_0f7a4_45 : decode cJ6_bitCount_0f7a4 45 = .ok (.iushr, 1) := by decide +kernel
theorem dJ6_bitCount_0f7a4_46 : decode cJ6_bitCount_0f7a4 46 = .ok (.iadd, 1) := by decide +kernel
theorem dJ6_bitCount_0f7a4_47 : decode cJ6_bitCount_0f7a4 47 = .ok (.istore_n 0, 1) := by decide +kernel
theorem dJ6_bitCount_0f7a4_48 : decode cJ6_bitCount_0f7a4 48 = .ok (.iload_n 0, 1) := by decide +kernel
theorem dJ6_bitCount_0f7a4_49 : decode cJ6_bitCount_0f7a4 49 = .ok (.bipush 63, 2) := by decide +kernel
theorem dJ6_bitCount_0f7a4_51 : decode cJ6_bitCount_0f7a4 51 = .ok (.iand, 1) := by decide +kernel
theorem dJ6_bitCount_0f7a4_52 : decode cJ6_bitCount_0f7a4 52 = .ok (.ireturn, 1) := by decide +kernel
theorem dJ9_max_7cf53_0 : decode cJ9_max_7cf53 0 = .ok (.iload_n 0, 1) := by decide +kernel
theorem dJ9_max_7cf53_1 : decode cJ9_max_7cf53 1 = .ok (.iload_n 1, 1) := by decide +kernel
theorem dJ9_max_7cf53_2 : decode cJ9_max_7cf53 2 = .ok (.if_icmp .lt 7, 3) := by decide +kernel
theorem dJ9_max_7cf53_5 : decode cJ9_max_7cf53 5 = .ok (.iload_n 0, 1) := by decide +kernel
theorem dJ9_max_7cf53_6 : decode cJ9_max_7cf53 6 = .ok (.goto 4, 3) := by decide +kernel
theorem dJ9_max_7cf53_9 : decode cJ9_max_7cf53 9 = .ok (.iload_n 1, 1) := by decide +kernel
theorem dJ9_max_7cf53_10 : decode cJ9_max_7cf53 10 = .ok (.ireturn, 1) := by decide +kernel
theorem dJ9_min_7cf53_0 : decode cJ9_min_7cf53 0 = .ok (.iload_n 0, 1) := by decide +kernel
theorem dJ9_min_7cf53_1 : decode cJ9_min_7cf53 1 = .ok (.iload_n 1, 1) := by decide +kernel
theorem dJ9_min_7cf53_2 : decode cJ9_min_7cf53 2 = .ok (.if_icmp .gt 7, 3) := by decide +kernel
theorem dJ9_min_7cf53_5 : decode cJ9_min_7cf53 5 = .ok (.iload_n 0, 1) := by decide +kernel
theorem dJ9_min_7cf53_6 : decode cJ9_min_7cf53 6 = .ok (.goto 4, 3) := by decide +kernel
theorem dJ9_min_7cf53_9 : decode cJ9_min_7cf53 9 = .ok (.iload_n 1, 1) := by decide +kernel
theorem dJ9_min_7cf53_10 : decode cJ9_min_7cf53 10 = .ok (.ireturn, 1) := by decide +kernel
theorem dJ0_length_8abf5_0 : decode cJ0_length_8abf5 0 = .ok (.aload_n 0, 1) := by decide +kernel
theorem dJ0_length_8abf5_1 : decode cJ0_length_8abf5 1 = .ok (.getfield 9, 3) := by decide +kernel
theorem dJ0_length_8abf5_4 : decode cJ0_length_8abf5 4 = .ok (.arraylength, 1) := by decide +kernel
theorem dJ0_length_8abf5_5 : decode cJ0_length_8abf5 5 = .ok (.aload_n 0, 1) := by decide +kernel
theorem dJ0_length_8abf5_6 : decode cJ0_length_8abf5 6 = .ok (.invokevirtual 335, 3) := by decide +kernel
theorem dJ0_length_8abf5_9 : decode cJ0_length_8abf5 9 = .ok (.ishr, 1) := by decide +kernel
theorem dJ0_length_8abf5_10 : decode cJ0_length_8abf5 10 = .ok (.ireturn, 1) := by decide +kernel
theorem dJ0_charAt_5068e_0 : decode cJ0_charAt_5068e 0 = .ok (.aload_n 0, 1) := by decide +kernel
theorem dJ0_charAt_5068e_1 : decode cJ0_charAt_5068e 1 = .ok (.invokevirtual 492, 3) := by decide +kernel
theorem dJ0_charAt_5068e_4 : decode cJ0_charAt_5068e 4 = .ok (.ifCond .eq 12, 3) := by decide +kernel
theorem dJ0_charAt_5068e_7 : decode cJ0_charAt_5068e 7 = .ok (.aload_n 0, 1) := by decide +kernel
theorem dJ0_charAt_5068e_8 : decode cJ0_charAt_5068e 8 = .ok (.getfield 9, 3) := by decide +kernel
theorem dJ0_charAt_5068e_11 : decode cJ0_charAt_5068e 11 = .ok (.iload_n 1, 1) := by decide +kernel
theorem dJ0_charAt_5068e_12 : decode cJ0_charAt_5068e 12 = .ok (.invokestatic 495, 3) := by decide +kernel
theorem dJ0_charAt_5068e_15 : decode cJ0_charAt_5068e 15 = .ok (.ireturn, 1) := by decide +kernel
theorem dJ0_charAt_5068e_16 : decode cJ0_charAt_5068e 16 = .ok (.aload_n 0, 1) := by decide +kernel
theorem dJ0_charAt_5068e_17 : decode cJ0_charAt_5068e 17 = .ok (.getfield 9, 3) := by decide +kernel
theorem dJ0_charAt_5068e_20 : decode cJ0_charAt_5068e 20 = .ok (.iload_n 1, 1) := by decide +kernel
theorem dJ0_charAt_5068e_21 : decode cJ0_charAt_5068e 21 = .ok (.invokestatic 498, 3) := by decide +kernel
theorem dJ0_charAt_5068e_24 : decode cJ0_charAt_5068e 24 = .ok (.ireturn, 1) := by decide +kernel
theorem dJ0_coder_7d493_0 : decode cJ0_coder_7d493 0 = .ok (.getstatic 38, 3) := by decide +kernel
theorem dJ0_coder_7d493_3 : decode cJ0_coder_7d493 3 = .ok (.ifCond .eq 10, 3) := by decide +kernel
theorem dJ0_coder_7d493_6 : decode cJ0_coder_7d493 6 = .ok (.aload_n 0, 1) := by decide +kernel
theorem dJ0_coder_7d493_7 : decode cJ0_coder_7d493 7 = .ok (.getfield 15, 3) := by decide +kernel
theorem dJ0_coder_7d493_10 : decode cJ0_coder_7d493 10 = .ok (.goto 4, 3) := by decide +kernel
theorem dJ0_coder_7d493_13 : decode cJ0_coder_7d493 13 = .ok (.iconst 1, 1) := by decide +kernel
theorem dJ0_coder_7d493_14 : decode cJ0_coder_7d493 14 = .ok (.ireturn, 1) := by decide +kernel
theorem dJ0_isLatin1_aae02_0 : decode cJ0_isLatin1_aae02 0 = .ok (.getstatic 38, 3) := by decide +kernel
theorem dJ0_isLatin1_aae02_3 : decode cJ0_isLatin1_aae02 3 = .ok (.ifCond .eq 14, 3) := by decide +kernel
theorem dJ0_isLatin1_aae02_6 : decode cJ0_isLatin1_aae02 6 = .ok (.aload_n 0, 1) := by decide +kernel
theorem dJ0_isLatin1_aae02_7 : decode cJ0_isLatin1_aae02 7 = .ok (.getfield 15, 3) := by decide +kernel
theorem dJ0_isLatin1_aae02_10 : decode cJ0_isLatin1_aae02 10 = .ok (.ifCond .ne 7, 3) := by decide +kernel
theorem dJ0_isLatin1_aae02_13 : decode cJ0_isLatin1_aae02 13 = .ok (.iconst 1, 1) := by decide +kernel
theorem dJ0_isLatin1_aae02_14 : decode cJ0_isLatin1_aae02 14 = .ok (.goto 4, 3) := by decide +kernel
theorem dJ0_isLatin1_aae02_17 : decode cJ0_isLatin1_aae02 17 = .ok (.iconst 0, 1) := by decide +kernel
theorem dJ0_isLatin1_aae02_18 : decode cJ0_isLatin1_aae02 18 = .ok (.ireturn, 1) := by decide +kernel
theorem dJ0_checkIndex_df160_0 : decode cJ0_checkIndex_df160 0 = .ok (.iload_n 0, 1) := by decide +kernel
theorem dJ0_checkIndex_df160_1 : decode cJ0_checkIndex_df160 1 = .ok (.iload_n 1, 1) := by decide +kernel
theorem dJ0_checkIndex_df160_2 : decode cJ0_checkIndex_df160 2 = .ok (.getstatic 1053, 3) := by decide +kernel
theorem dJ0_checkIndex_df160_5 : decode cJ0_checkIndex_df160 5 = .ok (.invokestatic 1059, 3) := by decide +kernel
theorem dJ0_checkIndex_df160_8 : decode cJ0_checkIndex_df160 8 = .ok (.pop, 1) := by decide +kernel
theorem dJ0_checkIndex_df160_9 : decode cJ0_checkIndex_df160 9 = .ok (.return_, 1) := by decide +kernel
theorem dJ1_charAt_3b067_0 : decode cJ1_charAt_3b067 0 = .ok (.iload_n 1, 1) := by decide +kernel
theorem dJ1_charAt_3b067_1 : decode cJ1_charAt_3b067 1 = .ok (.aload_n 0, 1) := by decide +kernel
theorem dJ1_charAt_3b067_2 : decode cJ1_charAt_3b067 2 = .ok (.arraylength, 1) := by decide +kernel
theorem dJ1_charAt_3b067_3 : decode cJ1_charAt_3b067 3 = .ok (.invokestatic 9, 3) := by decide +kernel
theorem dJ1_charAt_3b067_6 : decode cJ1_charAt_3b067 6 = .ok (.aload_n 0, 1) := by decide +kernel
theorem dJ1_charAt_3b067_7 : decode cJ1_charAt_3b067 7 = .ok (.iload_n 1, 1) := by decide +kernel
theorem dJ1_charAt_3b067_8 : decode cJ1_charAt_3b067 8 = .ok (.baload, 1) := by decide +kernel
theorem dJ1_charAt_3b067_9 : decode cJ1_charAt_3b067 9 = .ok (.sipush 255, 3) := by decide +kernel
theorem dJ1_charAt_3b067_12 : decode cJ1_charAt_3b067 12 = .ok (.iand, 1) := by decide +kernel
theorem dJ1_charAt_3b067_13 : decode cJ1_charAt_3b067 13 = .ok (.i2c, 1) := by decide +kernel
theorem dJ1_charAt_3b067_14 : decode cJ1_charAt_3b067 14 = .ok (.ireturn, 1) := by decide +kernel
theorem dJ2_getChar_3b067_0 : decode cJ2_getChar_3b067 0 = .ok (.getstatic 44, 3) := by decide +kernel
theorem dJ2_getChar_3b067_3 : decode cJ2_getChar_3b067 3 = .ok (.ifCond .ne 25, 3) := by decide +kernel
theorem dJ2_getChar_3b067_6 : decode cJ2_getChar_3b067 6 = .ok (.iload_n 1, 1) := by decide +kernel
theorem dJ2_getChar_3b067_7 : decode cJ2_getChar_3b067 7 = .ok (.ifCond .lt 11, 3) := by decide +kernel
theorem dJ2_getChar_3b067_10 : decode cJ2_getChar_3b067 10 = .ok (.iload_n 1, 1) := by decide +kernel
theorem dJ2_getChar_3b067_11 : decode cJ2_getChar_3b067 11 = .ok (.aload_n 0, 1) := by decide +kernel
theorem dJ2_getChar_3b067_12 : decode cJ2_getChar_3b067 12 = .ok (.invokestatic 48, 3) := by decide +kernel
theorem dJ2_getChar_3b067_15 : decode cJ2_getChar_3b067 15 = .ok (.if_icmp .lt 13, 3) := by decide +kernel
theorem dJ2_getChar_3b067_18 : decode cJ2_getChar_3b067 18 = .ok (.new 52, 3) := by decide +kernel
theorem dJ2_getChar_3b067_21 : decode cJ2_getChar_3b067 21 = .ok (.dup, 1) := by decide +kernel
theorem dJ2_getChar_3b067_22 : decode cJ2_getChar_3b067 22 = .ok (.ldc 54, 2) := by decide +kernel
theorem dJ2_getChar_3b067_24 : decode cJ2_getChar_3b067 24 = .ok (.invokespecial 56, 3) := by decide +kernel
theorem dJ2_getChar_3b067_27 : decode cJ2_getChar_3b067 27 = .ok (.athrow, 1) := by decide +kernel
theorem dJ2_getChar_3b067_28 : decode cJ2_getChar_3b067 28 = .ok (.iload_n 1, 1) := by decide +kernel
theorem dJ2_getChar_3b067_29 : decode cJ2_getChar_3b067 29 = .ok (.iconst 1, 1) := by decide +kernel
theorem dJ2_getChar_3b067_30 : decode cJ2_getChar_3b067 30 = .ok (.ishl, 1) := by decide +kernel
theorem dJ2_getChar_3b067_31 : decode cJ2_getChar_3b067 31 = .ok (.istore_n 1, 1) := by decide +kernel
theorem dJ2_getChar_3b067_32 : decode cJ2_getChar_3b067 32 = .ok (.aload_n 0, 1) := by decide +kernel
theorem dJ2_getChar_3b067_33 : decode cJ2_getChar_3b067 33 = .ok (.iload_n 1, 1) := by decide +kernel
theorem dJ2_getChar_3b067_34 : decode cJ2_getChar_3b067 34 = .ok (.iinc 1 1, 3) := by decide +kernel
theorem dJ2_getChar_3b067_37 : decode cJ2_getChar_3b067 37 = .ok (.baload, 1) := by decide +kernel
theorem dJ2_getChar_3b067_38 : decode cJ2_getChar_3b067 38 = .ok (.sipush 255, 3) := by decide +kernel
theorem dJ2_getChar_3b067_41 : decode cJ2_getChar_3b067 41 = .ok (.iand, 1) := by decide +kernel
theorem dJ2_getChar_3b067_42 : decode cJ2_getChar_3b067 42 = .ok (.getstatic 59, 3) := by decide +kernel
theorem dJ2_getChar_3b067_45 : decode cJ2_getChar_3b067 45 = .ok (.ishl, 1) := by decide +kernel
theorem dJ2_getChar_3b067_46 : decode cJ2_getChar_3b067 46 = .ok (.aload_n 0, 1) := by decide +kernel
theorem dJ2_getChar_3b067_47 : decode cJ2_getChar_3b067 47 = .ok (.iload_n 1, 1) := by decide +kernel
theorem dJ2_getChar_3b067_48 : decode cJ2_getChar_3b067 48 = .ok (.baload, 1) := by decide +kernel
theorem dJ2_getChar_3b067_49 : decode cJ2_getChar_3b067 49 = .ok (.sipush 255, 3) := by decide +kernel
theorem dJ2_getChar_3b067_52 : decode cJ2_getChar_3b067 52 = .ok (.iand, 1) := by decide +kernel
theorem dJ2_getChar_3b067_53 : decode cJ2_getChar_3b067 53 = .ok (.getstatic 63, 3) := by decide +kernel
theorem dJ2_getChar_3b067_56 : decode cJ2_getChar_3b067 56 = .ok (.ishl, 1) := by decide +kernel
theorem dJ2_getChar_3b067_57 : decode cJ2_getChar_3b067 57 = .ok (.ior, 1) := by decide +kernel
theorem dJ2_getChar_3b067_58 : decode cJ2_getChar_3b067 58 = .ok (.i2c, 1) := by decide +kernel
theorem dJ2_getChar_3b067_59 : decode cJ2_getChar_3b067 59 = .ok (.ireturn, 1) := by decide +kernel
theorem dJ2_length_9d52b_0 : decode cJ2_length_9d52b 0 = .ok (.aload_n 0, 1) := by decide +kernel
theorem dJ2_length_9d52b_1 : decode cJ2_length_9d52b 1 = .ok (.arraylength, 1) := by decide +kernel
theorem dJ2_length_9d52b_2 : decode cJ2_length_9d52b 2 = .ok (.iconst 1, 1) := by decide +kernel
theorem dJ2_length_9d52b_3 : decode cJ2_length_9d52b 3 = .ok (.ishr, 1) := by decide +kernel
theorem dJ2_length_9d52b_4 : decode cJ2_length_9d52b 4 = .ok (.ireturn, 1) := by decide +kernel
theorem dJ2_charAt_3b067_0 : decode cJ2_charAt_3b067 0 = .ok (.iload_n 1, 1) := by decide +kernel
theorem dJ2_charAt_3b067_1 : decode cJ2_charAt_3b067 1 = .ok (.aload_n 0, 1) := by decide +kernel
theorem dJ2_charAt_3b067_2 : decode cJ2_charAt_3b067 2 = .ok (.invokestatic 67, 3) := by decide +kernel
theorem dJ2_charAt_3b067_5 : decode cJ2_charAt_3b067 5 = .ok (.aload_n 0, 1) := by decide +kernel
theorem dJ2_charAt_3b067_6 : decode cJ2_charAt_3b067 6 = .ok (.iload_n 1, 1) := by decide +kernel
theorem dJ2_charAt_3b067_7 : decode cJ2_charAt_3b067 7 = .ok (.invokestatic 71, 3) := by decide +kernel
theorem dJ2_charAt_3b067_10 : decode cJ2_charAt_3b067 10 = .ok (.ireturn, 1) := by decide +kernel
theorem dJ2_checkIndex_2214a_0 : decode cJ2_checkIndex_2214a 0 = .ok (.iload_n 0, 1) := by decide +kernel
theorem dJ2_checkIndex_2214a_1 : decode cJ2_checkIndex_2214a 1 = .ok (.aload_n 1, 1) := by decide +kernel
theorem dJ2_checkIndex_2214a_2 : decode cJ2_checkIndex_2214a 2 = .ok (.invokestatic 48, 3) := by decide +kernel
theorem dJ2_checkIndex_2214a_5 : decode cJ2_checkIndex_2214a 5 = .ok (.invokestatic 414, 3) := by decide +kernel
theorem dJ2_checkIndex_2214a_8 : decode cJ2_checkIndex_2214a 8 = .ok (.return_, 1) := by decide +kernel
theorem dJ3_checkIndex_8e157_0 : decode cJ3_checkIndex_8e157 0 = .ok (.iload_n 0, 1) := by decide +kernel
theorem dJ3_checkIndex_8e157_1 : decode cJ3_checkIndex_8e157 1 = .ok (.ifCond .lt 8, 3) := by decide +kernel
theorem dJ3_checkIndex_8e157_4 : decode cJ3_checkIndex_8e157 4 = .ok (.iload_n 0, 1) := by decide +kernel
theorem dJ3_checkIndex_8e157_5 : decode cJ3_checkIndex_8e157 5 = .ok (.iload_n 1, 1) := by decide +kernel
theorem dJ3_checkIndex_8e157_6 : decode cJ3_checkIndex_8e157 6 = .ok (.if_icmp .lt 10, 3) := by decide +kernel
theorem dJ3_checkIndex_8e157_9 : decode cJ3_checkIndex_8e157 9 = .ok (.aload_n 2, 1) := by decide +kernel
theorem dJ3_checkIndex_8e157_10 : decode cJ3_checkIndex_8e157 10 = .ok (.iload_n 0, 1) := by decide +kernel
theorem dJ3_checkIndex_8e157_11 : decode cJ3_checkIndex_8e157 11 = .ok (.iload_n 1, 1) := by decide +kernel
theorem dJ3_checkIndex_8e157_12 : decode cJ3_checkIndex_8e157 12 = .ok (.invokestatic 95, 3) := by decide +kernel
theorem dJ3_checkIndex_8e157_15 : decode cJ3_checkIndex_8e157 15 = .ok (.athrow, 1) := by decide +kernel
theorem dJ3_checkIndex_8e157_16 : decode cJ3_checkIndex_8e157 16 = .ok (.iload_n 0, 1) := by decide +kernel
theorem dJ3_checkIndex_8e157_17 : decode cJ3_checkIndex_8e157 17 = .ok (.ireturn, 1) := by decide +kernel
