theorem dX11_init_0 : decode cX11_init 0 = .ok (.aload_n 0, 1) := by decide +kernel
theorem dX11_init_1 : decode cX11_init 1 = .ok (.invokespecial 1, 3) := by decide +kernel
theorem dX11_init_4 : decode cX11_init 4 = .ok (.aload_n 0, 1) := by decide +kernel
theorem dX11_init_5 : decode cX11_init 5 = .ok (.bipush 84, 2) := by decide +kernel
theorem dX11_init_7 : decode cX11_init 7 = .ok (.newarray .int, 2) := by decide +kernel
theorem dX11_init_9 : decode cX11_init 9 = .ok (.putfield 7, 3) := by decide +kernel
theorem dX11_init_12 : decode cX11_init 12 = .ok (.aload_n 0, 1) := by decide +kernel
theorem dX11_init_13 : decode cX11_init 13 = .ok (.sipush 168, 3) := by decide +kernel
theorem dX11_init_16 : decode cX11_init 16 = .ok (.newarray .int, 2) := by decide +kernel
theorem dX11_init_18 : decode cX11_init 18 = .ok (.putfield 13, 3) := by decide +kernel
theorem dX11_init_21 : decode cX11_init 21 = .ok (.aload_n 0, 1) := by decide +kernel
theorem dX11_init_22 : decode cX11_init 22 = .ok (.iconst 2, 1) := by decide +kernel
theorem dX11_init_23 : decode cX11_init 23 = .ok (.newarray .boolean, 2) := by decide +kernel
theorem dX11_init_25 : decode cX11_init 25 = .ok (.putfield 16, 3) := by decide +kernel
theorem dX11_init_28 : decode cX11_init 28 = .ok (.aload_n 0, 1) := by decide +kernel
theorem dX11_init_29 : decode cX11_init 29 = .ok (.iconst 3, 1) := by decide +kernel
theorem dX11_init_30 : decode cX11_init 30 = .ok (.newarray .int, 2) := by decide +kernel
theorem dX11_init_32 : decode cX11_init 32 = .ok (.putfield 20, 3) := by decide +kernel
theorem dX11_init_35 : decode cX11_init 35 = .ok (.aload_n 0, 1) := by decide +kernel
theorem dX11_init_36 : decode cX11_init 36 = .ok (.lconst 1, 1) := by decide +kernel
theorem dX11_init_37 : decode cX11_init 37 = .ok (.putfield 23, 3) := by decide +kernel
theorem dX11_init_40 : decode cX11_init 40 = .ok (.aload_n 0, 1) := by decide +kernel
theorem dX11_init_41 : decode cX11_init 41 = .ok (.bipush 7, 2) := by decide +kernel
theorem dX11_init_43 : decode cX11_init 43 = .ok (.newarray .int, 2) := by decide +kernel
theorem dX11_init_45 : decode cX11_init 45 = .ok (.putfield 27, 3) := by decide +kernel
theorem dX11_init_48 : decode cX11_init 48 = .ok (.aload_n 0, 1) := by decide +kernel
theorem dX11_init_49 : decode cX11_init 49 = .ok (.bipush 7, 2) := by decide +kernel
theorem dX11_init_51 : decode cX11_init 51 = .ok (.newarray .int, 2) := by decide +kernel
theorem dX11_init_53 : decode cX11_init 53 = .ok (.putfield 30, 3) := by decide +kernel
theorem dX11_init_56 : decode cX11_init 56 = .ok (.aload_n 0, 1) := by decide +kernel
theorem dX11_init_57 : decode cX11_init 57 = .ok (.iconst 4, 1) := by decide +kernel
theorem dX11_init_58 : decode cX11_init 58 = .ok (.newarray .int, 2) := by decide +kernel
theorem dX11_init_60 : decode cX11_init 60 = .ok (.putfield 33, 3) := by decide +kernel
theorem dX11_init_63 : decode cX11_init 63 = .ok (.aload_n 0, 1) := by decide +kernel
theorem dX11_init_64 : decode cX11_init 64 = .ok (.iconst 4, 1) := by decide +kernel
theorem dX11_init_65 : decode cX11_init 65 = .ok (.newarray .int, 2) := by decide +kernel
theorem dX11_init_67 : decode cX11_init 67 = .ok (.putfield 36, 3) := by decide +kernel
theorem dX11_init_70 : decode cX11_init 70 = .ok (.aload_n 0, 1) := by decide +kernel
theorem dX11_init_71 : decode cX11_init 71 = .ok (.sipush 150, 3) := by decide +kernel
theorem dX11_init_74 : decode cX11_init 74 = .ok (.newarray .int, 2) := by decide +kernel
theorem dX11_init_76 : decode cX11_init 76 = .ok (.putfield 39, 3) := by decide +kernel
theorem dX11_init_79 : decode cX11_init 79 = .ok (.aload_n 0, 1) := by decide +kernel
theorem dX11_init_80 : decode cX11_init 80 = .ok (.bipush 68, 2) := by decide +kernel
theorem dX11_init_82 : decode cX11_init 82 = .ok (.newarray .int, 2) := by decide +kernel
theorem dX11_init_84 : decode cX11_init 84 = .ok (.putfield 42, 3) := by decide +kernel
theorem dX11_init_87 : decode cX11_init 87 = .ok (.aload_n 0, 1) := by decide +kernel
theorem dX11_init_88 : decode cX11_init 88 = .ok (.iconst 2, 1) := by decide +kernel
theorem dX11_init_89 : decode cX11_init 89 = .ok (.newarray .int, 2) := by decide +kernel
theorem dX11_init_91 : decode cX11_init 91 = .ok (.putfield 45, 3) := by decide +kernel
theorem dX11_init_94 : decode cX11_init 94 = .ok (.aload_n 0, 1) := by decide +kernel
theorem dX11_init_95 : decode cX11_init 95 = .ok (.getfield 7, 3) := by decide +kernel
theorem dX11_init_98 : decode cX11_init 98 = .ok (.iconst 0, 1) := by decide +kernel
theorem dX11_init_99 : decode cX11_init 99 = .ok (.invokestatic 48, 3) := by decide +kernel
theorem dX11_init_102 : decode cX11_init 102 = .ok (.return_, 1) := by decide +kernel
theorem dX11_in_0 : decode cX11_in 0 = .ok (.lload_n 0, 1) := by decide +kernel
theorem dX11_in_1 : decode cX11_in 1 = .ok (.lload_n 2, 1) := by decide +kernel
theorem dX11_in_2 : decode cX11_in 2 = .ok (.lcmp, 1) := by decide +kernel
theorem dX11_in_3 : decode cX11_in 3 = .ok (.ifCond .lt 14, 3) := by decide +kernel
theorem dX11_in_6 : decode cX11_in 6 = .ok (.lload_n 0, 1) := by decide +kernel
theorem dX11_in_7 : decode cX11_in 7 = .ok (.lload 4, 2) := by decide +kernel
theorem dX11_in_9 : decode cX11_in 9 = .ok (.lcmp, 1) := by decide +kernel
theorem dX11_in_10 : decode cX11_in 10 = .ok (.ifCond .gt 7, 3) := by decide +kernel
theorem dX11_in_13 : decode cX11_in 13 = .ok (.iconst 1, 1) := by decide +kernel
theorem dX11_in_14 : decode cX11_in 14 = .ok (.goto 4, 3) := by decide +kernel
theorem dX11_in_17 : decode cX11_in 17 = .ok (.iconst 0, 1) := by decide +kernel
theorem dX11_in_18 : decode cX11_in 18 = .ok (.ireturn, 1) := by decide +kernel
theorem dX11_bad_0 : decode cX11_bad 0 = .ok (.aload_n 0, 1) := by decide +kernel
theorem dX11_bad_1 : decode cX11_bad 1 = .ok (.getfield 20, 3) := by decide +kernel
theorem dX11_bad_4 : decode cX11_bad 4 = .ok (.iconst 0, 1) := by decide +kernel
theorem dX11_bad_5 : decode cX11_bad 5 = .ok (.dup2, 1) := by decide +kernel
theorem dX11_bad_6 : decode cX11_bad 6 = .ok (.iaload, 1) := by decide +kernel
theorem dX11_bad_7 : decode cX11_bad 7 = .ok (.iconst 1, 1) := by decide +kernel
theorem dX11_bad_8 : decode cX11_bad 8 = .ok (.iadd, 1) := by decide +kernel
theorem dX11_bad_9 : decode cX11_bad 9 = .ok (.iastore, 1) := by decide +kernel
theorem dX11_bad_10 : decode cX11_bad 10 = .ok (.iload_n 1, 1) := by decide +kernel
theorem dX11_bad_11 : decode cX11_bad 11 = .ok (.ireturn, 1) := by decide +kernel
theorem dX11_no_0 : decode cX11_no 0 = .ok (.aload_n 0, 1) := by decide +kernel
theorem dX11_no_1 : decode cX11_no 1 = .ok (.getfield 20, 3) := by decide +kernel
theorem dX11_no_4 : decode cX11_no 4 = .ok (.iconst 1, 1) := by decide +kernel
theorem dX11_no_5 : decode cX11_no 5 = .ok (.dup2, 1) := by decide +kernel
theorem dX11_no_6 : decode cX11_no 6 = .ok (.iaload, 1) := by decide +kernel
theorem dX11_no_7 : decode cX11_no 7 = .ok (.iconst 1, 1) := by decide +kernel
theorem dX11_no_8 : decode cX11_no 8 = .ok (.iadd, 1) := by decide +kernel
theorem dX11_no_9 : decode cX11_no 9 = .ok (.iastore, 1) := by decide +kernel
theorem dX11_no_10 : decode cX11_no 10 = .ok (.bipush (-3), 2) := by decide +kernel
theorem dX11_no_12 : decode cX11_no 12 = .ok (.ireturn, 1) := by decide +kernel
theorem dX11_full_0 : decode cX11_full 0 = .ok (.aload_n 0, 1) := by decide +kernel
theorem dX11_full_1 : decode cX11_full 1 = .ok (.getfield 20, 3) := by decide +kernel
theorem dX11_full_4 : decode cX11_full 4 = .ok (.iconst 2, 1) := by decide +kernel
theorem dX11_full_5 : decode cX11_full 5 = .ok (.dup2, 1) := by decide +kernel
theorem dX11_full_6 : decode cX11_full 6 = .ok (.iaload, 1) := by decide +kernel
theorem dX11_full_7 : decode cX11_full 7 = .ok (.iconst 1, 1) := by decide +kernel
theorem dX11_full_8 : decode cX11_full 8 = .ok (.iadd, 1) := by decide +kernel
theorem dX11_full_9 : decode cX11_full 9 = .ok (.iastore, 1) := by decide +kernel
theorem dX11_full_10 : decode cX11_full 10 = .ok (.bipush (-4), 2) := by decide +kernel
theorem dX11_full_12 : decode cX11_full 12 = .ok (.ireturn, 1) := by decide +kernel
theorem dX11_bits_0 : decode cX11_bits 0 = .ok (.iconst 0, 1) := by decide +kernel
theorem dX11_bits_1 : decode cX11_bits 1 = .ok (.istore_n 1, 1) := by decide +kernel
theorem dX11_bits_2 : decode cX11_bits 2 = .ok (.iload_n 0, 1) := by decide +kernel
theorem dX11_bits_3 : decode cX11_bits 3 = .ok (.istore_n 2, 1) := by decide +kernel
theorem dX11_bits_4 : decode cX11_bits 4 = .ok (.iload_n 2, 1) := by decide +kernel
theorem dX11_bits_5 : decode cX11_bits 5 = .ok (.ifCond .le 16, 3) := by decide +kernel
theorem dX11_bits_8 : decode cX11_bits 8 = .ok (.iload_n 1, 1) := by decide +kernel
theorem dX11_bits_9 : decode cX11_bits 9 = .ok (.iload_n 2, 1) := by decide +kernel
theorem dX11_bits_10 : decode cX11_bits 10 = .ok (.iconst 1, 1) := by decide +kernel
theorem dX11_bits_11 : decode cX11_bits 11 = .ok (.iand, 1) := by decide +kernel
theorem dX11_bits_12 : decode cX11_bits 12 = .ok (.iadd, 1) := by decide +kernel
theorem dX11_bits_13 : decode cX11_bits 13 = .ok (.istore_n 1, 1) := by decide +kernel
theorem dX11_bits_14 : decode cX11_bits 14 = .ok (.iload_n 2, 1) := by decide +kernel
theorem dX11_bits_15 : decode cX11_bits 15 = .ok (.iconst 1, 1) := by decide +kernel
theorem dX11_bits_16 : decode cX11_bits 16 = .ok (.ishr, 1) := by decide +kernel
theorem dX11_bits_17 : decode cX11_bits 17 = .ok (.istore_n 2, 1) := by decide +kernel
theorem dX11_bits_18 : decode cX11_bits 18 = .ok (.goto (-14), 3) := by decide +kernel
theorem dX11_bits_21 : decode cX11_bits 21 = .ok (.iload_n 1, 1) := by decide +kernel
theorem dX11_bits_22 : decode cX11_bits 22 = .ok (.ireturn, 1) := by decide +kernel
theorem dX11_has_0 : decode cX11_has 0 = .ok (.iload_n 0, 1) := by decide +kernel
theorem dX11_has_1 : decode cX11_has 1 = .ok (.iload_n 1, 1) := by decide +kernel
theorem dX11_has_2 : decode cX11_has 2 = .ok (.ishr, 1) := by decide +kernel
theorem dX11_has_3 : decode cX11_has 3 = .ok (.iconst 1, 1) := by decide +kernel
theorem dX11_has_4 : decode cX11_has 4 = .ok (.iand, 1) := by decide +kernel
theorem dX11_has_5 : decode cX11_has 5 = .ok (.iconst 1, 1) := by decide +kernel
theorem dX11_has_6 : decode cX11_has 6 = .ok (.if_icmp .ne 7, 3) := by decide +kernel
theorem dX11_has_9 : decode cX11_has 9 = .ok (.iconst 1, 1) := by decide +kernel
theorem dX11_has_10 : decode cX11_has 10 = .ok (.goto 4, 3) := by decide +kernel
theorem dX11_has_13 : decode cX11_has 13 = .ok (.iconst 0, 1) := by decide +kernel
theorem dX11_has_14 : decode cX11_has 14 = .ok (.ireturn, 1) := by decide +kernel
theorem dX11_begin_0 : decode cX11_begin 0 = .ok (.iconst 0, 1) := by decide +kernel
theorem dX11_begin_1 : decode cX11_begin 1 = .ok (.istore_n 2, 1) := by decide +kernel
theorem dX11_begin_2 : decode cX11_begin 2 = .ok (.iload_n 2, 1) := by decide +kernel
theorem dX11_begin_3 : decode cX11_begin 3 = .ok (.bipush 68, 2) := by decide +kernel
theorem dX11_begin_5 : decode cX11_begin 5 = .ok (.if_icmp .ge 13, 3) := by decide +kernel
theorem dX11_begin_8 : decode cX11_begin 8 = .ok (.aload_n 0, 1) := by decide +kernel
theorem dX11_begin_9 : decode cX11_begin 9 = .ok (.iload_n 2, 1) := by decide +kernel
theorem dX11_begin_10 : decode cX11_begin 10 = .ok (.iconst 0, 1) := by decide +kernel
theorem dX11_begin_11 : decode cX11_begin 11 = .ok (.iastore, 1) := by decide +kernel
theorem dX11_begin_12 : decode cX11_begin 12 = .ok (.iinc 2 1, 3) := by decide +kernel
theorem dX11_begin_15 : decode cX11_begin 15 = .ok (.goto (-13), 3) := by decide +kernel
theorem dX11_begin_18 : decode cX11_begin 18 = .ok (.aload_n 0, 1) := by decide +kernel
theorem dX11_begin_19 : decode cX11_begin 19 = .ok (.iconst 2, 1) := by decide +kernel
theorem dX11_begin_20 : decode cX11_begin 20 = .ok (.iload_n 1, 1) := by decide +kernel
theorem dX11_begin_21 : decode cX11_begin 21 = .ok (.iastore, 1) := by decide +kernel
theorem dX11_begin_22 : decode cX11_begin 22 = .ok (.return_, 1) := by decide +kernel
theorem dX11_many_0 : decode cX11_many 0 = .ok (.aload_n 0, 1) := by decide +kernel
theorem dX11_many_1 : decode cX11_many 1 = .ok (.getfield 7, 3) := by decide +kernel
theorem dX11_many_4 : decode cX11_many 4 = .ok (.iconst 0, 1) := by decide +kernel
theorem dX11_many_5 : decode cX11_many 5 = .ok (.iaload, 1) := by decide +kernel
theorem dX11_many_6 : decode cX11_many 6 = .ok (.ireturn, 1) := by decide +kernel
theorem dX11_isTree_0 : decode cX11_isTree 0 = .ok (.iload_n 1, 1) := by decide +kernel
theorem dX11_isTree_1 : decode cX11_isTree 1 = .ok (.i2l, 1) := by decide +kernel
theorem dX11_isTree_2 : decode cX11_isTree 2 = .ok (.lconst 0, 1) := by decide +kernel
theorem dX11_isTree_3 : decode cX11_isTree 3 = .ok (.aload_n 0, 1) := by decide +kernel
theorem dX11_isTree_4 : decode cX11_isTree 4 = .ok (.invokevirtual 52, 3) := by decide +kernel
theorem dX11_isTree_7 : decode cX11_isTree 7 = .ok (.iconst 1, 1) := by decide +kernel
theorem dX11_isTree_8 : decode cX11_isTree 8 = .ok (.isub, 1) := by decide +kernel
theorem dX11_isTree_9 : decode cX11_isTree 9 = .ok (.i2l, 1) := by decide +kernel
theorem dX11_isTree_10 : decode cX11_isTree 10 = .ok (.invokestatic 56, 3) := by decide +kernel
theorem dX11_isTree_13 : decode cX11_isTree 13 = .ok (.ireturn, 1) := by decide +kernel
theorem dX11_isLetter_0 : decode cX11_isLetter 0 = .ok (.iload_n 0, 1) := by decide +kernel
theorem dX11_isLetter_1 : decode cX11_isLetter 1 = .ok (.i2l, 1) := by decide +kernel
theorem dX11_isLetter_2 : decode cX11_isLetter 2 = .ok (.lconst 0, 1) := by decide +kernel
theorem dX11_isLetter_3 : decode cX11_isLetter 3 = .ok (.ldc2_w 60, 3) := by decide +kernel
theorem dX11_isLetter_6 : decode cX11_isLetter 6 = .ok (.invokestatic 56, 3) := by decide +kernel
theorem dX11_isLetter_9 : decode cX11_isLetter 9 = .ok (.istore_n 1, 1) := by decide +kernel
theorem dX11_isLetter_10 : decode cX11_isLetter 10 = .ok (.iload_n 0, 1) := by decide +kernel
theorem dX11_isLetter_11 : decode cX11_isLetter 11 = .ok (.istore_n 2, 1) := by decide +kernel
theorem dX11_isLetter_12 : decode cX11_isLetter 12 = .ok (.iload_n 2, 1) := by decide +kernel
theorem dX11_isLetter_13 : decode cX11_isLetter 13 = .ok (.ifCond .le 28, 3) := by decide +kernel
theorem dX11_isLetter_16 : decode cX11_isLetter 16 = .ok (.iload_n 1, 1) := by decide +kernel
theorem dX11_isLetter_17 : decode cX11_isLetter 17 = .ok (.ifCond .eq 24, 3) := by decide +kernel
theorem dX11_isLetter_20 : decode cX11_isLetter 20 = .ok (.iload_n 2, 1) := by decide +kernel
theorem dX11_isLetter_21 : decode cX11_isLetter 21 = .ok (.bipush 10, 2) := by decide +kernel
theorem dX11_isLetter_23 : decode cX11_isLetter 23 = .ok (.irem, 1) := by decide +kernel
theorem dX11_isLetter_24 : decode cX11_isLetter 24 = .ok (.i2l, 1) := by decide +kernel
theorem dX11_isLetter_25 : decode cX11_isLetter 25 = .ok (.lconst 1, 1) := by decide +kernel
theorem dX11_isLetter_26 : decode cX11_isLetter 26 = .ok (.ldc2_w 62, 3) := by decide +kernel
theorem dX11_isLetter_29 : decode cX11_isLetter 29 = .ok (.invokestatic 56, 3) := by decide +kernel
theorem dX11_isLetter_32 : decode cX11_isLetter 32 = .ok (.istore_n 1, 1) := by decide +kernel
theorem dX11_isLetter_33 : decode cX11_isLetter 33 = .ok (.iload_n 2, 1) := by decide +kernel
theorem dX11_isLetter_34 : decode cX11_isLetter 34 = .ok (.bipush 10, 2) := by decide +kernel
theorem dX11_isLetter_36 : decode cX11_isLetter 36 = .ok (.idiv, 1) := by decide +kernel
theorem dX11_isLetter_37 : decode cX11_isLetter 37 = .ok (.istore_n 2, 1) := by decide +kernel
theorem dX11_isLetter_38 : decode cX11_isLetter 38 = .ok (.goto (-26), 3) := by decide +kernel
theorem dX11_isLetter_41 : decode cX11_isLetter 41 = .ok (.iload_n 1, 1) := by decide +kernel
theorem dX11_isLetter_42 : decode cX11_isLetter 42 = .ok (.ireturn, 1) := by decide +kernel
theorem dX11_wood_0 : decode cX11_wood 0 = .ok (.iload_n 1, 1) := by decide +kernel
theorem dX11_wood_1 : decode cX11_wood 1 = .ok (.i2l, 1) := by decide +kernel
theorem dX11_wood_2 : decode cX11_wood 2 = .ok (.lconst 0, 1) := by decide +kernel
theorem dX11_wood_3 : decode cX11_wood 3 = .ok (.ldc2_w 64, 3) := by decide +kernel
theorem dX11_wood_6 : decode cX11_wood 6 = .ok (.invokestatic 56, 3) := by decide +kernel
theorem dX11_wood_9 : decode cX11_wood 9 = .ok (.ifCond .ne 10, 3) := by decide +kernel
theorem dX11_wood_12 : decode cX11_wood 12 = .ok (.aload_n 0, 1) := by decide +kernel
theorem dX11_wood_13 : decode cX11_wood 13 = .ok (.bipush (-2), 2) := by decide +kernel
theorem dX11_wood_15 : decode cX11_wood 15 = .ok (.invokevirtual 66, 3) := by decide +kernel
theorem dX11_wood_18 : decode cX11_wood 18 = .ok (.ireturn, 1) := by decide +kernel
theorem dX11_wood_19 : decode cX11_wood 19 = .ok (.aload_n 0, 1) := by decide +kernel
theorem dX11_wood_20 : decode cX11_wood 20 = .ok (.invokevirtual 52, 3) := by decide +kernel
theorem dX11_wood_23 : decode cX11_wood 23 = .ok (.istore_n 2, 1) := by decide +kernel
theorem dX11_wood_24 : decode cX11_wood 24 = .ok (.aload_n 0, 1) := by decide +kernel
theorem dX11_wood_25 : decode cX11_wood 25 = .ok (.getfield 7, 3) := by decide +kernel
theorem dX11_wood_28 : decode cX11_wood 28 = .ok (.iload_n 1, 1) := by decide +kernel
theorem dX11_wood_29 : decode cX11_wood 29 = .ok (.invokestatic 48, 3) := by decide +kernel
theorem dX11_wood_32 : decode cX11_wood 32 = .ok (.iload_n 2, 1) := by decide +kernel
theorem dX11_wood_33 : decode cX11_wood 33 = .ok (.ireturn, 1) := by decide +kernel
theorem dX11_tree_0 : decode cX11_tree 0 = .ok (.iload_n 1, 1) := by decide +kernel
theorem dX11_tree_1 : decode cX11_tree 1 = .ok (.i2l, 1) := by decide +kernel
theorem dX11_tree_2 : decode cX11_tree 2 = .ok (.lconst 0, 1) := by decide +kernel
theorem dX11_tree_3 : decode cX11_tree 3 = .ok (.ldc2_w 70, 3) := by decide +kernel
theorem dX11_tree_6 : decode cX11_tree 6 = .ok (.invokestatic 56, 3) := by decide +kernel
theorem dX11_tree_9 : decode cX11_tree 9 = .ok (.ifCond .ne 10, 3) := by decide +kernel
theorem dX11_tree_12 : decode cX11_tree 12 = .ok (.aload_n 0, 1) := by decide +kernel
theorem dX11_tree_13 : decode cX11_tree 13 = .ok (.bipush (-2), 2) := by decide +kernel
theorem dX11_tree_15 : decode cX11_tree 15 = .ok (.invokevirtual 66, 3) := by decide +kernel
theorem dX11_tree_18 : decode cX11_tree 18 = .ok (.ireturn, 1) := by decide +kernel
theorem dX11_tree_19 : decode cX11_tree 19 = .ok (.aload_n 0, 1) := by decide +kernel
theorem dX11_tree_20 : decode cX11_tree 20 = .ok (.invokevirtual 52, 3) := by decide +kernel
theorem dX11_tree_23 : decode cX11_tree 23 = .ok (.bipush 7, 2) := by decide +kernel
theorem dX11_tree_25 : decode cX11_tree 25 = .ok (.if_icmp .ne 8, 3) := by decide +kernel
theorem dX11_tree_28 : decode cX11_tree 28 = .ok (.aload_n 0, 1) := by decide +kernel
theorem dX11_tree_29 : decode cX11_tree 29 = .ok (.invokevirtual 72, 3) := by decide +kernel
theorem dX11_tree_32 : decode cX11_tree 32 = .ok (.ireturn, 1) := by decide +kernel
theorem dX11_tree_33 : decode cX11_tree 33 = .ok (.aload_n 0, 1) := by decide +kernel
theorem dX11_tree_34 : decode cX11_tree 34 = .ok (.getfield 7, 3) := by decide +kernel
theorem dX11_tree_37 : decode cX11_tree 37 = .ok (.bipush 6, 2) := by decide +kernel
theorem dX11_tree_39 : decode cX11_tree 39 = .ok (.aload_n 0, 1) := by decide +kernel
theorem dX11_tree_40 : decode cX11_tree 40 = .ok (.invokevirtual 52, 3) := by decide +kernel
theorem dX11_tree_43 : decode cX11_tree 43 = .ok (.iadd, 1) := by decide +kernel
theorem dX11_tree_44 : decode cX11_tree 44 = .ok (.iload_n 1, 1) := by decide +kernel
theorem dX11_tree_45 : decode cX11_tree 45 = .ok (.iastore, 1) := by decide +kernel
theorem dX11_tree_46 : decode cX11_tree 46 = .ok (.aload_n 0, 1) := by decide +kernel
theorem dX11_tree_47 : decode cX11_tree 47 = .ok (.getfield 7, 3) := by decide +kernel
theorem dX11_tree_50 : decode cX11_tree 50 = .ok (.iconst 0, 1) := by decide +kernel
theorem dX11_tree_51 : decode cX11_tree 51 = .ok (.dup2, 1) := by decide +kernel
theorem dX11_tree_52 : decode cX11_tree 52 = .ok (.iaload, 1) := by decide +kernel
theorem dX11_tree_53 : decode cX11_tree 53 = .ok (.iconst 1, 1) := by decide +kernel
theorem dX11_tree_54 : decode cX11_tree 54 = .ok (.iadd, 1) := by decide +kernel
theorem dX11_tree_55 : decode cX11_tree 55 = .ok (.iastore, 1) := by decide +kernel
theorem dX11_tree_56 : decode cX11_tree 56 = .ok (.aload_n 0, 1) := by decide +kernel
theorem dX11_tree_57 : decode cX11_tree 57 = .ok (.getfield 7, 3) := by decide +kernel
theorem dX11_tree_60 : decode cX11_tree 60 = .ok (.iconst 5, 1) := by decide +kernel
theorem dX11_tree_61 : decode cX11_tree 61 = .ok (.iconst 0, 1) := by decide +kernel
theorem dX11_tree_62 : decode cX11_tree 62 = .ok (.iastore, 1) := by decide +kernel
theorem dX11_tree_63 : decode cX11_tree 63 = .ok (.aload_n 0, 1) := by decide +kernel
theorem dX11_tree_64 : decode cX11_tree 64 = .ok (.invokevirtual 52, 3) := by decide +kernel
theorem dX11_tree_67 : decode cX11_tree 67 = .ok (.iconst 1, 1) := by decide +kernel
theorem dX11_tree_68 : decode cX11_tree 68 = .ok (.isub, 1) := by decide +kernel
theorem dX11_tree_69 : decode cX11_tree 69 = .ok (.ireturn, 1) := by decide +kernel
theorem dX11_layTouch_0 : decode cX11_layTouch 0 = .ok (.aload_n 0, 1) := by decide +kernel
theorem dX11_layTouch_1 : decode cX11_layTouch 1 = .ok (.bipush 13, 2) := by decide +kernel
theorem dX11_layTouch_3 : decode cX11_layTouch 3 = .ok (.iload_n 1, 1) := by decide +kernel
theorem dX11_layTouch_4 : decode cX11_layTouch 4 = .ok (.iadd, 1) := by decide +kernel
theorem dX11_layTouch_5 : decode cX11_layTouch 5 = .ok (.iload_n 3, 1) := by decide +kernel
theorem dX11_layTouch_6 : decode cX11_layTouch 6 = .ok (.ifCond .eq 16, 3) := by decide +kernel
theorem dX11_layTouch_9 : decode cX11_layTouch 9 = .ok (.aload_n 0, 1) := by decide +kernel
theorem dX11_layTouch_10 : decode cX11_layTouch 10 = .ok (.bipush 13, 2) := by decide +kernel
theorem dX11_layTouch_12 : decode cX11_layTouch 12 = .ok (.iload_n 1, 1) := by decide +kernel
theorem dX11_layTouch_13 : decode cX11_layTouch 13 = .ok (.iadd, 1) := by decide +kernel
theorem dX11_layTouch_14 : decode cX11_layTouch 14 = .ok (.iaload, 1) := by decide +kernel
theorem dX11_layTouch_15 : decode cX11_layTouch 15 = .ok (.iconst 1, 1) := by decide +kernel
theorem dX11_layTouch_16 : decode cX11_layTouch 16 = .ok (.iload_n 2, 1) := by decide +kernel
theorem dX11_layTouch_17 : decode cX11_layTouch 17 = .ok (.ishl, 1) := by decide +kernel
theorem dX11_layTouch_18 : decode cX11_layTouch 18 = .ok (.ior, 1) := by decide +kernel
theorem dX11_layTouch_19 : decode cX11_layTouch 19 = .ok (.goto 15, 3) := by decide +kernel
theorem dX11_layTouch_22 : decode cX11_layTouch 22 = .ok (.aload_n 0, 1) := by decide +kernel
theorem dX11_layTouch_23 : decode cX11_layTouch 23 = .ok (.bipush 13, 2) := by decide +kernel
theorem dX11_layTouch_25 : decode cX11_layTouch 25 = .ok (.iload_n 1, 1) := by decide +kernel
theorem dX11_layTouch_26 : decode cX11_layTouch 26 = .ok (.iadd, 1) := by decide +kernel
theorem dX11_layTouch_27 : decode cX11_layTouch 27 = .ok (.iaload, 1) := by decide +kernel
theorem dX11_layTouch_28 : decode cX11_layTouch 28 = .ok (.iconst 1, 1) := by decide +kernel
theorem dX11_layTouch_29 : decode cX11_layTouch 29 = .ok (.iload_n 2, 1) := by decide +kernel
theorem dX11_layTouch_30 : decode cX11_layTouch 30 = .ok (.ishl, 1) := by decide +kernel
theorem dX11_layTouch_31 : decode cX11_layTouch 31 = .ok (.iconst (-1), 1) := by decide +kernel
theorem dX11_layTouch_32 : decode cX11_layTouch 32 = .ok (.ixor, 1) := by decide +kernel
theorem dX11_layTouch_33 : decode cX11_layTouch 33 = .ok (.iand, 1) := by decide +kernel
theorem dX11_layTouch_34 : decode cX11_layTouch 34 = .ok (.iastore, 1) := by decide +kernel
theorem dX11_layTouch_35 : decode cX11_layTouch 35 = .ok (.aload_n 0, 1) := by decide +kernel
theorem dX11_layTouch_36 : decode cX11_layTouch 36 = .ok (.bipush 13, 2) := by decide +kernel
theorem dX11_layTouch_38 : decode cX11_layTouch 38 = .ok (.iload_n 2, 1) := by decide +kernel
theorem dX11_layTouch_39 : decode cX11_layTouch 39 = .ok (.iadd, 1) := by decide +kernel
theorem dX11_layTouch_40 : decode cX11_layTouch 40 = .ok (.iload_n 3, 1) := by decide +kernel
theorem dX11_layTouch_41 : decode cX11_layTouch 41 = .ok (.ifCond .eq 16, 3) := by decide +kernel
theorem dX11_layTouch_44 : decode cX11_layTouch 44 = .ok (.aload_n 0, 1) := by decide +kernel
theorem dX11_layTouch_45 : decode cX11_layTouch 45 = .ok (.bipush 13, 2) := by decide +kernel
theorem dX11_layTouch_47 : decode cX11_layTouch 47 = .ok (.iload_n 2, 1) := by decide +kernel
theorem dX11_layTouch_48 : decode cX11_layTouch 48 = .ok (.iadd, 1) := by decide +kernel
theorem dX11_layTouch_49 : decode cX11_layTouch 49 = .ok (.iaload, 1) := by decide +kernel
theorem dX11_layTouch_50 : decode cX11_layTouch 50 = .ok (.iconst 1, 1) := by decide +kernel
theorem dX11_layTouch_51 : decode cX11_layTouch 51 = .ok (.iload_n 1, 1) := by decide +kernel
theorem dX11_layTouch_52 : decode cX11_layTouch 52 = .ok (.ishl, 1) := by decide +kernel
theorem dX11_layTouch_53 : decode cX11_layTouch 53 = .ok (.ior, 1) := by decide +kernel
theorem dX11_layTouch_54 : decode cX11_layTouch 54 = .ok (.goto 15, 3) := by decide +kernel
theorem dX11_layTouch_57 : decode cX11_layTouch 57 = .ok (.aload_n 0, 1) := by decide +kernel
theorem dX11_layTouch_58 : decode cX11_layTouch 58 = .ok (.bipush 13, 2) := by decide +kernel
theorem dX11_layTouch_60 : decode cX11_layTouch 60 = .ok (.iload_n 2, 1) := by decide +kernel
theorem dX11_layTouch_61 : decode cX11_layTouch 61 = .ok (.iadd, 1) := by decide +kernel
theorem dX11_layTouch_62 : decode cX11_layTouch 62 = .ok (.iaload, 1) := by decide +kernel
theorem dX11_layTouch_63 : decode cX11_layTouch 63 = .ok (.iconst 1, 1) := by decide +kernel
theorem dX11_layTouch_64 : decode cX11_layTouch 64 = .ok (.iload_n 1, 1) := by decide +kernel
theorem dX11_layTouch_65 : decode cX11_layTouch 65 = .ok (.ishl, 1) := by decide +kernel
theorem dX11_layTouch_66 : decode cX11_layTouch 66 = .ok (.iconst (-1), 1) := by decide +kernel
theorem dX11_layTouch_67 : decode cX11_layTouch 67 = .ok (.ixor, 1) := by decide +kernel
theorem dX11_layTouch_68 : decode cX11_layTouch 68 = .ok (.iand, 1) := by decide +kernel
theorem dX11_layTouch_69 : decode cX11_layTouch 69 = .ok (.iastore, 1) := by decide +kernel
theorem dX11_layTouch_70 : decode cX11_layTouch 70 = .ok (.return_, 1) := by decide +kernel
theorem dX11_touch_0 : decode cX11_touch 0 = .ok (.aload_n 0, 1) := by decide +kernel
theorem dX11_touch_1 : decode cX11_touch 1 = .ok (.iload_n 1, 1) := by decide +kernel
theorem dX11_touch_2 : decode cX11_touch 2 = .ok (.invokevirtual 75, 3) := by decide +kernel
theorem dX11_touch_5 : decode cX11_touch 5 = .ok (.ifCond .eq 26, 3) := by decide +kernel
theorem dX11_touch_8 : decode cX11_touch 8 = .ok (.aload_n 0, 1) := by decide +kernel
theorem dX11_touch_9 : decode cX11_touch 9 = .ok (.iload_n 2, 1) := by decide +kernel
theorem dX11_touch_10 : decode cX11_touch 10 = .ok (.invokevirtual 75, 3) := by decide +kernel
theorem dX11_touch_13 : decode cX11_touch 13 = .ok (.ifCond .eq 18, 3) := by decide +kernel
theorem dX11_touch_16 : decode cX11_touch 16 = .ok (.iload_n 1, 1) := by decide +kernel
theorem dX11_touch_17 : decode cX11_touch 17 = .ok (.iload_n 2, 1) := by decide +kernel
theorem dX11_touch_18 : decode cX11_touch 18 = .ok (.if_icmp .eq 13, 3) := by decide +kernel
theorem dX11_touch_21 : decode cX11_touch 21 = .ok (.iload_n 3, 1) := by decide +kernel
theorem dX11_touch_22 : decode cX11_touch 22 = .ok (.i2l, 1) := by decide +kernel
theorem dX11_touch_23 : decode cX11_touch 23 = .ok (.lconst 0, 1) := by decide +kernel
theorem dX11_touch_24 : decode cX11_touch 24 = .ok (.lconst 1, 1) := by decide +kernel
theorem dX11_touch_25 : decode cX11_touch 25 = .ok (.invokestatic 56, 3) := by decide +kernel
theorem dX11_touch_28 : decode cX11_touch 28 = .ok (.ifCond .ne 10, 3) := by decide +kernel
theorem dX11_touch_31 : decode cX11_touch 31 = .ok (.aload_n 0, 1) := by decide +kernel
theorem dX11_touch_32 : decode cX11_touch 32 = .ok (.bipush (-2), 2) := by decide +kernel
theorem dX11_touch_34 : decode cX11_touch 34 = .ok (.invokevirtual 66, 3) := by decide +kernel
theorem dX11_touch_37 : decode cX11_touch 37 = .ok (.ireturn, 1) := by decide +kernel
theorem dX11_touch_38 : decode cX11_touch 38 = .ok (.aload_n 0, 1) := by decide +kernel
theorem dX11_touch_39 : decode cX11_touch 39 = .ok (.getfield 7, 3) := by decide +kernel
theorem dX11_touch_42 : decode cX11_touch 42 = .ok (.bipush 13, 2) := by decide +kernel
theorem dX11_touch_44 : decode cX11_touch 44 = .ok (.iload_n 1, 1) := by decide +kernel
theorem dX11_touch_45 : decode cX11_touch 45 = .ok (.iadd, 1) := by decide +kernel
theorem dX11_touch_46 : decode cX11_touch 46 = .ok (.iaload, 1) := by decide +kernel
theorem dX11_touch_47 : decode cX11_touch 47 = .ok (.iload_n 2, 1) := by decide +kernel
theorem dX11_touch_48 : decode cX11_touch 48 = .ok (.ishr, 1) := by decide +kernel
theorem dX11_touch_49 : decode cX11_touch 49 = .ok (.iconst 1, 1) := by decide +kernel
theorem dX11_touch_50 : decode cX11_touch 50 = .ok (.iand, 1) := by decide +kernel
theorem dX11_touch_51 : decode cX11_touch 51 = .ok (.istore 4, 2) := by decide +kernel
theorem dX11_touch_53 : decode cX11_touch 53 = .ok (.aload_n 0, 1) := by decide +kernel
theorem dX11_touch_54 : decode cX11_touch 54 = .ok (.getfield 7, 3) := by decide +kernel
theorem dX11_touch_57 : decode cX11_touch 57 = .ok (.iload_n 1, 1) := by decide +kernel
theorem dX11_touch_58 : decode cX11_touch 58 = .ok (.iload_n 2, 1) := by decide +kernel
theorem dX11_touch_59 : decode cX11_touch 59 = .ok (.iload_n 3, 1) := by decide +kernel
theorem dX11_touch_60 : decode cX11_touch 60 = .ok (.iconst 1, 1) := by decide +kernel
theorem dX11_touch_61 : decode cX11_touch 61 = .ok (.if_icmp .ne 7, 3) := by decide +kernel
theorem dX11_touch_64 : decode cX11_touch 64 = .ok (.iconst 1, 1) := by decide +kernel
theorem dX11_touch_65 : decode cX11_touch 65 = .ok (.goto 4, 3) := by decide +kernel
theorem dX11_touch_68 : decode cX11_touch 68 = .ok (.iconst 0, 1) := by decide +kernel
theorem dX11_touch_69 : decode cX11_touch 69 = .ok (.invokestatic 79, 3) := by decide +kernel
theorem dX11_touch_72 : decode cX11_touch 72 = .ok (.aload_n 0, 1) := by decide +kernel
theorem dX11_touch_73 : decode cX11_touch 73 = .ok (.getfield 7, 3) := by decide +kernel
theorem dX11_touch_76 : decode cX11_touch 76 = .ok (.iconst 5, 1) := by decide +kernel
theorem dX11_touch_77 : decode cX11_touch 77 = .ok (.iconst 0, 1) := by decide +kernel
theorem dX11_touch_78 : decode cX11_touch 78 = .ok (.iastore, 1) := by decide +kernel
theorem dX11_touch_79 : decode cX11_touch 79 = .ok (.iload 4, 2) := by decide +kernel
theorem dX11_touch_81 : decode cX11_touch 81 = .ok (.ireturn, 1) := by decide +kernel
theorem dX11_keep_0 : decode cX11_keep 0 = .ok (.aload_n 0, 1) := by decide +kernel
theorem dX11_keep_1 : decode cX11_keep 1 = .ok (.getfield 7, 3) := by decide +kernel
theorem dX11_keep_4 : decode cX11_keep 4 = .ok (.iconst 5, 1) := by decide +kernel
theorem dX11_keep_5 : decode cX11_keep 5 = .ok (.iaload, 1) := by decide +kernel
theorem dX11_keep_6 : decode cX11_keep 6 = .ok (.bipush 8, 2) := by decide +kernel
theorem dX11_keep_8 : decode cX11_keep 8 = .ok (.if_icmp .ne 43, 3) := by decide +kernel
theorem dX11_keep_11 : decode cX11_keep 11 = .ok (.iconst 0, 1) := by decide +kernel
theorem dX11_keep_12 : decode cX11_keep 12 = .ok (.istore_n 1, 1) := by decide +kernel
theorem dX11_keep_13 : decode cX11_keep 13 = .ok (.iload_n 1, 1) := by decide +kernel
theorem dX11_keep_14 : decode cX11_keep 14 = .ok (.bipush 14, 2) := by decide +kernel
theorem dX11_keep_16 : decode cX11_keep 16 = .ok (.if_icmp .ge 27, 3) := by decide +kernel
theorem dX11_keep_19 : decode cX11_keep 19 = .ok (.aload_n 0, 1) := by decide +kernel
theorem dX11_keep_20 : decode cX11_keep 20 = .ok (.getfield 7, 3) := by decide +kernel
theorem dX11_keep_23 : decode cX11_keep 23 = .ok (.bipush 68, 2) := by decide +kernel
theorem dX11_keep_25 : decode cX11_keep 25 = .ok (.iload_n 1, 1) := by decide +kernel
theorem dX11_keep_26 : decode cX11_keep 26 = .ok (.iadd, 1) := by decide +kernel
theorem dX11_keep_27 : decode cX11_keep 27 = .ok (.aload_n 0, 1) := by decide +kernel
theorem dX11_keep_28 : decode cX11_keep 28 = .ok (.getfield 7, 3) := by decide +kernel
theorem dX11_keep_31 : decode cX11_keep 31 = .ok (.bipush 70, 2) := by decide +kernel
theorem dX11_keep_33 : decode cX11_keep 33 = .ok (.iload_n 1, 1) := by decide +kernel
theorem dX11_keep_34 : decode cX11_keep 34 = .ok (.iadd, 1) := by decide +kernel
theorem dX11_keep_35 : decode cX11_keep 35 = .ok (.iaload, 1) := by decide +kernel
theorem dX11_keep_36 : decode cX11_keep 36 = .ok (.iastore, 1) := by decide +kernel
theorem dX11_keep_37 : decode cX11_keep 37 = .ok (.iinc 1 1, 3) := by decide +kernel
theorem dX11_keep_40 : decode cX11_keep 40 = .ok (.goto (-27), 3) := by decide +kernel
theorem dX11_keep_43 : decode cX11_keep 43 = .ok (.aload_n 0, 1) := by decide +kernel
theorem dX11_keep_44 : decode cX11_keep 44 = .ok (.getfield 7, 3) := by decide +kernel
theorem dX11_keep_47 : decode cX11_keep 47 = .ok (.iconst 5, 1) := by decide +kernel
theorem dX11_keep_48 : decode cX11_keep 48 = .ok (.bipush 7, 2) := by decide +kernel
theorem dX11_keep_50 : decode cX11_keep 50 = .ok (.iastore, 1) := by decide +kernel
theorem dX11_keep_51 : decode cX11_keep 51 = .ok (.aload_n 0, 1) := by decide +kernel
theorem dX11_keep_52 : decode cX11_keep 52 = .ok (.getfield 7, 3) := by decide +kernel
theorem dX11_keep_55 : decode cX11_keep 55 = .ok (.bipush 68, 2) := by decide +kernel
theorem dX11_keep_57 : decode cX11_keep 57 = .ok (.iconst 2, 1) := by decide +kernel
theorem dX11_keep_58 : decode cX11_keep 58 = .ok (.aload_n 0, 1) := by decide +kernel
theorem dX11_keep_59 : decode cX11_keep 59 = .ok (.getfield 7, 3) := by decide +kernel
theorem dX11_keep_62 : decode cX11_keep 62 = .ok (.iconst 5, 1) := by decide +kernel
theorem dX11_keep_63 : decode cX11_keep 63 = .ok (.iaload, 1) := by decide +kernel
theorem dX11_keep_64 : decode cX11_keep 64 = .ok (.imul, 1) := by decide +kernel
theorem dX11_keep_65 : decode cX11_keep 65 = .ok (.iadd, 1) := by decide +kernel
theorem dX11_keep_66 : decode cX11_keep 66 = .ok (.aload_n 0, 1) := by decide +kernel
theorem dX11_keep_67 : decode cX11_keep 67 = .ok (.getfield 7, 3) := by decide +kernel
theorem dX11_keep_70 : decode cX11_keep 70 = .ok (.iconst 1, 1) := by decide +kernel
theorem dX11_keep_71 : decode cX11_keep 71 = .ok (.iaload, 1) := by decide +kernel
theorem dX11_keep_72 : decode cX11_keep 72 = .ok (.iastore, 1) := by decide +kernel
theorem dX11_keep_73 : decode cX11_keep 73 = .ok (.aload_n 0, 1) := by decide +kernel
theorem dX11_keep_74 : decode cX11_keep 74 = .ok (.getfield 7, 3) := by decide +kernel
theorem dX11_keep_77 : decode cX11_keep 77 = .ok (.bipush 68, 2) := by decide +kernel
theorem dX11_keep_79 : decode cX11_keep 79 = .ok (.iconst 2, 1) := by decide +kernel
theorem dX11_keep_80 : decode cX11_keep 80 = .ok (.aload_n 0, 1) := by decide +kernel
theorem dX11_keep_81 : decode cX11_keep 81 = .ok (.getfield 7, 3) := by decide +kernel
theorem dX11_keep_84 : decode cX11_keep 84 = .ok (.iconst 5, 1) := by decide +kernel
theorem dX11_keep_85 : decode cX11_keep 85 = .ok (.iaload, 1) := by decide +kernel
theorem dX11_keep_86 : decode cX11_keep 86 = .ok (.imul, 1) := by decide +kernel
theorem dX11_keep_87 : decode cX11_keep 87 = .ok (.iadd, 1) := by decide +kernel
theorem dX11_keep_88 : decode cX11_keep 88 = .ok (.iconst 1, 1) := by decide +kernel
theorem dX11_keep_89 : decode cX11_keep 89 = .ok (.iadd, 1) := by decide +kernel
theorem dX11_keep_90 : decode cX11_keep 90 = .ok (.aload_n 0, 1) := by decide +kernel
theorem dX11_keep_91 : decode cX11_keep 91 = .ok (.getfield 7, 3) := by decide +kernel
theorem dX11_keep_94 : decode cX11_keep 94 = .ok (.iconst 2, 1) := by decide +kernel
theorem dX11_keep_95 : decode cX11_keep 95 = .ok (.iaload, 1) := by decide +kernel
theorem dX11_keep_96 : decode cX11_keep 96 = .ok (.iastore, 1) := by decide +kernel
theorem dX11_keep_97 : decode cX11_keep 97 = .ok (.aload_n 0, 1) := by decide +kernel
theorem dX11_keep_98 : decode cX11_keep 98 = .ok (.getfield 7, 3) := by decide +kernel
theorem dX11_keep_101 : decode cX11_keep 101 = .ok (.iconst 5, 1) := by decide +kernel
theorem dX11_keep_102 : decode cX11_keep 102 = .ok (.dup2, 1) := by decide +kernel
theorem dX11_keep_103 : decode cX11_keep 103 = .ok (.iaload, 1) := by decide +kernel
theorem dX11_keep_104 : decode cX11_keep 104 = .ok (.iconst 1, 1) := by decide +kernel
theorem dX11_keep_105 : decode cX11_keep 105 = .ok (.iadd, 1) := by decide +kernel
theorem dX11_keep_106 : decode cX11_keep 106 = .ok (.iastore, 1) := by decide +kernel
theorem dX11_keep_107 : decode cX11_keep 107 = .ok (.return_, 1) := by decide +kernel
theorem dX11_fell_0 : decode cX11_fell 0 = .ok (.aload_n 0, 1) := by decide +kernel
theorem dX11_fell_1 : decode cX11_fell 1 = .ok (.iload_n 1, 1) := by decide +kernel
theorem dX11_fell_2 : decode cX11_fell 2 = .ok (.invokevirtual 75, 3) := by decide +kernel
theorem dX11_fell_5 : decode cX11_fell 5 = .ok (.ifCond .eq 13, 3) := by decide +kernel
theorem dX11_fell_8 : decode cX11_fell 8 = .ok (.iload_n 2, 1) := by decide +kernel
theorem dX11_fell_9 : decode cX11_fell 9 = .ok (.i2l, 1) := by decide +kernel
theorem dX11_fell_10 : decode cX11_fell 10 = .ok (.lconst 0, 1) := by decide +kernel
theorem dX11_fell_11 : decode cX11_fell 11 = .ok (.lconst 1, 1) := by decide +kernel
theorem dX11_fell_12 : decode cX11_fell 12 = .ok (.invokestatic 56, 3) := by decide +kernel
theorem dX11_fell_15 : decode cX11_fell 15 = .ok (.ifCond .ne 10, 3) := by decide +kernel
theorem dX11_fell_18 : decode cX11_fell 18 = .ok (.aload_n 0, 1) := by decide +kernel
theorem dX11_fell_19 : decode cX11_fell 19 = .ok (.bipush (-2), 2) := by decide +kernel
theorem dX11_fell_21 : decode cX11_fell 21 = .ok (.invokevirtual 66, 3) := by decide +kernel
theorem dX11_fell_24 : decode cX11_fell 24 = .ok (.ireturn, 1) := by decide +kernel
theorem dX11_fell_25 : decode cX11_fell 25 = .ok (.aload_n 0, 1) := by decide +kernel
theorem dX11_fell_26 : decode cX11_fell 26 = .ok (.getfield 7, 3) := by decide +kernel
theorem dX11_fell_29 : decode cX11_fell 29 = .ok (.iconst 1, 1) := by decide +kernel
theorem dX11_fell_30 : decode cX11_fell 30 = .ok (.iaload, 1) := by decide +kernel
theorem dX11_fell_31 : decode cX11_fell 31 = .ok (.iload_n 1, 1) := by decide +kernel
theorem dX11_fell_32 : decode cX11_fell 32 = .ok (.ishr, 1) := by decide +kernel
theorem dX11_fell_33 : decode cX11_fell 33 = .ok (.iconst 1, 1) := by decide +kernel
theorem dX11_fell_34 : decode cX11_fell 34 = .ok (.iand, 1) := by decide +kernel
theorem dX11_fell_35 : decode cX11_fell 35 = .ok (.istore_n 3, 1) := by decide +kernel
theorem dX11_fell_36 : decode cX11_fell 36 = .ok (.aload_n 0, 1) := by decide +kernel
theorem dX11_fell_37 : decode cX11_fell 37 = .ok (.invokevirtual 83, 3) := by decide +kernel
theorem dX11_fell_40 : decode cX11_fell 40 = .ok (.aload_n 0, 1) := by decide +kernel
theorem dX11_fell_41 : decode cX11_fell 41 = .ok (.getfield 7, 3) := by decide +kernel
theorem dX11_fell_44 : decode cX11_fell 44 = .ok (.iconst 1, 1) := by decide +kernel
theorem dX11_fell_45 : decode cX11_fell 45 = .ok (.iload_n 2, 1) := by decide +kernel
theorem dX11_fell_46 : decode cX11_fell 46 = .ok (.iconst 1, 1) := by decide +kernel
theorem dX11_fell_47 : decode cX11_fell 47 = .ok (.if_icmp .ne 16, 3) := by decide +kernel
theorem dX11_fell_50 : decode cX11_fell 50 = .ok (.aload_n 0, 1) := by decide +kernel
theorem dX11_fell_51 : decode cX11_fell 51 = .ok (.getfield 7, 3) := by decide +kernel
theorem dX11_fell_54 : decode cX11_fell 54 = .ok (.iconst 1, 1) := by decide +kernel
theorem dX11_fell_55 : decode cX11_fell 55 = .ok (.iaload, 1) := by decide +kernel
theorem dX11_fell_56 : decode cX11_fell 56 = .ok (.iconst 1, 1) := by decide +kernel
theorem dX11_fell_57 : decode cX11_fell 57 = .ok (.iload_n 1, 1) := by decide +kernel
theorem dX11_fell_58 : decode cX11_fell 58 = .ok (.ishl, 1) := by decide +kernel
theorem dX11_fell_59 : decode cX11_fell 59 = .ok (.ior, 1) := by decide +kernel
theorem dX11_fell_60 : decode cX11_fell 60 = .ok (.goto 15, 3) := by decide +kernel
theorem dX11_fell_63 : decode cX11_fell 63 = .ok (.aload_n 0, 1) := by decide +kernel
theorem dX11_fell_64 : decode cX11_fell 64 = .ok (.getfield 7, 3) := by decide +kernel
theorem dX11_fell_67 : decode cX11_fell 67 = .ok (.iconst 1, 1) := by decide +kernel
theorem dX11_fell_68 : decode cX11_fell 68 = .ok (.iaload, 1) := by decide +kernel
theorem dX11_fell_69 : decode cX11_fell 69 = .ok (.iconst 1, 1) := by decide +kernel
theorem dX11_fell_70 : decode cX11_fell 70 = .ok (.iload_n 1, 1) := by decide +kernel
theorem dX11_fell_71 : decode cX11_fell 71 = .ok (.ishl, 1) := by decide +kernel
theorem dX11_fell_72 : decode cX11_fell 72 = .ok (.iconst (-1), 1) := by decide +kernel
theorem dX11_fell_73 : decode cX11_fell 73 = .ok (.ixor, 1) := by decide +kernel
theorem dX11_fell_74 : decode cX11_fell 74 = .ok (.iand, 1) := by decide +kernel
theorem dX11_fell_75 : decode cX11_fell 75 = .ok (.iastore, 1) := by decide +kernel
theorem dX11_fell_76 : decode cX11_fell 76 = .ok (.iload_n 3, 1) := by decide +kernel
theorem dX11_fell_77 : decode cX11_fell 77 = .ok (.ireturn, 1) := by decide +kernel
theorem dX11_season_0 : decode cX11_season 0 = .ok (.iload_n 1, 1) := by decide +kernel
theorem dX11_season_1 : decode cX11_season 1 = .ok (.i2l, 1) := by decide +kernel
theorem dX11_season_2 : decode cX11_season 2 = .ok (.lconst 1, 1) := by decide +kernel
theorem dX11_season_3 : decode cX11_season 3 = .ok (.ldc2_w 86, 3) := by decide +kernel
theorem dX11_season_6 : decode cX11_season 6 = .ok (.invokestatic 56, 3) := by decide +kernel
theorem dX11_season_9 : decode cX11_season 9 = .ok (.ifCond .ne 10, 3) := by decide +kernel
theorem dX11_season_12 : decode cX11_season 12 = .ok (.aload_n 0, 1) := by decide +kernel
theorem dX11_season_13 : decode cX11_season 13 = .ok (.bipush (-2), 2) := by decide +kernel
theorem dX11_season_15 : decode cX11_season 15 = .ok (.invokevirtual 66, 3) := by decide +kernel
theorem dX11_season_18 : decode cX11_season 18 = .ok (.ireturn, 1) := by decide +kernel
theorem dX11_season_19 : decode cX11_season 19 = .ok (.aload_n 0, 1) := by decide +kernel
theorem dX11_season_20 : decode cX11_season 20 = .ok (.invokevirtual 83, 3) := by decide +kernel
theorem dX11_season_23 : decode cX11_season 23 = .ok (.aload_n 0, 1) := by decide +kernel
theorem dX11_season_24 : decode cX11_season 24 = .ok (.getfield 7, 3) := by decide +kernel
theorem dX11_season_27 : decode cX11_season 27 = .ok (.iconst 2, 1) := by decide +kernel
theorem dX11_season_28 : decode cX11_season 28 = .ok (.aload_n 0, 1) := by decide +kernel
theorem dX11_season_29 : decode cX11_season 29 = .ok (.getfield 7, 3) := by decide +kernel
theorem dX11_season_32 : decode cX11_season 32 = .ok (.iconst 2, 1) := by decide +kernel
theorem dX11_season_33 : decode cX11_season 33 = .ok (.iaload, 1) := by decide +kernel
theorem dX11_season_34 : decode cX11_season 34 = .ok (.iload_n 1, 1) := by decide +kernel
theorem dX11_season_35 : decode cX11_season 35 = .ok (.iadd, 1) := by decide +kernel
theorem dX11_season_36 : decode cX11_season 36 = .ok (.sipush 999, 3) := by decide +kernel
theorem dX11_season_39 : decode cX11_season 39 = .ok (.if_icmp .le 9, 3) := by decide +kernel
theorem dX11_season_42 : decode cX11_season 42 = .ok (.sipush 999, 3) := by decide +kernel
theorem dX11_season_45 : decode cX11_season 45 = .ok (.goto 11, 3) := by decide +kernel
theorem dX11_season_48 : decode cX11_season 48 = .ok (.aload_n 0, 1) := by decide +kernel
theorem dX11_season_49 : decode cX11_season 49 = .ok (.getfield 7, 3) := by decide +kernel
theorem dX11_season_52 : decode cX11_season 52 = .ok (.iconst 2, 1) := by decide +kernel
theorem dX11_season_53 : decode cX11_season 53 = .ok (.iaload, 1) := by decide +kernel
theorem dX11_season_54 : decode cX11_season 54 = .ok (.iload_n 1, 1) := by decide +kernel
theorem dX11_season_55 : decode cX11_season 55 = .ok (.iadd, 1) := by decide +kernel
theorem dX11_season_56 : decode cX11_season 56 = .ok (.iastore, 1) := by decide +kernel
theorem dX11_season_57 : decode cX11_season 57 = .ok (.aload_n 0, 1) := by decide +kernel
theorem dX11_season_58 : decode cX11_season 58 = .ok (.getfield 7, 3) := by decide +kernel
theorem dX11_season_61 : decode cX11_season 61 = .ok (.iconst 2, 1) := by decide +kernel
theorem dX11_season_62 : decode cX11_season 62 = .ok (.iaload, 1) := by decide +kernel
theorem dX11_season_63 : decode cX11_season 63 = .ok (.ireturn, 1) := by decide +kernel
theorem dX11_undo_0 : decode cX11_undo 0 = .ok (.aload_n 0, 1) := by decide +kernel
theorem dX11_undo_1 : decode cX11_undo 1 = .ok (.getfield 7, 3) := by decide +kernel
theorem dX11_undo_4 : decode cX11_undo 4 = .ok (.iconst 5, 1) := by decide +kernel
theorem dX11_undo_5 : decode cX11_undo 5 = .ok (.iaload, 1) := by decide +kernel
theorem dX11_undo_6 : decode cX11_undo 6 = .ok (.ifCond .ne 8, 3) := by decide +kernel
theorem dX11_undo_9 : decode cX11_undo 9 = .ok (.aload_n 0, 1) := by decide +kernel
theorem dX11_undo_10 : decode cX11_undo 10 = .ok (.invokevirtual 88, 3) := by decide +kernel
theorem dX11_undo_13 : decode cX11_undo 13 = .ok (.ireturn, 1) := by decide +kernel
theorem dX11_undo_14 : decode cX11_undo 14 = .ok (.aload_n 0, 1) := by decide +kernel
theorem dX11_undo_15 : decode cX11_undo 15 = .ok (.getfield 7, 3) := by decide +kernel
theorem dX11_undo_18 : decode cX11_undo 18 = .ok (.iconst 5, 1) := by decide +kernel
theorem dX11_undo_19 : decode cX11_undo 19 = .ok (.dup2, 1) := by decide +kernel
theorem dX11_undo_20 : decode cX11_undo 20 = .ok (.iaload, 1) := by decide +kernel
theorem dX11_undo_21 : decode cX11_undo 21 = .ok (.iconst 1, 1) := by decide +kernel
theorem dX11_undo_22 : decode cX11_undo 22 = .ok (.isub, 1) := by decide +kernel
theorem dX11_undo_23 : decode cX11_undo 23 = .ok (.iastore, 1) := by decide +kernel
theorem dX11_undo_24 : decode cX11_undo 24 = .ok (.aload_n 0, 1) := by decide +kernel
theorem dX11_undo_25 : decode cX11_undo 25 = .ok (.getfield 7, 3) := by decide +kernel
theorem dX11_undo_28 : decode cX11_undo 28 = .ok (.iconst 1, 1) := by decide +kernel
theorem dX11_undo_29 : decode cX11_undo 29 = .ok (.aload_n 0, 1) := by decide +kernel
theorem dX11_undo_30 : decode cX11_undo 30 = .ok (.getfield 7, 3) := by decide +kernel
theorem dX11_undo_33 : decode cX11_undo 33 = .ok (.bipush 68, 2) := by decide +kernel
theorem dX11_undo_35 : decode cX11_undo 35 = .ok (.iconst 2, 1) := by decide +kernel
theorem dX11_undo_36 : decode cX11_undo 36 = .ok (.aload_n 0, 1) := by decide +kernel
theorem dX11_undo_37 : decode cX11_undo 37 = .ok (.getfield 7, 3) := by decide +kernel
theorem dX11_undo_40 : decode cX11_undo 40 = .ok (.iconst 5, 1) := by decide +kernel
theorem dX11_undo_41 : decode cX11_undo 41 = .ok (.iaload, 1) := by decide +kernel
theorem dX11_undo_42 : decode cX11_undo 42 = .ok (.imul, 1) := by decide +kernel
theorem dX11_undo_43 : decode cX11_undo 43 = .ok (.iadd, 1) := by decide +kernel
theorem dX11_undo_44 : decode cX11_undo 44 = .ok (.iaload, 1) := by decide +kernel
theorem dX11_undo_45 : decode cX11_undo 45 = .ok (.iastore, 1) := by decide +kernel
theorem dX11_undo_46 : decode cX11_undo 46 = .ok (.aload_n 0, 1) := by decide +kernel
theorem dX11_undo_47 : decode cX11_undo 47 = .ok (.getfield 7, 3) := by decide +kernel
theorem dX11_undo_50 : decode cX11_undo 50 = .ok (.iconst 2, 1) := by decide +kernel
theorem dX11_undo_51 : decode cX11_undo 51 = .ok (.aload_n 0, 1) := by decide +kernel
theorem dX11_undo_52 : decode cX11_undo 52 = .ok (.getfield 7, 3) := by decide +kernel
theorem dX11_undo_55 : decode cX11_undo 55 = .ok (.bipush 68, 2) := by decide +kernel
theorem dX11_undo_57 : decode cX11_undo 57 = .ok (.iconst 2, 1) := by decide +kernel
theorem dX11_undo_58 : decode cX11_undo 58 = .ok (.aload_n 0, 1) := by decide +kernel
theorem dX11_undo_59 : decode cX11_undo 59 = .ok (.getfield 7, 3) := by decide +kernel
theorem dX11_undo_62 : decode cX11_undo 62 = .ok (.iconst 5, 1) := by decide +kernel
theorem dX11_undo_63 : decode cX11_undo 63 = .ok (.iaload, 1) := by decide +kernel
theorem dX11_undo_64 : decode cX11_undo 64 = .ok (.imul, 1) := by decide +kernel
theorem dX11_undo_65 : decode cX11_undo 65 = .ok (.iadd, 1) := by decide +kernel
theorem dX11_undo_66 : decode cX11_undo 66 = .ok (.iconst 1, 1) := by decide +kernel
theorem dX11_undo_67 : decode cX11_undo 67 = .ok (.iadd, 1) := by decide +kernel
theorem dX11_undo_68 : decode cX11_undo 68 = .ok (.iaload, 1) := by decide +kernel
theorem dX11_undo_69 : decode cX11_undo 69 = .ok (.iastore, 1) := by decide +kernel
theorem dX11_undo_70 : decode cX11_undo 70 = .ok (.aload_n 0, 1) := by decide +kernel
theorem dX11_undo_71 : decode cX11_undo 71 = .ok (.getfield 7, 3) := by decide +kernel
theorem dX11_undo_74 : decode cX11_undo 74 = .ok (.iconst 2, 1) := by decide +kernel
theorem dX11_undo_75 : decode cX11_undo 75 = .ok (.iaload, 1) := by decide +kernel
theorem dX11_undo_76 : decode cX11_undo 76 = .ok (.ireturn, 1) := by decide +kernel
theorem dX11_of_0 : decode cX11_of 0 = .ok (.aload_n 0, 1) := by decide +kernel
theorem dX11_of_1 : decode cX11_of 1 = .ok (.iload_n 1, 1) := by decide +kernel
theorem dX11_of_2 : decode cX11_of 2 = .ok (.invokevirtual 75, 3) := by decide +kernel
theorem dX11_of_5 : decode cX11_of 5 = .ok (.ifCond .eq 15, 3) := by decide +kernel
theorem dX11_of_8 : decode cX11_of 8 = .ok (.iload_n 2, 1) := by decide +kernel
theorem dX11_of_9 : decode cX11_of 9 = .ok (.i2l, 1) := by decide +kernel
theorem dX11_of_10 : decode cX11_of 10 = .ok (.lconst 0, 1) := by decide +kernel
theorem dX11_of_11 : decode cX11_of 11 = .ok (.ldc2_w 91, 3) := by decide +kernel
theorem dX11_of_14 : decode cX11_of 14 = .ok (.invokestatic 56, 3) := by decide +kernel
theorem dX11_of_17 : decode cX11_of 17 = .ok (.ifCond .ne 10, 3) := by decide +kernel
theorem dX11_of_20 : decode cX11_of 20 = .ok (.aload_n 0, 1) := by decide +kernel
theorem dX11_of_21 : decode cX11_of 21 = .ok (.bipush (-2), 2) := by decide +kernel
theorem dX11_of_23 : decode cX11_of 23 = .ok (.invokevirtual 66, 3) := by decide +kernel
theorem dX11_of_26 : decode cX11_of 26 = .ok (.ireturn, 1) := by decide +kernel
theorem dX11_of_27 : decode cX11_of 27 = .ok (.iload_n 2, 1) := by decide +kernel
theorem dX11_of_28 : decode cX11_of 28 = .ok (.ifCond .ne 15, 3) := by decide +kernel
theorem dX11_of_31 : decode cX11_of 31 = .ok (.aload_n 0, 1) := by decide +kernel
theorem dX11_of_32 : decode cX11_of 32 = .ok (.getfield 7, 3) := by decide +kernel
theorem dX11_of_35 : decode cX11_of 35 = .ok (.bipush 6, 2) := by decide +kernel
theorem dX11_of_37 : decode cX11_of 37 = .ok (.iload_n 1, 1) := by decide +kernel
theorem dX11_of_38 : decode cX11_of 38 = .ok (.iadd, 1) := by decide +kernel
theorem dX11_of_39 : decode cX11_of 39 = .ok (.iaload, 1) := by decide +kernel
theorem dX11_of_40 : decode cX11_of 40 = .ok (.goto 30, 3) := by decide +kernel
theorem dX11_of_43 : decode cX11_of 43 = .ok (.iload_n 2, 1) := by decide +kernel
theorem dX11_of_44 : decode cX11_of 44 = .ok (.iconst 1, 1) := by decide +kernel
theorem dX11_of_45 : decode cX11_of 45 = .ok (.if_icmp .ne 16, 3) := by decide +kernel
theorem dX11_of_48 : decode cX11_of 48 = .ok (.aload_n 0, 1) := by decide +kernel
theorem dX11_of_49 : decode cX11_of 49 = .ok (.getfield 7, 3) := by decide +kernel
theorem dX11_of_52 : decode cX11_of 52 = .ok (.iconst 1, 1) := by decide +kernel
theorem dX11_of_53 : decode cX11_of 53 = .ok (.iaload, 1) := by decide +kernel
theorem dX11_of_54 : decode cX11_of 54 = .ok (.iload_n 1, 1) := by decide +kernel
theorem dX11_of_55 : decode cX11_of 55 = .ok (.ishr, 1) := by decide +kernel
theorem dX11_of_56 : decode cX11_of 56 = .ok (.iconst 1, 1) := by decide +kernel
theorem dX11_of_57 : decode cX11_of 57 = .ok (.iand, 1) := by decide +kernel
theorem dX11_of_58 : decode cX11_of 58 = .ok (.goto 12, 3) := by decide +kernel
theorem dX11_of_61 : decode cX11_of 61 = .ok (.aload_n 0, 1) := by decide +kernel
theorem dX11_of_62 : decode cX11_of 62 = .ok (.getfield 7, 3) := by decide +kernel
theorem dX11_of_65 : decode cX11_of 65 = .ok (.bipush 13, 2) := by decide +kernel
theorem dX11_of_67 : decode cX11_of 67 = .ok (.iload_n 1, 1) := by decide +kernel
theorem dX11_of_68 : decode cX11_of 68 = .ok (.iadd, 1) := by decide +kernel
theorem dX11_of_69 : decode cX11_of 69 = .ok (.iaload, 1) := by decide +kernel
theorem dX11_of_70 : decode cX11_of 70 = .ok (.ireturn, 1) := by decide +kernel
theorem dX11_turned_0 : decode cX11_turned 0 = .ok (.iconst 0, 1) := by decide +kernel
theorem dX11_turned_1 : decode cX11_turned 1 = .ok (.istore_n 1, 1) := by decide +kernel
theorem dX11_turned_2 : decode cX11_turned 2 = .ok (.iload_n 0, 1) := by decide +kernel
theorem dX11_turned_3 : decode cX11_turned 3 = .ok (.istore_n 2, 1) := by decide +kernel
theorem dX11_turned_4 : decode cX11_turned 4 = .ok (.iload_n 2, 1) := by decide +kernel
theorem dX11_turned_5 : decode cX11_turned 5 = .ok (.ifCond .le 21, 3) := by decide +kernel
theorem dX11_turned_8 : decode cX11_turned 8 = .ok (.bipush 10, 2) := by decide +kernel
theorem dX11_turned_10 : decode cX11_turned 10 = .ok (.iload_n 1, 1) := by decide +kernel
theorem dX11_turned_11 : decode cX11_turned 11 = .ok (.imul, 1) := by decide +kernel
theorem dX11_turned_12 : decode cX11_turned 12 = .ok (.iload_n 2, 1) := by decide +kernel
theorem dX11_turned_13 : decode cX11_turned 13 = .ok (.bipush 10, 2) := by decide +kernel
theorem dX11_turned_15 : decode cX11_turned 15 = .ok (.irem, 1) := by decide +kernel
theorem dX11_turned_16 : decode cX11_turned 16 = .ok (.iadd, 1) := by decide +kernel
theorem dX11_turned_17 : decode cX11_turned 17 = .ok (.istore_n 1, 1) := by decide +kernel
theorem dX11_turned_18 : decode cX11_turned 18 = .ok (.iload_n 2, 1) := by decide +kernel
theorem dX11_turned_19 : decode cX11_turned 19 = .ok (.bipush 10, 2) := by decide +kernel
theorem dX11_turned_21 : decode cX11_turned 21 = .ok (.idiv, 1) := by decide +kernel
theorem dX11_turned_22 : decode cX11_turned 22 = .ok (.istore_n 2, 1) := by decide +kernel
theorem dX11_turned_23 : decode cX11_turned 23 = .ok (.goto (-19), 3) := by decide +kernel
theorem dX11_turned_26 : decode cX11_turned 26 = .ok (.iload_n 1, 1) := by decide +kernel
theorem dX11_turned_27 : decode cX11_turned 27 = .ok (.ireturn, 1) := by decide +kernel
theorem dX11_oneMore_0 : decode cX11_oneMore 0 = .ok (.iconst 0, 1) := by decide +kernel
theorem dX11_oneMore_1 : decode cX11_oneMore 1 = .ok (.istore_n 1, 1) := by decide +kernel
theorem dX11_oneMore_2 : decode cX11_oneMore 2 = .ok (.iload_n 0, 1) := by decide +kernel
theorem dX11_oneMore_3 : decode cX11_oneMore 3 = .ok (.invokestatic 93, 3) := by decide +kernel
theorem dX11_oneMore_6 : decode cX11_oneMore 6 = .ok (.istore_n 2, 1) := by decide +kernel
theorem dX11_oneMore_7 : decode cX11_oneMore 7 = .ok (.iload_n 2, 1) := by decide +kernel
theorem dX11_oneMore_8 : decode cX11_oneMore 8 = .ok (.ifCond .le 25, 3) := by decide +kernel
theorem dX11_oneMore_11 : decode cX11_oneMore 11 = .ok (.bipush 10, 2) := by decide +kernel
theorem dX11_oneMore_13 : decode cX11_oneMore 13 = .ok (.iload_n 1, 1) := by decide +kernel
theorem dX11_oneMore_14 : decode cX11_oneMore 14 = .ok (.imul, 1) := by decide +kernel
theorem dX11_oneMore_15 : decode cX11_oneMore 15 = .ok (.iload_n 2, 1) := by decide +kernel
theorem dX11_oneMore_16 : decode cX11_oneMore 16 = .ok (.bipush 10, 2) := by decide +kernel
theorem dX11_oneMore_18 : decode cX11_oneMore 18 = .ok (.irem, 1) := by decide +kernel
theorem dX11_oneMore_19 : decode cX11_oneMore 19 = .ok (.iconst 4, 1) := by decide +kernel
theorem dX11_oneMore_20 : decode cX11_oneMore 20 = .ok (.irem, 1) := by decide +kernel
theorem dX11_oneMore_21 : decode cX11_oneMore 21 = .ok (.iadd, 1) := by decide +kernel
theorem dX11_oneMore_22 : decode cX11_oneMore 22 = .ok (.iconst 1, 1) := by decide +kernel
theorem dX11_oneMore_23 : decode cX11_oneMore 23 = .ok (.iadd, 1) := by decide +kernel
theorem dX11_oneMore_24 : decode cX11_oneMore 24 = .ok (.istore_n 1, 1) := by decide +kernel
theorem dX11_oneMore_25 : decode cX11_oneMore 25 = .ok (.iload_n 2, 1) := by decide +kernel
theorem dX11_oneMore_26 : decode cX11_oneMore 26 = .ok (.bipush 10, 2) := by decide +kernel
theorem dX11_oneMore_28 : decode cX11_oneMore 28 = .ok (.idiv, 1) := by decide +kernel
theorem dX11_oneMore_29 : decode cX11_oneMore 29 = .ok (.istore_n 2, 1) := by decide +kernel
theorem dX11_oneMore_30 : decode cX11_oneMore 30 = .ok (.goto (-23), 3) := by decide +kernel
theorem dX11_oneMore_33 : decode cX11_oneMore 33 = .ok (.iload_n 1, 1) := by decide +kernel
theorem dX11_oneMore_34 : decode cX11_oneMore 34 = .ok (.ireturn, 1) := by decide +kernel
theorem dX11_copyAs_0 : decode cX11_copyAs 0 = .ok (.iload_n 0, 1) := by decide +kernel
theorem dX11_copyAs_1 : decode cX11_copyAs 1 = .ok (.tableswitch 66 1 5 #[35, 66, 40, 45, 50], 35) := by decide +kernel
theorem dX11_copyAs_36 : decode cX11_copyAs 36 = .ok (.iload_n 1, 1) := by decide +kernel
theorem dX11_copyAs_37 : decode cX11_copyAs 37 = .ok (.bipush 10, 2) := by decide +kernel
theorem dX11_copyAs_39 : decode cX11_copyAs 39 = .ok (.idiv, 1) := by decide +kernel
theorem dX11_copyAs_40 : decode cX11_copyAs 40 = .ok (.ireturn, 1) := by decide +kernel
theorem dX11_copyAs_41 : decode cX11_copyAs 41 = .ok (.iload_n 1, 1) := by decide +kernel
theorem dX11_copyAs_42 : decode cX11_copyAs 42 = .ok (.invokestatic 96, 3) := by decide +kernel
theorem dX11_copyAs_45 : decode cX11_copyAs 45 = .ok (.ireturn, 1) := by decide +kernel
theorem dX11_copyAs_46 : decode cX11_copyAs 46 = .ok (.iload_n 1, 1) := by decide +kernel
theorem dX11_copyAs_47 : decode cX11_copyAs 47 = .ok (.invokestatic 93, 3) := by decide +kernel
theorem dX11_copyAs_50 : decode cX11_copyAs 50 = .ok (.ireturn, 1) := by decide +kernel
theorem dX11_copyAs_51 : decode cX11_copyAs 51 = .ok (.iload_n 2, 1) := by decide +kernel
theorem dX11_copyAs_52 : decode cX11_copyAs 52 = .ok (.iconst 2, 1) := by decide +kernel
theorem dX11_copyAs_53 : decode cX11_copyAs 53 = .ok (.irem, 1) := by decide +kernel
theorem dX11_copyAs_54 : decode cX11_copyAs 54 = .ok (.iconst 1, 1) := by decide +kernel
theorem dX11_copyAs_55 : decode cX11_copyAs 55 = .ok (.if_icmp .ne 10, 3) := by decide +kernel
theorem dX11_copyAs_58 : decode cX11_copyAs 58 = .ok (.iload_n 1, 1) := by decide +kernel
theorem dX11_copyAs_59 : decode cX11_copyAs 59 = .ok (.bipush 10, 2) := by decide +kernel
theorem dX11_copyAs_61 : decode cX11_copyAs 61 = .ok (.idiv, 1) := by decide +kernel
theorem dX11_copyAs_62 : decode cX11_copyAs 62 = .ok (.goto 4, 3) := by decide +kernel
theorem dX11_copyAs_65 : decode cX11_copyAs 65 = .ok (.iload_n 1, 1) := by decide +kernel
theorem dX11_copyAs_66 : decode cX11_copyAs 66 = .ok (.ireturn, 1) := by decide +kernel
theorem dX11_copyAs_67 : decode cX11_copyAs 67 = .ok (.iload_n 1, 1) := by decide +kernel
theorem dX11_copyAs_68 : decode cX11_copyAs 68 = .ok (.ireturn, 1) := by decide +kernel
theorem dX11_takesAs_0 : decode cX11_takesAs 0 = .ok (.iload_n 0, 1) := by decide +kernel
theorem dX11_takesAs_1 : decode cX11_takesAs 1 = .ok (.iconst 2, 1) := by decide +kernel
theorem dX11_takesAs_2 : decode cX11_takesAs 2 = .ok (.if_icmp .ne 7, 3) := by decide +kernel
theorem dX11_takesAs_5 : decode cX11_takesAs 5 = .ok (.iconst 2, 1) := by decide +kernel
theorem dX11_takesAs_6 : decode cX11_takesAs 6 = .ok (.goto 28, 3) := by decide +kernel
theorem dX11_takesAs_9 : decode cX11_takesAs 9 = .ok (.iload_n 0, 1) := by decide +kernel
theorem dX11_takesAs_10 : decode cX11_takesAs 10 = .ok (.iconst 4, 1) := by decide +kernel
theorem dX11_takesAs_11 : decode cX11_takesAs 11 = .ok (.if_icmp .ne 7, 3) := by decide +kernel
theorem dX11_takesAs_14 : decode cX11_takesAs 14 = .ok (.iconst 4, 1) := by decide +kernel
theorem dX11_takesAs_15 : decode cX11_takesAs 15 = .ok (.goto 19, 3) := by decide +kernel
theorem dX11_takesAs_18 : decode cX11_takesAs 18 = .ok (.iload_n 0, 1) := by decide +kernel
theorem dX11_takesAs_19 : decode cX11_takesAs 19 = .ok (.iconst 5, 1) := by decide +kernel
theorem dX11_takesAs_20 : decode cX11_takesAs 20 = .ok (.if_icmp .ne 13, 3) := by decide +kernel
theorem dX11_takesAs_23 : decode cX11_takesAs 23 = .ok (.iload_n 1, 1) := by decide +kernel
theorem dX11_takesAs_24 : decode cX11_takesAs 24 = .ok (.iconst 4, 1) := by decide +kernel
theorem dX11_takesAs_25 : decode cX11_takesAs 25 = .ok (.irem, 1) := by decide +kernel
theorem dX11_takesAs_26 : decode cX11_takesAs 26 = .ok (.ifCond .ne 7, 3) := by decide +kernel
theorem dX11_takesAs_29 : decode cX11_takesAs 29 = .ok (.iconst 4, 1) := by decide +kernel
theorem dX11_takesAs_30 : decode cX11_takesAs 30 = .ok (.goto 4, 3) := by decide +kernel
theorem dX11_takesAs_33 : decode cX11_takesAs 33 = .ok (.iconst 1, 1) := by decide +kernel
theorem dX11_takesAs_34 : decode cX11_takesAs 34 = .ok (.ireturn, 1) := by decide +kernel
theorem dX11_copy_0 : decode cX11_copy 0 = .ok (.aload_n 0, 1) := by decide +kernel
theorem dX11_copy_1 : decode cX11_copy 1 = .ok (.iload_n 1, 1) := by decide +kernel
theorem dX11_copy_2 : decode cX11_copy 2 = .ok (.invokevirtual 75, 3) := by decide +kernel
theorem dX11_copy_5 : decode cX11_copy 5 = .ok (.ifCond .eq 20, 3) := by decide +kernel
theorem dX11_copy_8 : decode cX11_copy 8 = .ok (.iload_n 2, 1) := by decide +kernel
theorem dX11_copy_9 : decode cX11_copy 9 = .ok (.invokestatic 99, 3) := by decide +kernel
theorem dX11_copy_12 : decode cX11_copy 12 = .ok (.ifCond .eq 13, 3) := by decide +kernel
theorem dX11_copy_15 : decode cX11_copy 15 = .ok (.iload_n 3, 1) := by decide +kernel
theorem dX11_copy_16 : decode cX11_copy 16 = .ok (.i2l, 1) := by decide +kernel
theorem dX11_copy_17 : decode cX11_copy 17 = .ok (.lconst 0, 1) := by decide +kernel
theorem dX11_copy_18 : decode cX11_copy 18 = .ok (.lconst 1, 1) := by decide +kernel
theorem dX11_copy_19 : decode cX11_copy 19 = .ok (.invokestatic 56, 3) := by decide +kernel
theorem dX11_copy_22 : decode cX11_copy 22 = .ok (.ifCond .ne 10, 3) := by decide +kernel
theorem dX11_copy_25 : decode cX11_copy 25 = .ok (.aload_n 0, 1) := by decide +kernel
theorem dX11_copy_26 : decode cX11_copy 26 = .ok (.bipush (-2), 2) := by decide +kernel
theorem dX11_copy_28 : decode cX11_copy 28 = .ok (.invokevirtual 66, 3) := by decide +kernel
theorem dX11_copy_31 : decode cX11_copy 31 = .ok (.ireturn, 1) := by decide +kernel
theorem dX11_copy_32 : decode cX11_copy 32 = .ok (.iload_n 3, 1) := by decide +kernel
theorem dX11_copy_33 : decode cX11_copy 33 = .ok (.ifCond .ne 25, 3) := by decide +kernel
theorem dX11_copy_36 : decode cX11_copy 36 = .ok (.aload_n 0, 1) := by decide +kernel
theorem dX11_copy_37 : decode cX11_copy 37 = .ok (.getfield 7, 3) := by decide +kernel
theorem dX11_copy_40 : decode cX11_copy 40 = .ok (.bipush 6, 2) := by decide +kernel
theorem dX11_copy_42 : decode cX11_copy 42 = .ok (.iload_n 1, 1) := by decide +kernel
theorem dX11_copy_43 : decode cX11_copy 43 = .ok (.iadd, 1) := by decide +kernel
theorem dX11_copy_44 : decode cX11_copy 44 = .ok (.iaload, 1) := by decide +kernel
theorem dX11_copy_45 : decode cX11_copy 45 = .ok (.iload_n 2, 1) := by decide +kernel
theorem dX11_copy_46 : decode cX11_copy 46 = .ok (.aload_n 0, 1) := by decide +kernel
theorem dX11_copy_47 : decode cX11_copy 47 = .ok (.getfield 7, 3) := by decide +kernel
theorem dX11_copy_50 : decode cX11_copy 50 = .ok (.iconst 2, 1) := by decide +kernel
theorem dX11_copy_51 : decode cX11_copy 51 = .ok (.iaload, 1) := by decide +kernel
theorem dX11_copy_52 : decode cX11_copy 52 = .ok (.invokestatic 102, 3) := by decide +kernel
theorem dX11_copy_55 : decode cX11_copy 55 = .ok (.goto 21, 3) := by decide +kernel
theorem dX11_copy_58 : decode cX11_copy 58 = .ok (.aload_n 0, 1) := by decide +kernel
theorem dX11_copy_59 : decode cX11_copy 59 = .ok (.getfield 7, 3) := by decide +kernel
theorem dX11_copy_62 : decode cX11_copy 62 = .ok (.bipush 6, 2) := by decide +kernel
theorem dX11_copy_64 : decode cX11_copy 64 = .ok (.iload_n 1, 1) := by decide +kernel
theorem dX11_copy_65 : decode cX11_copy 65 = .ok (.iadd, 1) := by decide +kernel
theorem dX11_copy_66 : decode cX11_copy 66 = .ok (.iaload, 1) := by decide +kernel
theorem dX11_copy_67 : decode cX11_copy 67 = .ok (.aload_n 0, 1) := by decide +kernel
theorem dX11_copy_68 : decode cX11_copy 68 = .ok (.getfield 7, 3) := by decide +kernel
theorem dX11_copy_71 : decode cX11_copy 71 = .ok (.iconst 2, 1) := by decide +kernel
theorem dX11_copy_72 : decode cX11_copy 72 = .ok (.iaload, 1) := by decide +kernel
theorem dX11_copy_73 : decode cX11_copy 73 = .ok (.invokestatic 106, 3) := by decide +kernel
theorem dX11_copy_76 : decode cX11_copy 76 = .ok (.ireturn, 1) := by decide +kernel
theorem dX11_readBy_0 : decode cX11_readBy 0 = .ok (.aload_n 0, 1) := by decide +kernel
theorem dX11_readBy_1 : decode cX11_readBy 1 = .ok (.iload_n 1, 1) := by decide +kernel
theorem dX11_readBy_2 : decode cX11_readBy 2 = .ok (.putfield 110, 3) := by decide +kernel
theorem dX11_readBy_5 : decode cX11_readBy 5 = .ok (.aload_n 0, 1) := by decide +kernel
theorem dX11_readBy_6 : decode cX11_readBy 6 = .ok (.iconst 0, 1) := by decide +kernel
theorem dX11_readBy_7 : decode cX11_readBy 7 = .ok (.putfield 114, 3) := by decide +kernel
theorem dX11_readBy_10 : decode cX11_readBy 10 = .ok (.iconst 0, 1) := by decide +kernel
theorem dX11_readBy_11 : decode cX11_readBy 11 = .ok (.istore_n 3, 1) := by decide +kernel
theorem dX11_readBy_12 : decode cX11_readBy 12 = .ok (.iload_n 3, 1) := by decide +kernel
theorem dX11_readBy_13 : decode cX11_readBy 13 = .ok (.aload_n 0, 1) := by decide +kernel
theorem dX11_readBy_14 : decode cX11_readBy 14 = .ok (.getfield 117, 3) := by decide +kernel
theorem dX11_readBy_17 : decode cX11_readBy 17 = .ok (.if_icmp .ge 64, 3) := by decide +kernel
theorem dX11_readBy_20 : decode cX11_readBy 20 = .ok (.aload_n 0, 1) := by decide +kernel
theorem dX11_readBy_21 : decode cX11_readBy 21 = .ok (.getfield 7, 3) := by decide +kernel
theorem dX11_readBy_24 : decode cX11_readBy 24 = .ok (.bipush 6, 2) := by decide +kernel
theorem dX11_readBy_26 : decode cX11_readBy 26 = .ok (.aload_n 0, 1) := by decide +kernel
theorem dX11_readBy_27 : decode cX11_readBy 27 = .ok (.getfield 27, 3) := by decide +kernel
theorem dX11_readBy_30 : decode cX11_readBy 30 = .ok (.iload_n 3, 1) := by decide +kernel
theorem dX11_readBy_31 : decode cX11_readBy 31 = .ok (.iaload, 1) := by decide +kernel
theorem dX11_readBy_32 : decode cX11_readBy 32 = .ok (.iadd, 1) := by decide +kernel
theorem dX11_readBy_33 : decode cX11_readBy 33 = .ok (.iaload, 1) := by decide +kernel
theorem dX11_readBy_34 : decode cX11_readBy 34 = .ok (.istore 4, 2) := by decide +kernel
theorem dX11_readBy_36 : decode cX11_readBy 36 = .ok (.iload_n 2, 1) := by decide +kernel
theorem dX11_readBy_37 : decode cX11_readBy 37 = .ok (.aload_n 0, 1) := by decide +kernel
theorem dX11_readBy_38 : decode cX11_readBy 38 = .ok (.getfield 114, 3) := by decide +kernel
theorem dX11_readBy_41 : decode cX11_readBy 41 = .ok (.iadd, 1) := by decide +kernel
theorem dX11_readBy_42 : decode cX11_readBy 42 = .ok (.istore 5, 2) := by decide +kernel
theorem dX11_readBy_44 : decode cX11_readBy 44 = .ok (.aload_n 0, 1) := by decide +kernel
theorem dX11_readBy_45 : decode cX11_readBy 45 = .ok (.iload 4, 2) := by decide +kernel
theorem dX11_readBy_47 : decode cX11_readBy 47 = .ok (.aload_n 0, 1) := by decide +kernel
theorem dX11_readBy_48 : decode cX11_readBy 48 = .ok (.getfield 110, 3) := by decide +kernel
theorem dX11_readBy_51 : decode cX11_readBy 51 = .ok (.iload 5, 2) := by decide +kernel
theorem dX11_readBy_53 : decode cX11_readBy 53 = .ok (.invokestatic 102, 3) := by decide +kernel
theorem dX11_readBy_56 : decode cX11_readBy 56 = .ok (.putfield 110, 3) := by decide +kernel
theorem dX11_readBy_59 : decode cX11_readBy 59 = .ok (.aload_n 0, 1) := by decide +kernel
theorem dX11_readBy_60 : decode cX11_readBy 60 = .ok (.dup, 1) := by decide +kernel
theorem dX11_readBy_61 : decode cX11_readBy 61 = .ok (.getfield 114, 3) := by decide +kernel
theorem dX11_readBy_64 : decode cX11_readBy 64 = .ok (.iload 4, 2) := by decide +kernel
theorem dX11_readBy_66 : decode cX11_readBy 66 = .ok (.iload 5, 2) := by decide +kernel
theorem dX11_readBy_68 : decode cX11_readBy 68 = .ok (.invokestatic 106, 3) := by decide +kernel
theorem dX11_readBy_71 : decode cX11_readBy 71 = .ok (.iadd, 1) := by decide +kernel
theorem dX11_readBy_72 : decode cX11_readBy 72 = .ok (.putfield 114, 3) := by decide +kernel
theorem dX11_readBy_75 : decode cX11_readBy 75 = .ok (.iinc 3 1, 3) := by decide +kernel
theorem dX11_readBy_78 : decode cX11_readBy 78 = .ok (.goto (-66), 3) := by decide +kernel
theorem dX11_readBy_81 : decode cX11_readBy 81 = .ok (.return_, 1) := by decide +kernel
theorem dX11_layRow_0 : decode cX11_layRow 0 = .ok (.iconst 0, 1) := by decide +kernel
theorem dX11_layRow_1 : decode cX11_layRow 1 = .ok (.istore_n 2, 1) := by decide +kernel
theorem dX11_layRow_2 : decode cX11_layRow 2 = .ok (.iload_n 1, 1) := by decide +kernel
theorem dX11_layRow_3 : decode cX11_layRow 3 = .ok (.ifCond .le 7, 3) := by decide +kernel
theorem dX11_layRow_6 : decode cX11_layRow 6 = .ok (.iconst 1, 1) := by decide +kernel
theorem dX11_layRow_7 : decode cX11_layRow 7 = .ok (.goto 4, 3) := by decide +kernel
theorem dX11_layRow_10 : decode cX11_layRow 10 = .ok (.iconst 0, 1) := by decide +kernel
theorem dX11_layRow_11 : decode cX11_layRow 11 = .ok (.istore_n 3, 1) := by decide +kernel
theorem dX11_layRow_12 : decode cX11_layRow 12 = .ok (.aload_n 0, 1) := by decide +kernel
theorem dX11_layRow_13 : decode cX11_layRow 13 = .ok (.iconst 0, 1) := by decide +kernel
theorem dX11_layRow_14 : decode cX11_layRow 14 = .ok (.putfield 117, 3) := by decide +kernel
theorem dX11_layRow_17 : decode cX11_layRow 17 = .ok (.iload_n 1, 1) := by decide +kernel
theorem dX11_layRow_18 : decode cX11_layRow 18 = .ok (.ifCond .le 7, 3) := by decide +kernel
theorem dX11_layRow_21 : decode cX11_layRow 21 = .ok (.iload_n 1, 1) := by decide +kernel
theorem dX11_layRow_22 : decode cX11_layRow 22 = .ok (.goto 4, 3) := by decide +kernel
theorem dX11_layRow_25 : decode cX11_layRow 25 = .ok (.iconst 0, 1) := by decide +kernel
theorem dX11_layRow_26 : decode cX11_layRow 26 = .ok (.istore 4, 2) := by decide +kernel
theorem dX11_layRow_28 : decode cX11_layRow 28 = .ok (.iload 4, 2) := by decide +kernel
theorem dX11_layRow_30 : decode cX11_layRow 30 = .ok (.ifCond .le 80, 3) := by decide +kernel
theorem dX11_layRow_33 : decode cX11_layRow 33 = .ok (.iload_n 3, 1) := by decide +kernel
theorem dX11_layRow_34 : decode cX11_layRow 34 = .ok (.ifCond .eq 76, 3) := by decide +kernel
theorem dX11_layRow_37 : decode cX11_layRow 37 = .ok (.iload 4, 2) := by decide +kernel
theorem dX11_layRow_39 : decode cX11_layRow 39 = .ok (.bipush 10, 2) := by decide +kernel
theorem dX11_layRow_41 : decode cX11_layRow 41 = .ok (.irem, 1) := by decide +kernel
theorem dX11_layRow_42 : decode cX11_layRow 42 = .ok (.iconst 1, 1) := by decide +kernel
theorem dX11_layRow_43 : decode cX11_layRow 43 = .ok (.isub, 1) := by decide +kernel
theorem dX11_layRow_44 : decode cX11_layRow 44 = .ok (.istore 5, 2) := by decide +kernel
theorem dX11_layRow_46 : decode cX11_layRow 46 = .ok (.aload_n 0, 1) := by decide +kernel
theorem dX11_layRow_47 : decode cX11_layRow 47 = .ok (.getfield 117, 3) := by decide +kernel
theorem dX11_layRow_50 : decode cX11_layRow 50 = .ok (.bipush 7, 2) := by decide +kernel
theorem dX11_layRow_52 : decode cX11_layRow 52 = .ok (.if_icmp .ge 25, 3) := by decide +kernel
theorem dX11_layRow_55 : decode cX11_layRow 55 = .ok (.aload_n 0, 1) := by decide +kernel
theorem dX11_layRow_56 : decode cX11_layRow 56 = .ok (.iload 5, 2) := by decide +kernel
theorem dX11_layRow_58 : decode cX11_layRow 58 = .ok (.invokevirtual 75, 3) := by decide +kernel
theorem dX11_layRow_61 : decode cX11_layRow 61 = .ok (.ifCond .eq 16, 3) := by decide +kernel
theorem dX11_layRow_64 : decode cX11_layRow 64 = .ok (.iload_n 2, 1) := by decide +kernel
theorem dX11_layRow_65 : decode cX11_layRow 65 = .ok (.iload 5, 2) := by decide +kernel
theorem dX11_layRow_67 : decode cX11_layRow 67 = .ok (.invokestatic 120, 3) := by decide +kernel
theorem dX11_layRow_70 : decode cX11_layRow 70 = .ok (.ifCond .ne 7, 3) := by decide +kernel
theorem dX11_layRow_73 : decode cX11_layRow 73 = .ok (.iconst 1, 1) := by decide +kernel
theorem dX11_layRow_74 : decode cX11_layRow 74 = .ok (.goto 4, 3) := by decide +kernel
theorem dX11_layRow_77 : decode cX11_layRow 77 = .ok (.iconst 0, 1) := by decide +kernel
theorem dX11_layRow_78 : decode cX11_layRow 78 = .ok (.istore_n 3, 1) := by decide +kernel
theorem dX11_layRow_79 : decode cX11_layRow 79 = .ok (.iload_n 3, 1) := by decide +kernel
theorem dX11_layRow_80 : decode cX11_layRow 80 = .ok (.ifCond .eq 20, 3) := by decide +kernel
theorem dX11_layRow_83 : decode cX11_layRow 83 = .ok (.iload_n 2, 1) := by decide +kernel
theorem dX11_layRow_84 : decode cX11_layRow 84 = .ok (.iconst 1, 1) := by decide +kernel
theorem dX11_layRow_85 : decode cX11_layRow 85 = .ok (.iload 5, 2) := by decide +kernel
theorem dX11_layRow_87 : decode cX11_layRow 87 = .ok (.ishl, 1) := by decide +kernel
theorem dX11_layRow_88 : decode cX11_layRow 88 = .ok (.ior, 1) := by decide +kernel
theorem dX11_layRow_89 : decode cX11_layRow 89 = .ok (.istore_n 2, 1) := by decide +kernel
theorem dX11_layRow_90 : decode cX11_layRow 90 = .ok (.aload_n 0, 1) := by decide +kernel
theorem dX11_layRow_91 : decode cX11_layRow 91 = .ok (.dup, 1) := by decide +kernel
theorem dX11_layRow_92 : decode cX11_layRow 92 = .ok (.getfield 117, 3) := by decide +kernel
theorem dX11_layRow_95 : decode cX11_layRow 95 = .ok (.iconst 1, 1) := by decide +kernel
theorem dX11_layRow_96 : decode cX11_layRow 96 = .ok (.iadd, 1) := by decide +kernel
theorem dX11_layRow_97 : decode cX11_layRow 97 = .ok (.putfield 117, 3) := by decide +kernel
theorem dX11_layRow_100 : decode cX11_layRow 100 = .ok (.iload 4, 2) := by decide +kernel
theorem dX11_layRow_102 : decode cX11_layRow 102 = .ok (.bipush 10, 2) := by decide +kernel
theorem dX11_layRow_104 : decode cX11_layRow 104 = .ok (.idiv, 1) := by decide +kernel
theorem dX11_layRow_105 : decode cX11_layRow 105 = .ok (.istore 4, 2) := by decide +kernel
theorem dX11_layRow_107 : decode cX11_layRow 107 = .ok (.goto (-79), 3) := by decide +kernel
theorem dX11_layRow_110 : decode cX11_layRow 110 = .ok (.iload_n 1, 1) := by decide +kernel
theorem dX11_layRow_111 : decode cX11_layRow 111 = .ok (.istore 4, 2) := by decide +kernel
theorem dX11_layRow_113 : decode cX11_layRow 113 = .ok (.aload_n 0, 1) := by decide +kernel
theorem dX11_layRow_114 : decode cX11_layRow 114 = .ok (.getfield 117, 3) := by decide +kernel
theorem dX11_layRow_117 : decode cX11_layRow 117 = .ok (.iconst 1, 1) := by decide +kernel
theorem dX11_layRow_118 : decode cX11_layRow 118 = .ok (.isub, 1) := by decide +kernel
theorem dX11_layRow_119 : decode cX11_layRow 119 = .ok (.istore 5, 2) := by decide +kernel
theorem dX11_layRow_121 : decode cX11_layRow 121 = .ok (.iload 5, 2) := by decide +kernel
theorem dX11_layRow_123 : decode cX11_layRow 123 = .ok (.ifCond .lt 34, 3) := by decide +kernel
theorem dX11_layRow_126 : decode cX11_layRow 126 = .ok (.iload_n 3, 1) := by decide +kernel
theorem dX11_layRow_127 : decode cX11_layRow 127 = .ok (.ifCond .eq 30, 3) := by decide +kernel
theorem dX11_layRow_130 : decode cX11_layRow 130 = .ok (.aload_n 0, 1) := by decide +kernel
theorem dX11_layRow_131 : decode cX11_layRow 131 = .ok (.getfield 27, 3) := by decide +kernel
theorem dX11_layRow_134 : decode cX11_layRow 134 = .ok (.iload 5, 2) := by decide +kernel
theorem dX11_layRow_136 : decode cX11_layRow 136 = .ok (.iload 4, 2) := by decide +kernel
theorem dX11_layRow_138 : decode cX11_layRow 138 = .ok (.bipush 10, 2) := by decide +kernel
theorem dX11_layRow_140 : decode cX11_layRow 140 = .ok (.irem, 1) := by decide +kernel
theorem dX11_layRow_141 : decode cX11_layRow 141 = .ok (.iconst 1, 1) := by decide +kernel
theorem dX11_layRow_142 : decode cX11_layRow 142 = .ok (.isub, 1) := by decide +kernel
theorem dX11_layRow_143 : decode cX11_layRow 143 = .ok (.iastore, 1) := by decide +kernel
theorem dX11_layRow_144 : decode cX11_layRow 144 = .ok (.iload 4, 2) := by decide +kernel
theorem dX11_layRow_146 : decode cX11_layRow 146 = .ok (.bipush 10, 2) := by decide +kernel
theorem dX11_layRow_148 : decode cX11_layRow 148 = .ok (.idiv, 1) := by decide +kernel
theorem dX11_layRow_149 : decode cX11_layRow 149 = .ok (.istore 4, 2) := by decide +kernel
theorem dX11_layRow_151 : decode cX11_layRow 151 = .ok (.iinc 5 (-1), 3) := by decide +kernel
theorem dX11_layRow_154 : decode cX11_layRow 154 = .ok (.goto (-33), 3) := by decide +kernel
theorem dX11_layRow_157 : decode cX11_layRow 157 = .ok (.iload_n 3, 1) := by decide +kernel
theorem dX11_layRow_158 : decode cX11_layRow 158 = .ok (.ireturn, 1) := by decide +kernel
theorem dX11_numberOfRow_0 : decode cX11_numberOfRow 0 = .ok (.iconst 0, 1) := by decide +kernel
theorem dX11_numberOfRow_1 : decode cX11_numberOfRow 1 = .ok (.istore_n 1, 1) := by decide +kernel
theorem dX11_numberOfRow_2 : decode cX11_numberOfRow 2 = .ok (.iconst 0, 1) := by decide +kernel
theorem dX11_numberOfRow_3 : decode cX11_numberOfRow 3 = .ok (.istore_n 2, 1) := by decide +kernel
theorem dX11_numberOfRow_4 : decode cX11_numberOfRow 4 = .ok (.iload_n 2, 1) := by decide +kernel
theorem dX11_numberOfRow_5 : decode cX11_numberOfRow 5 = .ok (.aload_n 0, 1) := by decide +kernel
theorem dX11_numberOfRow_6 : decode cX11_numberOfRow 6 = .ok (.getfield 117, 3) := by decide +kernel
theorem dX11_numberOfRow_9 : decode cX11_numberOfRow 9 = .ok (.if_icmp .ge 23, 3) := by decide +kernel
theorem dX11_numberOfRow_12 : decode cX11_numberOfRow 12 = .ok (.bipush 10, 2) := by decide +kernel
theorem dX11_numberOfRow_14 : decode cX11_numberOfRow 14 = .ok (.iload_n 1, 1) := by decide +kernel
theorem dX11_numberOfRow_15 : decode cX11_numberOfRow 15 = .ok (.imul, 1) := by decide +kernel
theorem dX11_numberOfRow_16 : decode cX11_numberOfRow 16 = .ok (.aload_n 0, 1) := by decide +kernel
theorem dX11_numberOfRow_17 : decode cX11_numberOfRow 17 = .ok (.getfield 27, 3) := by decide +kernel
theorem dX11_numberOfRow_20 : decode cX11_numberOfRow 20 = .ok (.iload_n 2, 1) := by decide +kernel
theorem dX11_numberOfRow_21 : decode cX11_numberOfRow 21 = .ok (.iaload, 1) := by decide +kernel
theorem dX11_numberOfRow_22 : decode cX11_numberOfRow 22 = .ok (.iadd, 1) := by decide +kernel
theorem dX11_numberOfRow_23 : decode cX11_numberOfRow 23 = .ok (.iconst 1, 1) := by decide +kernel
theorem dX11_numberOfRow_24 : decode cX11_numberOfRow 24 = .ok (.iadd, 1) := by decide +kernel
theorem dX11_numberOfRow_25 : decode cX11_numberOfRow 25 = .ok (.istore_n 1, 1) := by decide +kernel
theorem dX11_numberOfRow_26 : decode cX11_numberOfRow 26 = .ok (.iinc 2 1, 3) := by decide +kernel
theorem dX11_numberOfRow_29 : decode cX11_numberOfRow 29 = .ok (.goto (-25), 3) := by decide +kernel
theorem dX11_numberOfRow_32 : decode cX11_numberOfRow 32 = .ok (.iload_n 1, 1) := by decide +kernel
theorem dX11_numberOfRow_33 : decode cX11_numberOfRow 33 = .ok (.ireturn, 1) := by decide +kernel
theorem dX11_isRow_0 : decode cX11_isRow 0 = .ok (.iconst 1, 1) := by decide +kernel
theorem dX11_isRow_1 : decode cX11_isRow 1 = .ok (.istore_n 1, 1) := by decide +kernel
theorem dX11_isRow_2 : decode cX11_isRow 2 = .ok (.iconst 0, 1) := by decide +kernel
theorem dX11_isRow_3 : decode cX11_isRow 3 = .ok (.istore_n 2, 1) := by decide +kernel
theorem dX11_isRow_4 : decode cX11_isRow 4 = .ok (.iload_n 2, 1) := by decide +kernel
theorem dX11_isRow_5 : decode cX11_isRow 5 = .ok (.aload_n 0, 1) := by decide +kernel
theorem dX11_isRow_6 : decode cX11_isRow 6 = .ok (.getfield 117, 3) := by decide +kernel
theorem dX11_isRow_9 : decode cX11_isRow 9 = .ok (.if_icmp .ge 69, 3) := by decide +kernel
theorem dX11_isRow_12 : decode cX11_isRow 12 = .ok (.iload_n 1, 1) := by decide +kernel
theorem dX11_isRow_13 : decode cX11_isRow 13 = .ok (.ifCond .eq 57, 3) := by decide +kernel
theorem dX11_isRow_16 : decode cX11_isRow 16 = .ok (.aload_n 0, 1) := by decide +kernel
theorem dX11_isRow_17 : decode cX11_isRow 17 = .ok (.getfield 7, 3) := by decide +kernel
theorem dX11_isRow_20 : decode cX11_isRow 20 = .ok (.iconst 1, 1) := by decide +kernel
theorem dX11_isRow_21 : decode cX11_isRow 21 = .ok (.iaload, 1) := by decide +kernel
theorem dX11_isRow_22 : decode cX11_isRow 22 = .ok (.aload_n 0, 1) := by decide +kernel
theorem dX11_isRow_23 : decode cX11_isRow 23 = .ok (.getfield 27, 3) := by decide +kernel
theorem dX11_isRow_26 : decode cX11_isRow 26 = .ok (.iload_n 2, 1) := by decide +kernel
theorem dX11_isRow_27 : decode cX11_isRow 27 = .ok (.iaload, 1) := by decide +kernel
theorem dX11_isRow_28 : decode cX11_isRow 28 = .ok (.invokestatic 120, 3) := by decide +kernel
theorem dX11_isRow_31 : decode cX11_isRow 31 = .ok (.ifCond .ne 39, 3) := by decide +kernel
theorem dX11_isRow_34 : decode cX11_isRow 34 = .ok (.iload_n 2, 1) := by decide +kernel
theorem dX11_isRow_35 : decode cX11_isRow 35 = .ok (.ifCond .eq 31, 3) := by decide +kernel
theorem dX11_isRow_38 : decode cX11_isRow 38 = .ok (.aload_n 0, 1) := by decide +kernel
theorem dX11_isRow_39 : decode cX11_isRow 39 = .ok (.getfield 7, 3) := by decide +kernel
theorem dX11_isRow_42 : decode cX11_isRow 42 = .ok (.bipush 13, 2) := by decide +kernel
theorem dX11_isRow_44 : decode cX11_isRow 44 = .ok (.aload_n 0, 1) := by decide +kernel
theorem dX11_isRow_45 : decode cX11_isRow 45 = .ok (.getfield 27, 3) := by decide +kernel
theorem dX11_isRow_48 : decode cX11_isRow 48 = .ok (.iload_n 2, 1) := by decide +kernel
theorem dX11_isRow_49 : decode cX11_isRow 49 = .ok (.iaload, 1) := by decide +kernel
theorem dX11_isRow_50 : decode cX11_isRow 50 = .ok (.iadd, 1) := by decide +kernel
theorem dX11_isRow_51 : decode cX11_isRow 51 = .ok (.iaload, 1) := by decide +kernel
theorem dX11_isRow_52 : decode cX11_isRow 52 = .ok (.aload_n 0, 1) := by decide +kernel
theorem dX11_isRow_53 : decode cX11_isRow 53 = .ok (.getfield 27, 3) := by decide +kernel
theorem dX11_isRow_56 : decode cX11_isRow 56 = .ok (.iload_n 2, 1) := by decide +kernel
theorem dX11_isRow_57 : decode cX11_isRow 57 = .ok (.iconst 1, 1) := by decide +kernel
theorem dX11_isRow_58 : decode cX11_isRow 58 = .ok (.isub, 1) := by decide +kernel
theorem dX11_isRow_59 : decode cX11_isRow 59 = .ok (.iaload, 1) := by decide +kernel
theorem dX11_isRow_60 : decode cX11_isRow 60 = .ok (.invokestatic 120, 3) := by decide +kernel
theorem dX11_isRow_63 : decode cX11_isRow 63 = .ok (.ifCond .eq 7, 3) := by decide +kernel
theorem dX11_isRow_66 : decode cX11_isRow 66 = .ok (.iconst 1, 1) := by decide +kernel
theorem dX11_isRow_67 : decode cX11_isRow 67 = .ok (.goto 4, 3) := by decide +kernel
theorem dX11_isRow_70 : decode cX11_isRow 70 = .ok (.iconst 0, 1) := by decide +kernel
theorem dX11_isRow_71 : decode cX11_isRow 71 = .ok (.istore_n 1, 1) := by decide +kernel
theorem dX11_isRow_72 : decode cX11_isRow 72 = .ok (.iinc 2 1, 3) := by decide +kernel
theorem dX11_isRow_75 : decode cX11_isRow 75 = .ok (.goto (-71), 3) := by decide +kernel
theorem dX11_isRow_78 : decode cX11_isRow 78 = .ok (.iload_n 1, 1) := by decide +kernel
theorem dX11_isRow_79 : decode cX11_isRow 79 = .ok (.ireturn, 1) := by decide +kernel
theorem dX11_byRow_0 : decode cX11_byRow 0 = .ok (.aload_n 0, 1) := by decide +kernel
theorem dX11_byRow_1 : decode cX11_byRow 1 = .ok (.iload_n 1, 1) := by decide +kernel
theorem dX11_byRow_2 : decode cX11_byRow 2 = .ok (.invokevirtual 124, 3) := by decide +kernel
theorem dX11_byRow_5 : decode cX11_byRow 5 = .ok (.ifCond .eq 20, 3) := by decide +kernel
theorem dX11_byRow_8 : decode cX11_byRow 8 = .ok (.iload_n 2, 1) := by decide +kernel
theorem dX11_byRow_9 : decode cX11_byRow 9 = .ok (.invokestatic 99, 3) := by decide +kernel
theorem dX11_byRow_12 : decode cX11_byRow 12 = .ok (.ifCond .eq 13, 3) := by decide +kernel
theorem dX11_byRow_15 : decode cX11_byRow 15 = .ok (.iload_n 3, 1) := by decide +kernel
theorem dX11_byRow_16 : decode cX11_byRow 16 = .ok (.i2l, 1) := by decide +kernel
theorem dX11_byRow_17 : decode cX11_byRow 17 = .ok (.lconst 0, 1) := by decide +kernel
theorem dX11_byRow_18 : decode cX11_byRow 18 = .ok (.lconst 1, 1) := by decide +kernel
theorem dX11_byRow_19 : decode cX11_byRow 19 = .ok (.invokestatic 56, 3) := by decide +kernel
theorem dX11_byRow_22 : decode cX11_byRow 22 = .ok (.ifCond .ne 10, 3) := by decide +kernel
theorem dX11_byRow_25 : decode cX11_byRow 25 = .ok (.aload_n 0, 1) := by decide +kernel
theorem dX11_byRow_26 : decode cX11_byRow 26 = .ok (.bipush (-2), 2) := by decide +kernel
theorem dX11_byRow_28 : decode cX11_byRow 28 = .ok (.invokevirtual 66, 3) := by decide +kernel
theorem dX11_byRow_31 : decode cX11_byRow 31 = .ok (.ireturn, 1) := by decide +kernel
theorem dX11_byRow_32 : decode cX11_byRow 32 = .ok (.aload_n 0, 1) := by decide +kernel
theorem dX11_byRow_33 : decode cX11_byRow 33 = .ok (.iload_n 2, 1) := by decide +kernel
theorem dX11_byRow_34 : decode cX11_byRow 34 = .ok (.aload_n 0, 1) := by decide +kernel
theorem dX11_byRow_35 : decode cX11_byRow 35 = .ok (.getfield 7, 3) := by decide +kernel
theorem dX11_byRow_38 : decode cX11_byRow 38 = .ok (.iconst 2, 1) := by decide +kernel
theorem dX11_byRow_39 : decode cX11_byRow 39 = .ok (.iaload, 1) := by decide +kernel
theorem dX11_byRow_40 : decode cX11_byRow 40 = .ok (.invokevirtual 127, 3) := by decide +kernel
theorem dX11_byRow_43 : decode cX11_byRow 43 = .ok (.aload_n 0, 1) := by decide +kernel
theorem dX11_byRow_44 : decode cX11_byRow 44 = .ok (.invokevirtual 131, 3) := by decide +kernel
theorem dX11_byRow_47 : decode cX11_byRow 47 = .ok (.ifCond .ne 7, 3) := by decide +kernel
theorem dX11_byRow_50 : decode cX11_byRow 50 = .ok (.iconst (-1), 1) := by decide +kernel
theorem dX11_byRow_51 : decode cX11_byRow 51 = .ok (.goto 18, 3) := by decide +kernel
theorem dX11_byRow_54 : decode cX11_byRow 54 = .ok (.iload_n 3, 1) := by decide +kernel
theorem dX11_byRow_55 : decode cX11_byRow 55 = .ok (.ifCond .ne 10, 3) := by decide +kernel
theorem dX11_byRow_58 : decode cX11_byRow 58 = .ok (.aload_n 0, 1) := by decide +kernel
theorem dX11_byRow_59 : decode cX11_byRow 59 = .ok (.getfield 110, 3) := by decide +kernel
theorem dX11_byRow_62 : decode cX11_byRow 62 = .ok (.goto 7, 3) := by decide +kernel
theorem dX11_byRow_65 : decode cX11_byRow 65 = .ok (.aload_n 0, 1) := by decide +kernel
theorem dX11_byRow_66 : decode cX11_byRow 66 = .ok (.getfield 114, 3) := by decide +kernel
theorem dX11_byRow_69 : decode cX11_byRow 69 = .ok (.ireturn, 1) := by decide +kernel
theorem dX11_layFirst_0 : decode cX11_layFirst 0 = .ok (.aload_n 0, 1) := by decide +kernel
theorem dX11_layFirst_1 : decode cX11_layFirst 1 = .ok (.iconst 1, 1) := by decide +kernel
theorem dX11_layFirst_2 : decode cX11_layFirst 2 = .ok (.aload_n 0, 1) := by decide +kernel
theorem dX11_layFirst_3 : decode cX11_layFirst 3 = .ok (.invokevirtual 52, 3) := by decide +kernel
theorem dX11_layFirst_6 : decode cX11_layFirst 6 = .ok (.ishl, 1) := by decide +kernel
theorem dX11_layFirst_7 : decode cX11_layFirst 7 = .ok (.iconst 1, 1) := by decide +kernel
theorem dX11_layFirst_8 : decode cX11_layFirst 8 = .ok (.isub, 1) := by decide +kernel
theorem dX11_layFirst_9 : decode cX11_layFirst 9 = .ok (.iload_n 2, 1) := by decide +kernel
theorem dX11_layFirst_10 : decode cX11_layFirst 10 = .ok (.iconst (-1), 1) := by decide +kernel
theorem dX11_layFirst_11 : decode cX11_layFirst 11 = .ok (.ixor, 1) := by decide +kernel
theorem dX11_layFirst_12 : decode cX11_layFirst 12 = .ok (.iand, 1) := by decide +kernel
theorem dX11_layFirst_13 : decode cX11_layFirst 13 = .ok (.putfield 135, 3) := by decide +kernel
theorem dX11_layFirst_16 : decode cX11_layFirst 16 = .ok (.aload_n 0, 1) := by decide +kernel
theorem dX11_layFirst_17 : decode cX11_layFirst 17 = .ok (.aload_n 0, 1) := by decide +kernel
theorem dX11_layFirst_18 : decode cX11_layFirst 18 = .ok (.getfield 135, 3) := by decide +kernel
theorem dX11_layFirst_21 : decode cX11_layFirst 21 = .ok (.iload_n 1, 1) := by decide +kernel
theorem dX11_layFirst_22 : decode cX11_layFirst 22 = .ok (.invokestatic 120, 3) := by decide +kernel
theorem dX11_layFirst_25 : decode cX11_layFirst 25 = .ok (.ifCond .eq 7, 3) := by decide +kernel
theorem dX11_layFirst_28 : decode cX11_layFirst 28 = .ok (.iconst 1, 1) := by decide +kernel
theorem dX11_layFirst_29 : decode cX11_layFirst 29 = .ok (.goto 4, 3) := by decide +kernel
theorem dX11_layFirst_32 : decode cX11_layFirst 32 = .ok (.iconst 0, 1) := by decide +kernel
theorem dX11_layFirst_33 : decode cX11_layFirst 33 = .ok (.putfield 117, 3) := by decide +kernel
theorem dX11_layFirst_36 : decode cX11_layFirst 36 = .ok (.aload_n 0, 1) := by decide +kernel
theorem dX11_layFirst_37 : decode cX11_layFirst 37 = .ok (.getfield 27, 3) := by decide +kernel
theorem dX11_layFirst_40 : decode cX11_layFirst 40 = .ok (.iconst 0, 1) := by decide +kernel
theorem dX11_layFirst_41 : decode cX11_layFirst 41 = .ok (.iload_n 1, 1) := by decide +kernel
theorem dX11_layFirst_42 : decode cX11_layFirst 42 = .ok (.iastore, 1) := by decide +kernel
theorem dX11_layFirst_43 : decode cX11_layFirst 43 = .ok (.return_, 1) := by decide +kernel
theorem dX11_used_0 : decode cX11_used 0 = .ok (.iconst 0, 1) := by decide +kernel
theorem dX11_used_1 : decode cX11_used 1 = .ok (.istore_n 1, 1) := by decide +kernel
theorem dX11_used_2 : decode cX11_used 2 = .ok (.iconst 0, 1) := by decide +kernel
theorem dX11_used_3 : decode cX11_used 3 = .ok (.istore_n 2, 1) := by decide +kernel
theorem dX11_used_4 : decode cX11_used 4 = .ok (.iload_n 2, 1) := by decide +kernel
theorem dX11_used_5 : decode cX11_used 5 = .ok (.aload_n 0, 1) := by decide +kernel
theorem dX11_used_6 : decode cX11_used 6 = .ok (.getfield 117, 3) := by decide +kernel
theorem dX11_used_9 : decode cX11_used 9 = .ok (.if_icmp .ge 20, 3) := by decide +kernel
theorem dX11_used_12 : decode cX11_used 12 = .ok (.iload_n 1, 1) := by decide +kernel
theorem dX11_used_13 : decode cX11_used 13 = .ok (.iconst 1, 1) := by decide +kernel
theorem dX11_used_14 : decode cX11_used 14 = .ok (.aload_n 0, 1) := by decide +kernel
theorem dX11_used_15 : decode cX11_used 15 = .ok (.getfield 27, 3) := by decide +kernel
theorem dX11_used_18 : decode cX11_used 18 = .ok (.iload_n 2, 1) := by decide +kernel
theorem dX11_used_19 : decode cX11_used 19 = .ok (.iaload, 1) := by decide +kernel
theorem dX11_used_20 : decode cX11_used 20 = .ok (.ishl, 1) := by decide +kernel
theorem dX11_used_21 : decode cX11_used 21 = .ok (.ior, 1) := by decide +kernel
theorem dX11_used_22 : decode cX11_used 22 = .ok (.istore_n 1, 1) := by decide +kernel
theorem dX11_used_23 : decode cX11_used 23 = .ok (.iinc 2 1, 3) := by decide +kernel
theorem dX11_used_26 : decode cX11_used 26 = .ok (.goto (-22), 3) := by decide +kernel
theorem dX11_used_29 : decode cX11_used 29 = .ok (.iload_n 1, 1) := by decide +kernel
theorem dX11_used_30 : decode cX11_used 30 = .ok (.ireturn, 1) := by decide +kernel
theorem dX11_goOn_0 : decode cX11_goOn 0 = .ok (.iconst 0, 1) := by decide +kernel
theorem dX11_goOn_1 : decode cX11_goOn 1 = .ok (.istore_n 1, 1) := by decide +kernel
theorem dX11_goOn_2 : decode cX11_goOn 2 = .ok (.iconst 0, 1) := by decide +kernel
theorem dX11_goOn_3 : decode cX11_goOn 3 = .ok (.istore_n 2, 1) := by decide +kernel
theorem dX11_goOn_4 : decode cX11_goOn 4 = .ok (.aload_n 0, 1) := by decide +kernel
theorem dX11_goOn_5 : decode cX11_goOn 5 = .ok (.getfield 117, 3) := by decide +kernel
theorem dX11_goOn_8 : decode cX11_goOn 8 = .ok (.ifCond .le 124, 3) := by decide +kernel
theorem dX11_goOn_11 : decode cX11_goOn 11 = .ok (.iload_n 2, 1) := by decide +kernel
theorem dX11_goOn_12 : decode cX11_goOn 12 = .ok (.ifCond .ne 120, 3) := by decide +kernel
theorem dX11_goOn_15 : decode cX11_goOn 15 = .ok (.aload_n 0, 1) := by decide +kernel
theorem dX11_goOn_16 : decode cX11_goOn 16 = .ok (.getfield 7, 3) := by decide +kernel
theorem dX11_goOn_19 : decode cX11_goOn 19 = .ok (.bipush 13, 2) := by decide +kernel
theorem dX11_goOn_21 : decode cX11_goOn 21 = .ok (.aload_n 0, 1) := by decide +kernel
theorem dX11_goOn_22 : decode cX11_goOn 22 = .ok (.getfield 27, 3) := by decide +kernel
theorem dX11_goOn_25 : decode cX11_goOn 25 = .ok (.aload_n 0, 1) := by decide +kernel
theorem dX11_goOn_26 : decode cX11_goOn 26 = .ok (.getfield 117, 3) := by decide +kernel
theorem dX11_goOn_29 : decode cX11_goOn 29 = .ok (.iconst 1, 1) := by decide +kernel
theorem dX11_goOn_30 : decode cX11_goOn 30 = .ok (.isub, 1) := by decide +kernel
theorem dX11_goOn_31 : decode cX11_goOn 31 = .ok (.iaload, 1) := by decide +kernel
theorem dX11_goOn_32 : decode cX11_goOn 32 = .ok (.iadd, 1) := by decide +kernel
theorem dX11_goOn_33 : decode cX11_goOn 33 = .ok (.iaload, 1) := by decide +kernel
theorem dX11_goOn_34 : decode cX11_goOn 34 = .ok (.aload_n 0, 1) := by decide +kernel
theorem dX11_goOn_35 : decode cX11_goOn 35 = .ok (.getfield 135, 3) := by decide +kernel
theorem dX11_goOn_38 : decode cX11_goOn 38 = .ok (.iand, 1) := by decide +kernel
theorem dX11_goOn_39 : decode cX11_goOn 39 = .ok (.aload_n 0, 1) := by decide +kernel
theorem dX11_goOn_40 : decode cX11_goOn 40 = .ok (.invokevirtual 138, 3) := by decide +kernel
theorem dX11_goOn_43 : decode cX11_goOn 43 = .ok (.iconst (-1), 1) := by decide +kernel
theorem dX11_goOn_44 : decode cX11_goOn 44 = .ok (.ixor, 1) := by decide +kernel
theorem dX11_goOn_45 : decode cX11_goOn 45 = .ok (.iand, 1) := by decide +kernel
theorem dX11_goOn_46 : decode cX11_goOn 46 = .ok (.istore_n 3, 1) := by decide +kernel
theorem dX11_goOn_47 : decode cX11_goOn 47 = .ok (.iload_n 1, 1) := by decide +kernel
theorem dX11_goOn_48 : decode cX11_goOn 48 = .ok (.istore 4, 2) := by decide +kernel
theorem dX11_goOn_50 : decode cX11_goOn 50 = .ok (.iload 4, 2) := by decide +kernel
theorem dX11_goOn_52 : decode cX11_goOn 52 = .ok (.bipush 7, 2) := by decide +kernel
theorem dX11_goOn_54 : decode cX11_goOn 54 = .ok (.if_icmp .ge 18, 3) := by decide +kernel
theorem dX11_goOn_57 : decode cX11_goOn 57 = .ok (.iload_n 3, 1) := by decide +kernel
theorem dX11_goOn_58 : decode cX11_goOn 58 = .ok (.iload 4, 2) := by decide +kernel
theorem dX11_goOn_60 : decode cX11_goOn 60 = .ok (.invokestatic 120, 3) := by decide +kernel
theorem dX11_goOn_63 : decode cX11_goOn 63 = .ok (.ifCond .ne 9, 3) := by decide +kernel
theorem dX11_goOn_66 : decode cX11_goOn 66 = .ok (.iinc 4 1, 3) := by decide +kernel
theorem dX11_goOn_69 : decode cX11_goOn 69 = .ok (.goto (-19), 3) := by decide +kernel
theorem dX11_goOn_72 : decode cX11_goOn 72 = .ok (.iload 4, 2) := by decide +kernel
theorem dX11_goOn_74 : decode cX11_goOn 74 = .ok (.bipush 7, 2) := by decide +kernel
theorem dX11_goOn_76 : decode cX11_goOn 76 = .ok (.if_icmp .ge 29, 3) := by decide +kernel
theorem dX11_goOn_79 : decode cX11_goOn 79 = .ok (.aload_n 0, 1) := by decide +kernel
theorem dX11_goOn_80 : decode cX11_goOn 80 = .ok (.getfield 27, 3) := by decide +kernel
theorem dX11_goOn_83 : decode cX11_goOn 83 = .ok (.aload_n 0, 1) := by decide +kernel
theorem dX11_goOn_84 : decode cX11_goOn 84 = .ok (.getfield 117, 3) := by decide +kernel
theorem dX11_goOn_87 : decode cX11_goOn 87 = .ok (.iload 4, 2) := by decide +kernel
theorem dX11_goOn_89 : decode cX11_goOn 89 = .ok (.iastore, 1) := by decide +kernel
theorem dX11_goOn_90 : decode cX11_goOn 90 = .ok (.aload_n 0, 1) := by decide +kernel
theorem dX11_goOn_91 : decode cX11_goOn 91 = .ok (.dup, 1) := by decide +kernel
theorem dX11_goOn_92 : decode cX11_goOn 92 = .ok (.getfield 117, 3) := by decide +kernel
theorem dX11_goOn_95 : decode cX11_goOn 95 = .ok (.iconst 1, 1) := by decide +kernel
theorem dX11_goOn_96 : decode cX11_goOn 96 = .ok (.iadd, 1) := by decide +kernel
theorem dX11_goOn_97 : decode cX11_goOn 97 = .ok (.putfield 117, 3) := by decide +kernel
theorem dX11_goOn_100 : decode cX11_goOn 100 = .ok (.iconst 1, 1) := by decide +kernel
theorem dX11_goOn_101 : decode cX11_goOn 101 = .ok (.istore_n 2, 1) := by decide +kernel
theorem dX11_goOn_102 : decode cX11_goOn 102 = .ok (.goto 27, 3) := by decide +kernel
theorem dX11_goOn_105 : decode cX11_goOn 105 = .ok (.aload_n 0, 1) := by decide +kernel
theorem dX11_goOn_106 : decode cX11_goOn 106 = .ok (.getfield 27, 3) := by decide +kernel
theorem dX11_goOn_109 : decode cX11_goOn 109 = .ok (.aload_n 0, 1) := by decide +kernel
theorem dX11_goOn_110 : decode cX11_goOn 110 = .ok (.getfield 117, 3) := by decide +kernel
theorem dX11_goOn_113 : decode cX11_goOn 113 = .ok (.iconst 1, 1) := by decide +kernel
theorem dX11_goOn_114 : decode cX11_goOn 114 = .ok (.isub, 1) := by decide +kernel
theorem dX11_goOn_115 : decode cX11_goOn 115 = .ok (.iaload, 1) := by decide +kernel
theorem dX11_goOn_116 : decode cX11_goOn 116 = .ok (.iconst 1, 1) := by decide +kernel
theorem dX11_goOn_117 : decode cX11_goOn 117 = .ok (.iadd, 1) := by decide +kernel
theorem dX11_goOn_118 : decode cX11_goOn 118 = .ok (.istore_n 1, 1) := by decide +kernel
theorem dX11_goOn_119 : decode cX11_goOn 119 = .ok (.aload_n 0, 1) := by decide +kernel
theorem dX11_goOn_120 : decode cX11_goOn 120 = .ok (.dup, 1) := by decide +kernel
theorem dX11_goOn_121 : decode cX11_goOn 121 = .ok (.getfield 117, 3) := by decide +kernel
theorem dX11_goOn_124 : decode cX11_goOn 124 = .ok (.iconst 1, 1) := by decide +kernel
theorem dX11_goOn_125 : decode cX11_goOn 125 = .ok (.isub, 1) := by decide +kernel
theorem dX11_goOn_126 : decode cX11_goOn 126 = .ok (.putfield 117, 3) := by decide +kernel
theorem dX11_goOn_129 : decode cX11_goOn 129 = .ok (.goto (-125), 3) := by decide +kernel
theorem dX11_goOn_132 : decode cX11_goOn 132 = .ok (.return_, 1) := by decide +kernel
theorem dX11_ends_0 : decode cX11_ends 0 = .ok (.aload_n 0, 1) := by decide +kernel
theorem dX11_ends_1 : decode cX11_ends 1 = .ok (.getfield 27, 3) := by decide +kernel
theorem dX11_ends_4 : decode cX11_ends 4 = .ok (.aload_n 0, 1) := by decide +kernel
theorem dX11_ends_5 : decode cX11_ends 5 = .ok (.getfield 117, 3) := by decide +kernel
theorem dX11_ends_8 : decode cX11_ends 8 = .ok (.iconst 1, 1) := by decide +kernel
theorem dX11_ends_9 : decode cX11_ends 9 = .ok (.isub, 1) := by decide +kernel
theorem dX11_ends_10 : decode cX11_ends 10 = .ok (.iaload, 1) := by decide +kernel
theorem dX11_ends_11 : decode cX11_ends 11 = .ok (.iload_n 1, 1) := by decide +kernel
theorem dX11_ends_12 : decode cX11_ends 12 = .ok (.if_icmp .ne 7, 3) := by decide +kernel
theorem dX11_ends_15 : decode cX11_ends 15 = .ok (.iconst 1, 1) := by decide +kernel
theorem dX11_ends_16 : decode cX11_ends 16 = .ok (.goto 4, 3) := by decide +kernel
theorem dX11_ends_19 : decode cX11_ends 19 = .ok (.iconst 0, 1) := by decide +kernel
theorem dX11_ends_20 : decode cX11_ends 20 = .ok (.ireturn, 1) := by decide +kernel
theorem dX11_laySoonest_0 : decode cX11_laySoonest 0 = .ok (.aload_n 0, 1) := by decide +kernel
theorem dX11_laySoonest_1 : decode cX11_laySoonest 1 = .ok (.iconst (-1), 1) := by decide +kernel
theorem dX11_laySoonest_2 : decode cX11_laySoonest 2 = .ok (.putfield 141, 3) := by decide +kernel
theorem dX11_laySoonest_5 : decode cX11_laySoonest 5 = .ok (.aload_n 0, 1) := by decide +kernel
theorem dX11_laySoonest_6 : decode cX11_laySoonest 6 = .ok (.iconst (-1), 1) := by decide +kernel
theorem dX11_laySoonest_7 : decode cX11_laySoonest 7 = .ok (.putfield 144, 3) := by decide +kernel
theorem dX11_laySoonest_10 : decode cX11_laySoonest 10 = .ok (.aload_n 0, 1) := by decide +kernel
theorem dX11_laySoonest_11 : decode cX11_laySoonest 11 = .ok (.iconst (-1), 1) := by decide +kernel
theorem dX11_laySoonest_12 : decode cX11_laySoonest 12 = .ok (.putfield 147, 3) := by decide +kernel
theorem dX11_laySoonest_15 : decode cX11_laySoonest 15 = .ok (.aload_n 0, 1) := by decide +kernel
theorem dX11_laySoonest_16 : decode cX11_laySoonest 16 = .ok (.iload_n 1, 1) := by decide +kernel
theorem dX11_laySoonest_17 : decode cX11_laySoonest 17 = .ok (.aload_n 0, 1) := by decide +kernel
theorem dX11_laySoonest_18 : decode cX11_laySoonest 18 = .ok (.getfield 7, 3) := by decide +kernel
theorem dX11_laySoonest_21 : decode cX11_laySoonest 21 = .ok (.iconst 1, 1) := by decide +kernel
theorem dX11_laySoonest_22 : decode cX11_laySoonest 22 = .ok (.iaload, 1) := by decide +kernel
theorem dX11_laySoonest_23 : decode cX11_laySoonest 23 = .ok (.invokevirtual 150, 3) := by decide +kernel
theorem dX11_laySoonest_26 : decode cX11_laySoonest 26 = .ok (.aload_n 0, 1) := by decide +kernel
theorem dX11_laySoonest_27 : decode cX11_laySoonest 27 = .ok (.getfield 117, 3) := by decide +kernel
theorem dX11_laySoonest_30 : decode cX11_laySoonest 30 = .ok (.ifCond .le 85, 3) := by decide +kernel
theorem dX11_laySoonest_33 : decode cX11_laySoonest 33 = .ok (.aload_n 0, 1) := by decide +kernel
theorem dX11_laySoonest_34 : decode cX11_laySoonest 34 = .ok (.iload_n 2, 1) := by decide +kernel
theorem dX11_laySoonest_35 : decode cX11_laySoonest 35 = .ok (.invokevirtual 153, 3) := by decide +kernel
theorem dX11_laySoonest_38 : decode cX11_laySoonest 38 = .ok (.ifCond .eq 70, 3) := by decide +kernel
theorem dX11_laySoonest_41 : decode cX11_laySoonest 41 = .ok (.aload_n 0, 1) := by decide +kernel
theorem dX11_laySoonest_42 : decode cX11_laySoonest 42 = .ok (.iload_n 3, 1) := by decide +kernel
theorem dX11_laySoonest_43 : decode cX11_laySoonest 43 = .ok (.aload_n 0, 1) := by decide +kernel
theorem dX11_laySoonest_44 : decode cX11_laySoonest 44 = .ok (.getfield 7, 3) := by decide +kernel
theorem dX11_laySoonest_47 : decode cX11_laySoonest 47 = .ok (.iconst 2, 1) := by decide +kernel
theorem dX11_laySoonest_48 : decode cX11_laySoonest 48 = .ok (.iaload, 1) := by decide +kernel
theorem dX11_laySoonest_49 : decode cX11_laySoonest 49 = .ok (.invokevirtual 127, 3) := by decide +kernel
theorem dX11_laySoonest_52 : decode cX11_laySoonest 52 = .ok (.aload_n 0, 1) := by decide +kernel
theorem dX11_laySoonest_53 : decode cX11_laySoonest 53 = .ok (.getfield 144, 3) := by decide +kernel
theorem dX11_laySoonest_56 : decode cX11_laySoonest 56 = .ok (.iconst (-1), 1) := by decide +kernel
theorem dX11_laySoonest_57 : decode cX11_laySoonest 57 = .ok (.if_icmp .eq 14, 3) := by decide +kernel
theorem dX11_laySoonest_60 : decode cX11_laySoonest 60 = .ok (.aload_n 0, 1) := by decide +kernel
theorem dX11_laySoonest_61 : decode cX11_laySoonest 61 = .ok (.getfield 114, 3) := by decide +kernel
theorem dX11_laySoonest_64 : decode cX11_laySoonest 64 = .ok (.aload_n 0, 1) := by decide +kernel
theorem dX11_laySoonest_65 : decode cX11_laySoonest 65 = .ok (.getfield 144, 3) := by decide +kernel
theorem dX11_laySoonest_68 : decode cX11_laySoonest 68 = .ok (.if_icmp .ge 40, 3) := by decide +kernel
theorem dX11_laySoonest_71 : decode cX11_laySoonest 71 = .ok (.iload 4, 2) := by decide +kernel
theorem dX11_laySoonest_73 : decode cX11_laySoonest 73 = .ok (.ifCond .eq 11, 3) := by decide +kernel
theorem dX11_laySoonest_76 : decode cX11_laySoonest 76 = .ok (.aload_n 0, 1) := by decide +kernel
theorem dX11_laySoonest_77 : decode cX11_laySoonest 77 = .ok (.getfield 110, 3) := by decide +kernel
theorem dX11_laySoonest_80 : decode cX11_laySoonest 80 = .ok (.iload_n 3, 1) := by decide +kernel
theorem dX11_laySoonest_81 : decode cX11_laySoonest 81 = .ok (.if_icmp .ne 27, 3) := by decide +kernel
theorem dX11_laySoonest_84 : decode cX11_laySoonest 84 = .ok (.aload_n 0, 1) := by decide +kernel
theorem dX11_laySoonest_85 : decode cX11_laySoonest 85 = .ok (.aload_n 0, 1) := by decide +kernel
theorem dX11_laySoonest_86 : decode cX11_laySoonest 86 = .ok (.invokevirtual 156, 3) := by decide +kernel
theorem dX11_laySoonest_89 : decode cX11_laySoonest 89 = .ok (.putfield 141, 3) := by decide +kernel
theorem dX11_laySoonest_92 : decode cX11_laySoonest 92 = .ok (.aload_n 0, 1) := by decide +kernel
theorem dX11_laySoonest_93 : decode cX11_laySoonest 93 = .ok (.aload_n 0, 1) := by decide +kernel
theorem dX11_laySoonest_94 : decode cX11_laySoonest 94 = .ok (.getfield 114, 3) := by decide +kernel
theorem dX11_laySoonest_97 : decode cX11_laySoonest 97 = .ok (.putfield 144, 3) := by decide +kernel
theorem dX11_laySoonest_100 : decode cX11_laySoonest 100 = .ok (.aload_n 0, 1) := by decide +kernel
theorem dX11_laySoonest_101 : decode cX11_laySoonest 101 = .ok (.aload_n 0, 1) := by decide +kernel
theorem dX11_laySoonest_102 : decode cX11_laySoonest 102 = .ok (.getfield 110, 3) := by decide +kernel
theorem dX11_laySoonest_105 : decode cX11_laySoonest 105 = .ok (.putfield 147, 3) := by decide +kernel
theorem dX11_laySoonest_108 : decode cX11_laySoonest 108 = .ok (.aload_n 0, 1) := by decide +kernel
theorem dX11_laySoonest_109 : decode cX11_laySoonest 109 = .ok (.invokevirtual 159, 3) := by decide +kernel
theorem dX11_laySoonest_112 : decode cX11_laySoonest 112 = .ok (.goto (-86), 3) := by decide +kernel
theorem dX11_laySoonest_115 : decode cX11_laySoonest 115 = .ok (.return_, 1) := by decide +kernel
theorem dX11_soonest_0 : decode cX11_soonest 0 = .ok (.aload_n 0, 1) := by decide +kernel
theorem dX11_soonest_1 : decode cX11_soonest 1 = .ok (.iload_n 1, 1) := by decide +kernel
theorem dX11_soonest_2 : decode cX11_soonest 2 = .ok (.invokevirtual 75, 3) := by decide +kernel
theorem dX11_soonest_5 : decode cX11_soonest 5 = .ok (.ifCond .eq 31, 3) := by decide +kernel
theorem dX11_soonest_8 : decode cX11_soonest 8 = .ok (.aload_n 0, 1) := by decide +kernel
theorem dX11_soonest_9 : decode cX11_soonest 9 = .ok (.iload_n 2, 1) := by decide +kernel
theorem dX11_soonest_10 : decode cX11_soonest 10 = .ok (.invokevirtual 75, 3) := by decide +kernel
theorem dX11_soonest_13 : decode cX11_soonest 13 = .ok (.ifCond .eq 23, 3) := by decide +kernel
theorem dX11_soonest_16 : decode cX11_soonest 16 = .ok (.iload_n 3, 1) := by decide +kernel
theorem dX11_soonest_17 : decode cX11_soonest 17 = .ok (.invokestatic 99, 3) := by decide +kernel
theorem dX11_soonest_20 : decode cX11_soonest 20 = .ok (.ifCond .eq 16, 3) := by decide +kernel
theorem dX11_soonest_23 : decode cX11_soonest 23 = .ok (.iload 4, 2) := by decide +kernel
theorem dX11_soonest_25 : decode cX11_soonest 25 = .ok (.i2l, 1) := by decide +kernel
theorem dX11_soonest_26 : decode cX11_soonest 26 = .ok (.lconst 0, 1) := by decide +kernel
theorem dX11_soonest_27 : decode cX11_soonest 27 = .ok (.ldc2_w 91, 3) := by decide +kernel
theorem dX11_soonest_30 : decode cX11_soonest 30 = .ok (.invokestatic 56, 3) := by decide +kernel
theorem dX11_soonest_33 : decode cX11_soonest 33 = .ok (.ifCond .ne 10, 3) := by decide +kernel
theorem dX11_soonest_36 : decode cX11_soonest 36 = .ok (.aload_n 0, 1) := by decide +kernel
theorem dX11_soonest_37 : decode cX11_soonest 37 = .ok (.bipush (-2), 2) := by decide +kernel
theorem dX11_soonest_39 : decode cX11_soonest 39 = .ok (.invokevirtual 66, 3) := by decide +kernel
theorem dX11_soonest_42 : decode cX11_soonest 42 = .ok (.ireturn, 1) := by decide +kernel
theorem dX11_soonest_43 : decode cX11_soonest 43 = .ok (.aload_n 0, 1) := by decide +kernel
theorem dX11_soonest_44 : decode cX11_soonest 44 = .ok (.iload_n 1, 1) := by decide +kernel
theorem dX11_soonest_45 : decode cX11_soonest 45 = .ok (.iload_n 2, 1) := by decide +kernel
theorem dX11_soonest_46 : decode cX11_soonest 46 = .ok (.iload_n 3, 1) := by decide +kernel
theorem dX11_soonest_47 : decode cX11_soonest 47 = .ok (.iconst 0, 1) := by decide +kernel
theorem dX11_soonest_48 : decode cX11_soonest 48 = .ok (.invokevirtual 162, 3) := by decide +kernel
theorem dX11_soonest_51 : decode cX11_soonest 51 = .ok (.iload 4, 2) := by decide +kernel
theorem dX11_soonest_53 : decode cX11_soonest 53 = .ok (.ifCond .ne 10, 3) := by decide +kernel
theorem dX11_soonest_56 : decode cX11_soonest 56 = .ok (.aload_n 0, 1) := by decide +kernel
theorem dX11_soonest_57 : decode cX11_soonest 57 = .ok (.getfield 141, 3) := by decide +kernel
theorem dX11_soonest_60 : decode cX11_soonest 60 = .ok (.goto 20, 3) := by decide +kernel
theorem dX11_soonest_63 : decode cX11_soonest 63 = .ok (.iload 4, 2) := by decide +kernel
theorem dX11_soonest_65 : decode cX11_soonest 65 = .ok (.iconst 1, 1) := by decide +kernel
theorem dX11_soonest_66 : decode cX11_soonest 66 = .ok (.if_icmp .ne 10, 3) := by decide +kernel
theorem dX11_soonest_69 : decode cX11_soonest 69 = .ok (.aload_n 0, 1) := by decide +kernel
theorem dX11_soonest_70 : decode cX11_soonest 70 = .ok (.getfield 144, 3) := by decide +kernel
theorem dX11_soonest_73 : decode cX11_soonest 73 = .ok (.goto 7, 3) := by decide +kernel
theorem dX11_soonest_76 : decode cX11_soonest 76 = .ok (.aload_n 0, 1) := by decide +kernel
theorem dX11_soonest_77 : decode cX11_soonest 77 = .ok (.getfield 147, 3) := by decide +kernel
theorem dX11_soonest_80 : decode cX11_soonest 80 = .ok (.ireturn, 1) := by decide +kernel
theorem dX11_whole_0 : decode cX11_whole 0 = .ok (.aload_n 0, 1) := by decide +kernel
theorem dX11_whole_1 : decode cX11_whole 1 = .ok (.iload_n 1, 1) := by decide +kernel
theorem dX11_whole_2 : decode cX11_whole 2 = .ok (.invokevirtual 75, 3) := by decide +kernel
theorem dX11_whole_5 : decode cX11_whole 5 = .ok (.ifCond .eq 29, 3) := by decide +kernel
theorem dX11_whole_8 : decode cX11_whole 8 = .ok (.aload_n 0, 1) := by decide +kernel
theorem dX11_whole_9 : decode cX11_whole 9 = .ok (.iload_n 2, 1) := by decide +kernel
theorem dX11_whole_10 : decode cX11_whole 10 = .ok (.invokevirtual 75, 3) := by decide +kernel
theorem dX11_whole_13 : decode cX11_whole 13 = .ok (.ifCond .eq 21, 3) := by decide +kernel
theorem dX11_whole_16 : decode cX11_whole 16 = .ok (.iload_n 3, 1) := by decide +kernel
theorem dX11_whole_17 : decode cX11_whole 17 = .ok (.invokestatic 99, 3) := by decide +kernel
theorem dX11_whole_20 : decode cX11_whole 20 = .ok (.ifCond .eq 14, 3) := by decide +kernel
theorem dX11_whole_23 : decode cX11_whole 23 = .ok (.iload 4, 2) := by decide +kernel
theorem dX11_whole_25 : decode cX11_whole 25 = .ok (.i2l, 1) := by decide +kernel
theorem dX11_whole_26 : decode cX11_whole 26 = .ok (.lconst 0, 1) := by decide +kernel
theorem dX11_whole_27 : decode cX11_whole 27 = .ok (.lconst 1, 1) := by decide +kernel
theorem dX11_whole_28 : decode cX11_whole 28 = .ok (.invokestatic 56, 3) := by decide +kernel
theorem dX11_whole_31 : decode cX11_whole 31 = .ok (.ifCond .ne 10, 3) := by decide +kernel
theorem dX11_whole_34 : decode cX11_whole 34 = .ok (.aload_n 0, 1) := by decide +kernel
theorem dX11_whole_35 : decode cX11_whole 35 = .ok (.bipush (-2), 2) := by decide +kernel
theorem dX11_whole_37 : decode cX11_whole 37 = .ok (.invokevirtual 66, 3) := by decide +kernel
theorem dX11_whole_40 : decode cX11_whole 40 = .ok (.ireturn, 1) := by decide +kernel
theorem dX11_whole_41 : decode cX11_whole 41 = .ok (.aload_n 0, 1) := by decide +kernel
theorem dX11_whole_42 : decode cX11_whole 42 = .ok (.iload_n 1, 1) := by decide +kernel
theorem dX11_whole_43 : decode cX11_whole 43 = .ok (.iload_n 2, 1) := by decide +kernel
theorem dX11_whole_44 : decode cX11_whole 44 = .ok (.iload_n 3, 1) := by decide +kernel
theorem dX11_whole_45 : decode cX11_whole 45 = .ok (.iconst 1, 1) := by decide +kernel
theorem dX11_whole_46 : decode cX11_whole 46 = .ok (.invokevirtual 162, 3) := by decide +kernel
theorem dX11_whole_49 : decode cX11_whole 49 = .ok (.iload 4, 2) := by decide +kernel
theorem dX11_whole_51 : decode cX11_whole 51 = .ok (.ifCond .ne 10, 3) := by decide +kernel
theorem dX11_whole_54 : decode cX11_whole 54 = .ok (.aload_n 0, 1) := by decide +kernel
theorem dX11_whole_55 : decode cX11_whole 55 = .ok (.getfield 141, 3) := by decide +kernel
theorem dX11_whole_58 : decode cX11_whole 58 = .ok (.goto 7, 3) := by decide +kernel
theorem dX11_whole_61 : decode cX11_whole 61 = .ok (.aload_n 0, 1) := by decide +kernel
theorem dX11_whole_62 : decode cX11_whole 62 = .ok (.getfield 144, 3) := by decide +kernel
theorem dX11_whole_65 : decode cX11_whole 65 = .ok (.ireturn, 1) := by decide +kernel
theorem dX11_manyWays_0 : decode cX11_manyWays 0 = .ok (.iconst 0, 1) := by decide +kernel
theorem dX11_manyWays_1 : decode cX11_manyWays 1 = .ok (.istore 4, 2) := by decide +kernel
theorem dX11_manyWays_3 : decode cX11_manyWays 3 = .ok (.aload_n 0, 1) := by decide +kernel
theorem dX11_manyWays_4 : decode cX11_manyWays 4 = .ok (.iload_n 1, 1) := by decide +kernel
theorem dX11_manyWays_5 : decode cX11_manyWays 5 = .ok (.iload_n 3, 1) := by decide +kernel
theorem dX11_manyWays_6 : decode cX11_manyWays 6 = .ok (.invokevirtual 150, 3) := by decide +kernel
theorem dX11_manyWays_9 : decode cX11_manyWays 9 = .ok (.aload_n 0, 1) := by decide +kernel
theorem dX11_manyWays_10 : decode cX11_manyWays 10 = .ok (.getfield 117, 3) := by decide +kernel
theorem dX11_manyWays_13 : decode cX11_manyWays 13 = .ok (.ifCond .le 28, 3) := by decide +kernel
theorem dX11_manyWays_16 : decode cX11_manyWays 16 = .ok (.iload 4, 2) := by decide +kernel
theorem dX11_manyWays_18 : decode cX11_manyWays 18 = .ok (.aload_n 0, 1) := by decide +kernel
theorem dX11_manyWays_19 : decode cX11_manyWays 19 = .ok (.iload_n 2, 1) := by decide +kernel
theorem dX11_manyWays_20 : decode cX11_manyWays 20 = .ok (.invokevirtual 153, 3) := by decide +kernel
theorem dX11_manyWays_23 : decode cX11_manyWays 23 = .ok (.ifCond .eq 7, 3) := by decide +kernel
theorem dX11_manyWays_26 : decode cX11_manyWays 26 = .ok (.iconst 1, 1) := by decide +kernel
theorem dX11_manyWays_27 : decode cX11_manyWays 27 = .ok (.goto 4, 3) := by decide +kernel
theorem dX11_manyWays_30 : decode cX11_manyWays 30 = .ok (.iconst 0, 1) := by decide +kernel
theorem dX11_manyWays_31 : decode cX11_manyWays 31 = .ok (.iadd, 1) := by decide +kernel
theorem dX11_manyWays_32 : decode cX11_manyWays 32 = .ok (.istore 4, 2) := by decide +kernel
theorem dX11_manyWays_34 : decode cX11_manyWays 34 = .ok (.aload_n 0, 1) := by decide +kernel
theorem dX11_manyWays_35 : decode cX11_manyWays 35 = .ok (.invokevirtual 159, 3) := by decide +kernel
theorem dX11_manyWays_38 : decode cX11_manyWays 38 = .ok (.goto (-29), 3) := by decide +kernel
theorem dX11_manyWays_41 : decode cX11_manyWays 41 = .ok (.iload 4, 2) := by decide +kernel
theorem dX11_manyWays_43 : decode cX11_manyWays 43 = .ok (.ireturn, 1) := by decide +kernel
theorem dX11_isThereWay_0 : decode cX11_isThereWay 0 = .ok (.iconst 0, 1) := by decide +kernel
theorem dX11_isThereWay_1 : decode cX11_isThereWay 1 = .ok (.istore 4, 2) := by decide +kernel
theorem dX11_isThereWay_3 : decode cX11_isThereWay 3 = .ok (.aload_n 0, 1) := by decide +kernel
theorem dX11_isThereWay_4 : decode cX11_isThereWay 4 = .ok (.iload_n 1, 1) := by decide +kernel
theorem dX11_isThereWay_5 : decode cX11_isThereWay 5 = .ok (.iload_n 3, 1) := by decide +kernel
theorem dX11_isThereWay_6 : decode cX11_isThereWay 6 = .ok (.invokevirtual 150, 3) := by decide +kernel
theorem dX11_isThereWay_9 : decode cX11_isThereWay 9 = .ok (.aload_n 0, 1) := by decide +kernel
theorem dX11_isThereWay_10 : decode cX11_isThereWay 10 = .ok (.getfield 117, 3) := by decide +kernel
theorem dX11_isThereWay_13 : decode cX11_isThereWay 13 = .ok (.ifCond .le 22, 3) := by decide +kernel
theorem dX11_isThereWay_16 : decode cX11_isThereWay 16 = .ok (.iload 4, 2) := by decide +kernel
theorem dX11_isThereWay_18 : decode cX11_isThereWay 18 = .ok (.ifCond .ne 17, 3) := by decide +kernel
theorem dX11_isThereWay_21 : decode cX11_isThereWay 21 = .ok (.aload_n 0, 1) := by decide +kernel
theorem dX11_isThereWay_22 : decode cX11_isThereWay 22 = .ok (.iload_n 2, 1) := by decide +kernel
theorem dX11_isThereWay_23 : decode cX11_isThereWay 23 = .ok (.invokevirtual 153, 3) := by decide +kernel
theorem dX11_isThereWay_26 : decode cX11_isThereWay 26 = .ok (.istore 4, 2) := by decide +kernel
theorem dX11_isThereWay_28 : decode cX11_isThereWay 28 = .ok (.aload_n 0, 1) := by decide +kernel
theorem dX11_isThereWay_29 : decode cX11_isThereWay 29 = .ok (.invokevirtual 159, 3) := by decide +kernel
theorem dX11_isThereWay_32 : decode cX11_isThereWay 32 = .ok (.goto (-23), 3) := by decide +kernel
theorem dX11_isThereWay_35 : decode cX11_isThereWay 35 = .ok (.iload 4, 2) := by decide +kernel
theorem dX11_isThereWay_37 : decode cX11_isThereWay 37 = .ok (.ireturn, 1) := by decide +kernel
theorem dX11_ways_0 : decode cX11_ways 0 = .ok (.aload_n 0, 1) := by decide +kernel
theorem dX11_ways_1 : decode cX11_ways 1 = .ok (.iload_n 1, 1) := by decide +kernel
theorem dX11_ways_2 : decode cX11_ways 2 = .ok (.invokevirtual 75, 3) := by decide +kernel
theorem dX11_ways_5 : decode cX11_ways 5 = .ok (.ifCond .eq 26, 3) := by decide +kernel
theorem dX11_ways_8 : decode cX11_ways 8 = .ok (.aload_n 0, 1) := by decide +kernel
theorem dX11_ways_9 : decode cX11_ways 9 = .ok (.iload_n 2, 1) := by decide +kernel
theorem dX11_ways_10 : decode cX11_ways 10 = .ok (.invokevirtual 75, 3) := by decide +kernel
theorem dX11_ways_13 : decode cX11_ways 13 = .ok (.ifCond .eq 18, 3) := by decide +kernel
theorem dX11_ways_16 : decode cX11_ways 16 = .ok (.aload_n 0, 1) := by decide +kernel
theorem dX11_ways_17 : decode cX11_ways 17 = .ok (.iload_n 1, 1) := by decide +kernel
theorem dX11_ways_18 : decode cX11_ways 18 = .ok (.iload_n 2, 1) := by decide +kernel
theorem dX11_ways_19 : decode cX11_ways 19 = .ok (.aload_n 0, 1) := by decide +kernel
theorem dX11_ways_20 : decode cX11_ways 20 = .ok (.getfield 7, 3) := by decide +kernel
theorem dX11_ways_23 : decode cX11_ways 23 = .ok (.iconst 1, 1) := by decide +kernel
theorem dX11_ways_24 : decode cX11_ways 24 = .ok (.iaload, 1) := by decide +kernel
theorem dX11_ways_25 : decode cX11_ways 25 = .ok (.invokevirtual 166, 3) := by decide +kernel
theorem dX11_ways_28 : decode cX11_ways 28 = .ok (.goto 9, 3) := by decide +kernel
theorem dX11_ways_31 : decode cX11_ways 31 = .ok (.aload_n 0, 1) := by decide +kernel
theorem dX11_ways_32 : decode cX11_ways 32 = .ok (.bipush (-2), 2) := by decide +kernel
theorem dX11_ways_34 : decode cX11_ways 34 = .ok (.invokevirtual 66, 3) := by decide +kernel
theorem dX11_ways_37 : decode cX11_ways 37 = .ok (.ireturn, 1) := by decide +kernel
theorem dX11_put_0 : decode cX11_put 0 = .ok (.aload_n 0, 1) := by decide +kernel
theorem dX11_put_1 : decode cX11_put 1 = .ok (.iload_n 1, 1) := by decide +kernel
theorem dX11_put_2 : decode cX11_put 2 = .ok (.invokevirtual 75, 3) := by decide +kernel
theorem dX11_put_5 : decode cX11_put 5 = .ok (.ifCond .eq 29, 3) := by decide +kernel
theorem dX11_put_8 : decode cX11_put 8 = .ok (.aload_n 0, 1) := by decide +kernel
theorem dX11_put_9 : decode cX11_put 9 = .ok (.iload_n 2, 1) := by decide +kernel
theorem dX11_put_10 : decode cX11_put 10 = .ok (.invokevirtual 75, 3) := by decide +kernel
theorem dX11_put_13 : decode cX11_put 13 = .ok (.ifCond .eq 21, 3) := by decide +kernel
theorem dX11_put_16 : decode cX11_put 16 = .ok (.iload_n 3, 1) := by decide +kernel
theorem dX11_put_17 : decode cX11_put 17 = .ok (.invokestatic 99, 3) := by decide +kernel
theorem dX11_put_20 : decode cX11_put 20 = .ok (.ifCond .eq 14, 3) := by decide +kernel
theorem dX11_put_23 : decode cX11_put 23 = .ok (.iload 4, 2) := by decide +kernel
theorem dX11_put_25 : decode cX11_put 25 = .ok (.i2l, 1) := by decide +kernel
theorem dX11_put_26 : decode cX11_put 26 = .ok (.lconst 0, 1) := by decide +kernel
theorem dX11_put_27 : decode cX11_put 27 = .ok (.lconst 1, 1) := by decide +kernel
theorem dX11_put_28 : decode cX11_put 28 = .ok (.invokestatic 56, 3) := by decide +kernel
theorem dX11_put_31 : decode cX11_put 31 = .ok (.ifCond .ne 10, 3) := by decide +kernel
theorem dX11_put_34 : decode cX11_put 34 = .ok (.aload_n 0, 1) := by decide +kernel
theorem dX11_put_35 : decode cX11_put 35 = .ok (.bipush (-2), 2) := by decide +kernel
theorem dX11_put_37 : decode cX11_put 37 = .ok (.invokevirtual 66, 3) := by decide +kernel
theorem dX11_put_40 : decode cX11_put 40 = .ok (.ireturn, 1) := by decide +kernel
theorem dX11_put_41 : decode cX11_put 41 = .ok (.aload_n 0, 1) := by decide +kernel
theorem dX11_put_42 : decode cX11_put 42 = .ok (.iload_n 1, 1) := by decide +kernel
theorem dX11_put_43 : decode cX11_put 43 = .ok (.iload_n 2, 1) := by decide +kernel
theorem dX11_put_44 : decode cX11_put 44 = .ok (.iconst 0, 1) := by decide +kernel
theorem dX11_put_45 : decode cX11_put 45 = .ok (.iconst 0, 1) := by decide +kernel
theorem dX11_put_46 : decode cX11_put 46 = .ok (.invokevirtual 162, 3) := by decide +kernel
theorem dX11_put_49 : decode cX11_put 49 = .ok (.aload_n 0, 1) := by decide +kernel
theorem dX11_put_50 : decode cX11_put 50 = .ok (.aload_n 0, 1) := by decide +kernel
theorem dX11_put_51 : decode cX11_put 51 = .ok (.getfield 141, 3) := by decide +kernel
theorem dX11_put_54 : decode cX11_put 54 = .ok (.iconst (-1), 1) := by decide +kernel
theorem dX11_put_55 : decode cX11_put 55 = .ok (.if_icmp .ne 7, 3) := by decide +kernel
theorem dX11_put_58 : decode cX11_put 58 = .ok (.iconst 0, 1) := by decide +kernel
theorem dX11_put_59 : decode cX11_put 59 = .ok (.goto 7, 3) := by decide +kernel
theorem dX11_put_62 : decode cX11_put 62 = .ok (.aload_n 0, 1) := by decide +kernel
theorem dX11_put_63 : decode cX11_put 63 = .ok (.getfield 141, 3) := by decide +kernel
theorem dX11_put_66 : decode cX11_put 66 = .ok (.invokevirtual 124, 3) := by decide +kernel
theorem dX11_put_69 : decode cX11_put 69 = .ok (.ifCond .ne 5, 3) := by decide +kernel
theorem dX11_put_72 : decode cX11_put 72 = .ok (.iconst (-1), 1) := by decide +kernel
theorem dX11_put_73 : decode cX11_put 73 = .ok (.ireturn, 1) := by decide +kernel
theorem dX11_put_74 : decode cX11_put 74 = .ok (.iconst 0, 1) := by decide +kernel
theorem dX11_put_75 : decode cX11_put 75 = .ok (.istore 5, 2) := by decide +kernel
theorem dX11_put_77 : decode cX11_put 77 = .ok (.iconst (-1), 1) := by decide +kernel
theorem dX11_put_78 : decode cX11_put 78 = .ok (.istore 6, 2) := by decide +kernel
theorem dX11_put_80 : decode cX11_put 80 = .ok (.iconst 0, 1) := by decide +kernel
theorem dX11_put_81 : decode cX11_put 81 = .ok (.istore 7, 2) := by decide +kernel
theorem dX11_put_83 : decode cX11_put 83 = .ok (.iload 7, 2) := by decide +kernel
theorem dX11_put_85 : decode cX11_put 85 = .ok (.sipush 444, 3) := by decide +kernel
theorem dX11_put_88 : decode cX11_put 88 = .ok (.if_icmp .gt 69, 3) := by decide +kernel
theorem dX11_put_91 : decode cX11_put 91 = .ok (.iload 7, 2) := by decide +kernel
theorem dX11_put_93 : decode cX11_put 93 = .ok (.invokestatic 99, 3) := by decide +kernel
theorem dX11_put_96 : decode cX11_put 96 = .ok (.ifCond .eq 55, 3) := by decide +kernel
theorem dX11_put_99 : decode cX11_put 99 = .ok (.aload_n 0, 1) := by decide +kernel
theorem dX11_put_100 : decode cX11_put 100 = .ok (.iload 7, 2) := by decide +kernel
theorem dX11_put_102 : decode cX11_put 102 = .ok (.aload_n 0, 1) := by decide +kernel
theorem dX11_put_103 : decode cX11_put 103 = .ok (.getfield 7, 3) := by decide +kernel
theorem dX11_put_106 : decode cX11_put 106 = .ok (.iconst 2, 1) := by decide +kernel
theorem dX11_put_107 : decode cX11_put 107 = .ok (.iaload, 1) := by decide +kernel
theorem dX11_put_108 : decode cX11_put 108 = .ok (.invokevirtual 127, 3) := by decide +kernel
theorem dX11_put_111 : decode cX11_put 111 = .ok (.aload_n 0, 1) := by decide +kernel
theorem dX11_put_112 : decode cX11_put 112 = .ok (.getfield 110, 3) := by decide +kernel
theorem dX11_put_115 : decode cX11_put 115 = .ok (.iload_n 3, 1) := by decide +kernel
theorem dX11_put_116 : decode cX11_put 116 = .ok (.if_icmp .ne 13, 3) := by decide +kernel
theorem dX11_put_119 : decode cX11_put 119 = .ok (.iload 5, 2) := by decide +kernel
theorem dX11_put_121 : decode cX11_put 121 = .ok (.ifCond .ne 8, 3) := by decide +kernel
theorem dX11_put_124 : decode cX11_put 124 = .ok (.iload 7, 2) := by decide +kernel
theorem dX11_put_126 : decode cX11_put 126 = .ok (.goto 5, 3) := by decide +kernel
theorem dX11_put_129 : decode cX11_put 129 = .ok (.iload 6, 2) := by decide +kernel
theorem dX11_put_131 : decode cX11_put 131 = .ok (.istore 6, 2) := by decide +kernel
theorem dX11_put_133 : decode cX11_put 133 = .ok (.iload 5, 2) := by decide +kernel
theorem dX11_put_135 : decode cX11_put 135 = .ok (.aload_n 0, 1) := by decide +kernel
theorem dX11_put_136 : decode cX11_put 136 = .ok (.getfield 110, 3) := by decide +kernel
theorem dX11_put_139 : decode cX11_put 139 = .ok (.iload_n 3, 1) := by decide +kernel
theorem dX11_put_140 : decode cX11_put 140 = .ok (.if_icmp .ne 7, 3) := by decide +kernel
theorem dX11_put_143 : decode cX11_put 143 = .ok (.iconst 1, 1) := by decide +kernel
theorem dX11_put_144 : decode cX11_put 144 = .ok (.goto 4, 3) := by decide +kernel
theorem dX11_put_147 : decode cX11_put 147 = .ok (.iconst 0, 1) := by decide +kernel
theorem dX11_put_148 : decode cX11_put 148 = .ok (.iadd, 1) := by decide +kernel
theorem dX11_put_149 : decode cX11_put 149 = .ok (.istore 5, 2) := by decide +kernel
theorem dX11_put_151 : decode cX11_put 151 = .ok (.iinc 7 1, 3) := by decide +kernel
theorem dX11_put_154 : decode cX11_put 154 = .ok (.goto (-71), 3) := by decide +kernel
theorem dX11_put_157 : decode cX11_put 157 = .ok (.iload 4, 2) := by decide +kernel
theorem dX11_put_159 : decode cX11_put 159 = .ok (.ifCond .ne 8, 3) := by decide +kernel
theorem dX11_put_162 : decode cX11_put 162 = .ok (.iload 5, 2) := by decide +kernel
theorem dX11_put_164 : decode cX11_put 164 = .ok (.goto 5, 3) := by decide +kernel
theorem dX11_put_167 : decode cX11_put 167 = .ok (.iload 6, 2) := by decide +kernel
theorem dX11_put_169 : decode cX11_put 169 = .ok (.ireturn, 1) := by decide +kernel
theorem dX11_signs_0 : decode cX11_signs 0 = .ok (.iconst 0, 1) := by decide +kernel
theorem dX11_signs_1 : decode cX11_signs 1 = .ok (.istore_n 1, 1) := by decide +kernel
theorem dX11_signs_2 : decode cX11_signs 2 = .ok (.iload_n 0, 1) := by decide +kernel
theorem dX11_signs_3 : decode cX11_signs 3 = .ok (.istore_n 2, 1) := by decide +kernel
theorem dX11_signs_4 : decode cX11_signs 4 = .ok (.iload_n 2, 1) := by decide +kernel
theorem dX11_signs_5 : decode cX11_signs 5 = .ok (.ifCond .le 14, 3) := by decide +kernel
theorem dX11_signs_8 : decode cX11_signs 8 = .ok (.iinc 1 1, 3) := by decide +kernel
theorem dX11_signs_11 : decode cX11_signs 11 = .ok (.iload_n 2, 1) := by decide +kernel
theorem dX11_signs_12 : decode cX11_signs 12 = .ok (.bipush 10, 2) := by decide +kernel
theorem dX11_signs_14 : decode cX11_signs 14 = .ok (.idiv, 1) := by decide +kernel
theorem dX11_signs_15 : decode cX11_signs 15 = .ok (.istore_n 2, 1) := by decide +kernel
theorem dX11_signs_16 : decode cX11_signs 16 = .ok (.goto (-12), 3) := by decide +kernel
theorem dX11_signs_19 : decode cX11_signs 19 = .ok (.iload_n 1, 1) := by decide +kernel
theorem dX11_signs_20 : decode cX11_signs 20 = .ok (.ireturn, 1) := by decide +kernel
theorem dX11_power_0 : decode cX11_power 0 = .ok (.iconst 1, 1) := by decide +kernel
theorem dX11_power_1 : decode cX11_power 1 = .ok (.istore_n 1, 1) := by decide +kernel
theorem dX11_power_2 : decode cX11_power 2 = .ok (.iconst 0, 1) := by decide +kernel
theorem dX11_power_3 : decode cX11_power 3 = .ok (.istore_n 2, 1) := by decide +kernel
theorem dX11_power_4 : decode cX11_power 4 = .ok (.iload_n 2, 1) := by decide +kernel
theorem dX11_power_5 : decode cX11_power 5 = .ok (.iload_n 0, 1) := by decide +kernel
theorem dX11_power_6 : decode cX11_power 6 = .ok (.if_icmp .ge 14, 3) := by decide +kernel
theorem dX11_power_9 : decode cX11_power 9 = .ok (.iload_n 1, 1) := by decide +kernel
theorem dX11_power_10 : decode cX11_power 10 = .ok (.bipush 10, 2) := by decide +kernel
theorem dX11_power_12 : decode cX11_power 12 = .ok (.imul, 1) := by decide +kernel
theorem dX11_power_13 : decode cX11_power 13 = .ok (.istore_n 1, 1) := by decide +kernel
theorem dX11_power_14 : decode cX11_power 14 = .ok (.iinc 2 1, 3) := by decide +kernel
theorem dX11_power_17 : decode cX11_power 17 = .ok (.goto (-13), 3) := by decide +kernel
theorem dX11_power_20 : decode cX11_power 20 = .ok (.iload_n 1, 1) := by decide +kernel
theorem dX11_power_21 : decode cX11_power 21 = .ok (.ireturn, 1) := by decide +kernel
theorem dX11_signAt_0 : decode cX11_signAt 0 = .ok (.iload_n 1, 1) := by decide +kernel
theorem dX11_signAt_1 : decode cX11_signAt 1 = .ok (.iload_n 0, 1) := by decide +kernel
theorem dX11_signAt_2 : decode cX11_signAt 2 = .ok (.invokestatic 169, 3) := by decide +kernel
theorem dX11_signAt_5 : decode cX11_signAt 5 = .ok (.if_icmp .ge 22, 3) := by decide +kernel
theorem dX11_signAt_8 : decode cX11_signAt 8 = .ok (.iload_n 0, 1) := by decide +kernel
theorem dX11_signAt_9 : decode cX11_signAt 9 = .ok (.iload_n 0, 1) := by decide +kernel
theorem dX11_signAt_10 : decode cX11_signAt 10 = .ok (.invokestatic 169, 3) := by decide +kernel
theorem dX11_signAt_13 : decode cX11_signAt 13 = .ok (.iconst 1, 1) := by decide +kernel
theorem dX11_signAt_14 : decode cX11_signAt 14 = .ok (.isub, 1) := by decide +kernel
theorem dX11_signAt_15 : decode cX11_signAt 15 = .ok (.iload_n 1, 1) := by decide +kernel
theorem dX11_signAt_16 : decode cX11_signAt 16 = .ok (.isub, 1) := by decide +kernel
theorem dX11_signAt_17 : decode cX11_signAt 17 = .ok (.invokestatic 172, 3) := by decide +kernel
theorem dX11_signAt_20 : decode cX11_signAt 20 = .ok (.idiv, 1) := by decide +kernel
theorem dX11_signAt_21 : decode cX11_signAt 21 = .ok (.bipush 10, 2) := by decide +kernel
theorem dX11_signAt_23 : decode cX11_signAt 23 = .ok (.irem, 1) := by decide +kernel
theorem dX11_signAt_24 : decode cX11_signAt 24 = .ok (.goto 4, 3) := by decide +kernel
theorem dX11_signAt_27 : decode cX11_signAt 27 = .ok (.iconst 0, 1) := by decide +kernel
theorem dX11_signAt_28 : decode cX11_signAt 28 = .ok (.ireturn, 1) := by decide +kernel
theorem dX11_meet_0 : decode cX11_meet 0 = .ok (.iload_n 1, 1) := by decide +kernel
theorem dX11_meet_1 : decode cX11_meet 1 = .ok (.invokestatic 99, 3) := by decide +kernel
theorem dX11_meet_4 : decode cX11_meet 4 = .ok (.ifCond .eq 10, 3) := by decide +kernel
theorem dX11_meet_7 : decode cX11_meet 7 = .ok (.iload_n 2, 1) := by decide +kernel
theorem dX11_meet_8 : decode cX11_meet 8 = .ok (.invokestatic 99, 3) := by decide +kernel
theorem dX11_meet_11 : decode cX11_meet 11 = .ok (.ifCond .ne 10, 3) := by decide +kernel
theorem dX11_meet_14 : decode cX11_meet 14 = .ok (.aload_n 0, 1) := by decide +kernel
theorem dX11_meet_15 : decode cX11_meet 15 = .ok (.bipush (-2), 2) := by decide +kernel
theorem dX11_meet_17 : decode cX11_meet 17 = .ok (.invokevirtual 66, 3) := by decide +kernel
theorem dX11_meet_20 : decode cX11_meet 20 = .ok (.ireturn, 1) := by decide +kernel
theorem dX11_meet_21 : decode cX11_meet 21 = .ok (.iconst 0, 1) := by decide +kernel
theorem dX11_meet_22 : decode cX11_meet 22 = .ok (.istore_n 3, 1) := by decide +kernel
theorem dX11_meet_23 : decode cX11_meet 23 = .ok (.iconst 0, 1) := by decide +kernel
theorem dX11_meet_24 : decode cX11_meet 24 = .ok (.istore 4, 2) := by decide +kernel
theorem dX11_meet_26 : decode cX11_meet 26 = .ok (.iload 4, 2) := by decide +kernel
theorem dX11_meet_28 : decode cX11_meet 28 = .ok (.bipush 6, 2) := by decide +kernel
theorem dX11_meet_30 : decode cX11_meet 30 = .ok (.if_icmp .ge 82, 3) := by decide +kernel
theorem dX11_meet_33 : decode cX11_meet 33 = .ok (.iload_n 1, 1) := by decide +kernel
theorem dX11_meet_34 : decode cX11_meet 34 = .ok (.iload 4, 2) := by decide +kernel
theorem dX11_meet_36 : decode cX11_meet 36 = .ok (.invokestatic 175, 3) := by decide +kernel
theorem dX11_meet_39 : decode cX11_meet 39 = .ok (.istore 5, 2) := by decide +kernel
theorem dX11_meet_41 : decode cX11_meet 41 = .ok (.iload_n 2, 1) := by decide +kernel
theorem dX11_meet_42 : decode cX11_meet 42 = .ok (.iload 4, 2) := by decide +kernel
theorem dX11_meet_44 : decode cX11_meet 44 = .ok (.invokestatic 175, 3) := by decide +kernel
theorem dX11_meet_47 : decode cX11_meet 47 = .ok (.istore 6, 2) := by decide +kernel
theorem dX11_meet_49 : decode cX11_meet 49 = .ok (.iload 5, 2) := by decide +kernel
theorem dX11_meet_51 : decode cX11_meet 51 = .ok (.ifCond .eq 8, 3) := by decide +kernel
theorem dX11_meet_54 : decode cX11_meet 54 = .ok (.iload 6, 2) := by decide +kernel
theorem dX11_meet_56 : decode cX11_meet 56 = .ok (.ifCond .ne 11, 3) := by decide +kernel
theorem dX11_meet_59 : decode cX11_meet 59 = .ok (.iload 5, 2) := by decide +kernel
theorem dX11_meet_61 : decode cX11_meet 61 = .ok (.iload 6, 2) := by decide +kernel
theorem dX11_meet_63 : decode cX11_meet 63 = .ok (.iadd, 1) := by decide +kernel
theorem dX11_meet_64 : decode cX11_meet 64 = .ok (.goto 10, 3) := by decide +kernel
theorem dX11_meet_67 : decode cX11_meet 67 = .ok (.iload 5, 2) := by decide +kernel
theorem dX11_meet_69 : decode cX11_meet 69 = .ok (.iload 6, 2) := by decide +kernel
theorem dX11_meet_71 : decode cX11_meet 71 = .ok (.iadd, 1) := by decide +kernel
theorem dX11_meet_72 : decode cX11_meet 72 = .ok (.iconst 1, 1) := by decide +kernel
theorem dX11_meet_73 : decode cX11_meet 73 = .ok (.isub, 1) := by decide +kernel
theorem dX11_meet_74 : decode cX11_meet 74 = .ok (.istore 7, 2) := by decide +kernel
theorem dX11_meet_76 : decode cX11_meet 76 = .ok (.iload 7, 2) := by decide +kernel
theorem dX11_meet_78 : decode cX11_meet 78 = .ok (.ifCond .ne 7, 3) := by decide +kernel
theorem dX11_meet_81 : decode cX11_meet 81 = .ok (.iload_n 3, 1) := by decide +kernel
theorem dX11_meet_82 : decode cX11_meet 82 = .ok (.goto 23, 3) := by decide +kernel
theorem dX11_meet_85 : decode cX11_meet 85 = .ok (.bipush 10, 2) := by decide +kernel
theorem dX11_meet_87 : decode cX11_meet 87 = .ok (.iload_n 3, 1) := by decide +kernel
theorem dX11_meet_88 : decode cX11_meet 88 = .ok (.imul, 1) := by decide +kernel
theorem dX11_meet_89 : decode cX11_meet 89 = .ok (.iload 7, 2) := by decide +kernel
theorem dX11_meet_91 : decode cX11_meet 91 = .ok (.iconst 4, 1) := by decide +kernel
theorem dX11_meet_92 : decode cX11_meet 92 = .ok (.if_icmp .le 10, 3) := by decide +kernel
theorem dX11_meet_95 : decode cX11_meet 95 = .ok (.iload 7, 2) := by decide +kernel
theorem dX11_meet_97 : decode cX11_meet 97 = .ok (.iconst 4, 1) := by decide +kernel
theorem dX11_meet_98 : decode cX11_meet 98 = .ok (.isub, 1) := by decide +kernel
theorem dX11_meet_99 : decode cX11_meet 99 = .ok (.goto 5, 3) := by decide +kernel
theorem dX11_meet_102 : decode cX11_meet 102 = .ok (.iload 7, 2) := by decide +kernel
theorem dX11_meet_104 : decode cX11_meet 104 = .ok (.iadd, 1) := by decide +kernel
theorem dX11_meet_105 : decode cX11_meet 105 = .ok (.istore_n 3, 1) := by decide +kernel
theorem dX11_meet_106 : decode cX11_meet 106 = .ok (.iinc 4 1, 3) := by decide +kernel
theorem dX11_meet_109 : decode cX11_meet 109 = .ok (.goto (-83), 3) := by decide +kernel
theorem dX11_meet_112 : decode cX11_meet 112 = .ok (.iload_n 3, 1) := by decide +kernel
theorem dX11_meet_113 : decode cX11_meet 113 = .ok (.ireturn, 1) := by decide +kernel
theorem dX11_apart_0 : decode cX11_apart 0 = .ok (.aload_n 0, 1) := by decide +kernel
theorem dX11_apart_1 : decode cX11_apart 1 = .ok (.iload_n 1, 1) := by decide +kernel
theorem dX11_apart_2 : decode cX11_apart 2 = .ok (.invokevirtual 75, 3) := by decide +kernel
theorem dX11_apart_5 : decode cX11_apart 5 = .ok (.ifCond .eq 11, 3) := by decide +kernel
theorem dX11_apart_8 : decode cX11_apart 8 = .ok (.aload_n 0, 1) := by decide +kernel
theorem dX11_apart_9 : decode cX11_apart 9 = .ok (.iload_n 2, 1) := by decide +kernel
theorem dX11_apart_10 : decode cX11_apart 10 = .ok (.invokevirtual 75, 3) := by decide +kernel
theorem dX11_apart_13 : decode cX11_apart 13 = .ok (.ifCond .ne 10, 3) := by decide +kernel
theorem dX11_apart_16 : decode cX11_apart 16 = .ok (.aload_n 0, 1) := by decide +kernel
theorem dX11_apart_17 : decode cX11_apart 17 = .ok (.bipush (-2), 2) := by decide +kernel
theorem dX11_apart_19 : decode cX11_apart 19 = .ok (.invokevirtual 66, 3) := by decide +kernel
theorem dX11_apart_22 : decode cX11_apart 22 = .ok (.ireturn, 1) := by decide +kernel
theorem dX11_apart_23 : decode cX11_apart 23 = .ok (.iconst (-1), 1) := by decide +kernel
theorem dX11_apart_24 : decode cX11_apart 24 = .ok (.istore_n 3, 1) := by decide +kernel
theorem dX11_apart_25 : decode cX11_apart 25 = .ok (.iconst 0, 1) := by decide +kernel
theorem dX11_apart_26 : decode cX11_apart 26 = .ok (.istore 4, 2) := by decide +kernel
theorem dX11_apart_28 : decode cX11_apart 28 = .ok (.iload 4, 2) := by decide +kernel
theorem dX11_apart_30 : decode cX11_apart 30 = .ok (.iconst 1, 1) := by decide +kernel
theorem dX11_apart_31 : decode cX11_apart 31 = .ok (.aload_n 0, 1) := by decide +kernel
theorem dX11_apart_32 : decode cX11_apart 32 = .ok (.invokevirtual 52, 3) := by decide +kernel
theorem dX11_apart_35 : decode cX11_apart 35 = .ok (.ishl, 1) := by decide +kernel
theorem dX11_apart_36 : decode cX11_apart 36 = .ok (.if_icmp .ge 105, 3) := by decide +kernel
theorem dX11_apart_39 : decode cX11_apart 39 = .ok (.iload 4, 2) := by decide +kernel
theorem dX11_apart_41 : decode cX11_apart 41 = .ok (.iload_n 1, 1) := by decide +kernel
theorem dX11_apart_42 : decode cX11_apart 42 = .ok (.invokestatic 120, 3) := by decide +kernel
theorem dX11_apart_45 : decode cX11_apart 45 = .ok (.ifCond .ne 28, 3) := by decide +kernel
theorem dX11_apart_48 : decode cX11_apart 48 = .ok (.iload 4, 2) := by decide +kernel
theorem dX11_apart_50 : decode cX11_apart 50 = .ok (.iload_n 2, 1) := by decide +kernel
theorem dX11_apart_51 : decode cX11_apart 51 = .ok (.invokestatic 120, 3) := by decide +kernel
theorem dX11_apart_54 : decode cX11_apart 54 = .ok (.ifCond .ne 19, 3) := by decide +kernel
theorem dX11_apart_57 : decode cX11_apart 57 = .ok (.iload 4, 2) := by decide +kernel
theorem dX11_apart_59 : decode cX11_apart 59 = .ok (.aload_n 0, 1) := by decide +kernel
theorem dX11_apart_60 : decode cX11_apart 60 = .ok (.getfield 7, 3) := by decide +kernel
theorem dX11_apart_63 : decode cX11_apart 63 = .ok (.iconst 1, 1) := by decide +kernel
theorem dX11_apart_64 : decode cX11_apart 64 = .ok (.iaload, 1) := by decide +kernel
theorem dX11_apart_65 : decode cX11_apart 65 = .ok (.iand, 1) := by decide +kernel
theorem dX11_apart_66 : decode cX11_apart 66 = .ok (.ifCond .ne 7, 3) := by decide +kernel
theorem dX11_apart_69 : decode cX11_apart 69 = .ok (.iconst 1, 1) := by decide +kernel
theorem dX11_apart_70 : decode cX11_apart 70 = .ok (.goto 4, 3) := by decide +kernel
theorem dX11_apart_73 : decode cX11_apart 73 = .ok (.iconst 0, 1) := by decide +kernel
theorem dX11_apart_74 : decode cX11_apart 74 = .ok (.istore 5, 2) := by decide +kernel
theorem dX11_apart_76 : decode cX11_apart 76 = .ok (.iload_n 3, 1) := by decide +kernel
theorem dX11_apart_77 : decode cX11_apart 77 = .ok (.iconst (-1), 1) := by decide +kernel
theorem dX11_apart_78 : decode cX11_apart 78 = .ok (.if_icmp .eq 15, 3) := by decide +kernel
theorem dX11_apart_81 : decode cX11_apart 81 = .ok (.iload 4, 2) := by decide +kernel
theorem dX11_apart_83 : decode cX11_apart 83 = .ok (.invokestatic 178, 3) := by decide +kernel
theorem dX11_apart_86 : decode cX11_apart 86 = .ok (.iload_n 3, 1) := by decide +kernel
theorem dX11_apart_87 : decode cX11_apart 87 = .ok (.invokestatic 178, 3) := by decide +kernel
theorem dX11_apart_90 : decode cX11_apart 90 = .ok (.if_icmp .ge 7, 3) := by decide +kernel
theorem dX11_apart_93 : decode cX11_apart 93 = .ok (.iconst 1, 1) := by decide +kernel
theorem dX11_apart_94 : decode cX11_apart 94 = .ok (.goto 4, 3) := by decide +kernel
theorem dX11_apart_97 : decode cX11_apart 97 = .ok (.iconst 0, 1) := by decide +kernel
theorem dX11_apart_98 : decode cX11_apart 98 = .ok (.istore 6, 2) := by decide +kernel
theorem dX11_apart_100 : decode cX11_apart 100 = .ok (.iload 5, 2) := by decide +kernel
theorem dX11_apart_102 : decode cX11_apart 102 = .ok (.ifCond .eq 31, 3) := by decide +kernel
theorem dX11_apart_105 : decode cX11_apart 105 = .ok (.iload 6, 2) := by decide +kernel
theorem dX11_apart_107 : decode cX11_apart 107 = .ok (.ifCond .eq 26, 3) := by decide +kernel
theorem dX11_apart_110 : decode cX11_apart 110 = .ok (.aload_n 0, 1) := by decide +kernel
theorem dX11_apart_111 : decode cX11_apart 111 = .ok (.iload_n 1, 1) := by decide +kernel
theorem dX11_apart_112 : decode cX11_apart 112 = .ok (.iload_n 2, 1) := by decide +kernel
theorem dX11_apart_113 : decode cX11_apart 113 = .ok (.aload_n 0, 1) := by decide +kernel
theorem dX11_apart_114 : decode cX11_apart 114 = .ok (.getfield 7, 3) := by decide +kernel
theorem dX11_apart_117 : decode cX11_apart 117 = .ok (.iconst 1, 1) := by decide +kernel
theorem dX11_apart_118 : decode cX11_apart 118 = .ok (.iaload, 1) := by decide +kernel
theorem dX11_apart_119 : decode cX11_apart 119 = .ok (.iload 4, 2) := by decide +kernel
theorem dX11_apart_121 : decode cX11_apart 121 = .ok (.ior, 1) := by decide +kernel
theorem dX11_apart_122 : decode cX11_apart 122 = .ok (.invokevirtual 181, 3) := by decide +kernel
theorem dX11_apart_125 : decode cX11_apart 125 = .ok (.ifCond .ne 8, 3) := by decide +kernel
theorem dX11_apart_128 : decode cX11_apart 128 = .ok (.iload 4, 2) := by decide +kernel
theorem dX11_apart_130 : decode cX11_apart 130 = .ok (.goto 4, 3) := by decide +kernel
theorem dX11_apart_133 : decode cX11_apart 133 = .ok (.iload_n 3, 1) := by decide +kernel
theorem dX11_apart_134 : decode cX11_apart 134 = .ok (.istore_n 3, 1) := by decide +kernel
theorem dX11_apart_135 : decode cX11_apart 135 = .ok (.iinc 4 1, 3) := by decide +kernel
theorem dX11_apart_138 : decode cX11_apart 138 = .ok (.goto (-110), 3) := by decide +kernel
theorem dX11_apart_141 : decode cX11_apart 141 = .ok (.iload_n 3, 1) := by decide +kernel
theorem dX11_apart_142 : decode cX11_apart 142 = .ok (.ireturn, 1) := by decide +kernel
theorem dX11_most_0 : decode cX11_most 0 = .ok (.iconst 0, 1) := by decide +kernel
theorem dX11_most_1 : decode cX11_most 1 = .ok (.istore_n 1, 1) := by decide +kernel
theorem dX11_most_2 : decode cX11_most 2 = .ok (.iload_n 1, 1) := by decide +kernel
theorem dX11_most_3 : decode cX11_most 3 = .ok (.aload_n 0, 1) := by decide +kernel
theorem dX11_most_4 : decode cX11_most 4 = .ok (.invokevirtual 52, 3) := by decide +kernel
theorem dX11_most_7 : decode cX11_most 7 = .ok (.if_icmp .ge 16, 3) := by decide +kernel
theorem dX11_most_10 : decode cX11_most 10 = .ok (.aload_n 0, 1) := by decide +kernel
theorem dX11_most_11 : decode cX11_most 11 = .ok (.getfield 30, 3) := by decide +kernel
theorem dX11_most_14 : decode cX11_most 14 = .ok (.iload_n 1, 1) := by decide +kernel
theorem dX11_most_15 : decode cX11_most 15 = .ok (.iconst 0, 1) := by decide +kernel
theorem dX11_most_16 : decode cX11_most 16 = .ok (.iastore, 1) := by decide +kernel
theorem dX11_most_17 : decode cX11_most 17 = .ok (.iinc 1 1, 3) := by decide +kernel
theorem dX11_most_20 : decode cX11_most 20 = .ok (.goto (-18), 3) := by decide +kernel
theorem dX11_most_23 : decode cX11_most 23 = .ok (.iconst 0, 1) := by decide +kernel
theorem dX11_most_24 : decode cX11_most 24 = .ok (.istore_n 1, 1) := by decide +kernel
theorem dX11_most_25 : decode cX11_most 25 = .ok (.iload_n 1, 1) := by decide +kernel
theorem dX11_most_26 : decode cX11_most 26 = .ok (.aload_n 0, 1) := by decide +kernel
theorem dX11_most_27 : decode cX11_most 27 = .ok (.invokevirtual 52, 3) := by decide +kernel
theorem dX11_most_30 : decode cX11_most 30 = .ok (.if_icmp .ge 73, 3) := by decide +kernel
theorem dX11_most_33 : decode cX11_most 33 = .ok (.aload_n 0, 1) := by decide +kernel
theorem dX11_most_34 : decode cX11_most 34 = .ok (.iload_n 1, 1) := by decide +kernel
theorem dX11_most_35 : decode cX11_most 35 = .ok (.aload_n 0, 1) := by decide +kernel
theorem dX11_most_36 : decode cX11_most 36 = .ok (.getfield 7, 3) := by decide +kernel
theorem dX11_most_39 : decode cX11_most 39 = .ok (.iconst 1, 1) := by decide +kernel
theorem dX11_most_40 : decode cX11_most 40 = .ok (.iaload, 1) := by decide +kernel
theorem dX11_most_41 : decode cX11_most 41 = .ok (.invokevirtual 150, 3) := by decide +kernel
theorem dX11_most_44 : decode cX11_most 44 = .ok (.aload_n 0, 1) := by decide +kernel
theorem dX11_most_45 : decode cX11_most 45 = .ok (.getfield 117, 3) := by decide +kernel
theorem dX11_most_48 : decode cX11_most 48 = .ok (.ifCond .le 49, 3) := by decide +kernel
theorem dX11_most_51 : decode cX11_most 51 = .ok (.iconst 0, 1) := by decide +kernel
theorem dX11_most_52 : decode cX11_most 52 = .ok (.istore_n 2, 1) := by decide +kernel
theorem dX11_most_53 : decode cX11_most 53 = .ok (.iload_n 2, 1) := by decide +kernel
theorem dX11_most_54 : decode cX11_most 54 = .ok (.aload_n 0, 1) := by decide +kernel
theorem dX11_most_55 : decode cX11_most 55 = .ok (.getfield 117, 3) := by decide +kernel
theorem dX11_most_58 : decode cX11_most 58 = .ok (.if_icmp .ge 32, 3) := by decide +kernel
theorem dX11_most_61 : decode cX11_most 61 = .ok (.aload_n 0, 1) := by decide +kernel
theorem dX11_most_62 : decode cX11_most 62 = .ok (.getfield 117, 3) := by decide +kernel
theorem dX11_most_65 : decode cX11_most 65 = .ok (.iconst 1, 1) := by decide +kernel
theorem dX11_most_66 : decode cX11_most 66 = .ok (.if_icmp .le 24, 3) := by decide +kernel
theorem dX11_most_69 : decode cX11_most 69 = .ok (.aload_n 0, 1) := by decide +kernel
theorem dX11_most_70 : decode cX11_most 70 = .ok (.getfield 30, 3) := by decide +kernel
theorem dX11_most_73 : decode cX11_most 73 = .ok (.aload_n 0, 1) := by decide +kernel
theorem dX11_most_74 : decode cX11_most 74 = .ok (.getfield 27, 3) := by decide +kernel
theorem dX11_most_77 : decode cX11_most 77 = .ok (.iload_n 2, 1) := by decide +kernel
theorem dX11_most_78 : decode cX11_most 78 = .ok (.iaload, 1) := by decide +kernel
theorem dX11_most_79 : decode cX11_most 79 = .ok (.dup2, 1) := by decide +kernel
theorem dX11_most_80 : decode cX11_most 80 = .ok (.iaload, 1) := by decide +kernel
theorem dX11_most_81 : decode cX11_most 81 = .ok (.iconst 1, 1) := by decide +kernel
theorem dX11_most_82 : decode cX11_most 82 = .ok (.iadd, 1) := by decide +kernel
theorem dX11_most_83 : decode cX11_most 83 = .ok (.iastore, 1) := by decide +kernel
theorem dX11_most_84 : decode cX11_most 84 = .ok (.iinc 2 1, 3) := by decide +kernel
theorem dX11_most_87 : decode cX11_most 87 = .ok (.goto (-34), 3) := by decide +kernel
theorem dX11_most_90 : decode cX11_most 90 = .ok (.aload_n 0, 1) := by decide +kernel
theorem dX11_most_91 : decode cX11_most 91 = .ok (.invokevirtual 159, 3) := by decide +kernel
theorem dX11_most_94 : decode cX11_most 94 = .ok (.goto (-50), 3) := by decide +kernel
theorem dX11_most_97 : decode cX11_most 97 = .ok (.iinc 1 1, 3) := by decide +kernel
theorem dX11_most_100 : decode cX11_most 100 = .ok (.goto (-75), 3) := by decide +kernel
theorem dX11_most_103 : decode cX11_most 103 = .ok (.iconst (-1), 1) := by decide +kernel
theorem dX11_most_104 : decode cX11_most 104 = .ok (.istore_n 1, 1) := by decide +kernel
theorem dX11_most_105 : decode cX11_most 105 = .ok (.iconst 0, 1) := by decide +kernel
theorem dX11_most_106 : decode cX11_most 106 = .ok (.istore_n 2, 1) := by decide +kernel
theorem dX11_most_107 : decode cX11_most 107 = .ok (.iload_n 2, 1) := by decide +kernel
theorem dX11_most_108 : decode cX11_most 108 = .ok (.aload_n 0, 1) := by decide +kernel
theorem dX11_most_109 : decode cX11_most 109 = .ok (.invokevirtual 52, 3) := by decide +kernel
theorem dX11_most_112 : decode cX11_most 112 = .ok (.if_icmp .ge 58, 3) := by decide +kernel
theorem dX11_most_115 : decode cX11_most 115 = .ok (.iload_n 1, 1) := by decide +kernel
theorem dX11_most_116 : decode cX11_most 116 = .ok (.iconst (-1), 1) := by decide +kernel
theorem dX11_most_117 : decode cX11_most 117 = .ok (.if_icmp .eq 18, 3) := by decide +kernel
theorem dX11_most_120 : decode cX11_most 120 = .ok (.aload_n 0, 1) := by decide +kernel
theorem dX11_most_121 : decode cX11_most 121 = .ok (.getfield 30, 3) := by decide +kernel
theorem dX11_most_124 : decode cX11_most 124 = .ok (.iload_n 2, 1) := by decide +kernel
theorem dX11_most_125 : decode cX11_most 125 = .ok (.iaload, 1) := by decide +kernel
theorem dX11_most_126 : decode cX11_most 126 = .ok (.aload_n 0, 1) := by decide +kernel
theorem dX11_most_127 : decode cX11_most 127 = .ok (.getfield 30, 3) := by decide +kernel
theorem dX11_most_130 : decode cX11_most 130 = .ok (.iload_n 1, 1) := by decide +kernel
theorem dX11_most_131 : decode cX11_most 131 = .ok (.iaload, 1) := by decide +kernel
theorem dX11_most_132 : decode cX11_most 132 = .ok (.if_icmp .le 7, 3) := by decide +kernel
theorem dX11_most_135 : decode cX11_most 135 = .ok (.iconst 1, 1) := by decide +kernel
theorem dX11_most_136 : decode cX11_most 136 = .ok (.goto 4, 3) := by decide +kernel
theorem dX11_most_139 : decode cX11_most 139 = .ok (.iconst 0, 1) := by decide +kernel
theorem dX11_most_140 : decode cX11_most 140 = .ok (.istore_n 3, 1) := by decide +kernel
theorem dX11_most_141 : decode cX11_most 141 = .ok (.aload_n 0, 1) := by decide +kernel
theorem dX11_most_142 : decode cX11_most 142 = .ok (.getfield 7, 3) := by decide +kernel
theorem dX11_most_145 : decode cX11_most 145 = .ok (.iconst 1, 1) := by decide +kernel
theorem dX11_most_146 : decode cX11_most 146 = .ok (.iaload, 1) := by decide +kernel
theorem dX11_most_147 : decode cX11_most 147 = .ok (.iload_n 2, 1) := by decide +kernel
theorem dX11_most_148 : decode cX11_most 148 = .ok (.invokestatic 120, 3) := by decide +kernel
theorem dX11_most_151 : decode cX11_most 151 = .ok (.ifCond .ne 11, 3) := by decide +kernel
theorem dX11_most_154 : decode cX11_most 154 = .ok (.iload_n 3, 1) := by decide +kernel
theorem dX11_most_155 : decode cX11_most 155 = .ok (.ifCond .eq 7, 3) := by decide +kernel
theorem dX11_most_158 : decode cX11_most 158 = .ok (.iload_n 2, 1) := by decide +kernel
theorem dX11_most_159 : decode cX11_most 159 = .ok (.goto 4, 3) := by decide +kernel
theorem dX11_most_162 : decode cX11_most 162 = .ok (.iload_n 1, 1) := by decide +kernel
theorem dX11_most_163 : decode cX11_most 163 = .ok (.istore_n 1, 1) := by decide +kernel
theorem dX11_most_164 : decode cX11_most 164 = .ok (.iinc 2 1, 3) := by decide +kernel
theorem dX11_most_167 : decode cX11_most 167 = .ok (.goto (-60), 3) := by decide +kernel
theorem dX11_most_170 : decode cX11_most 170 = .ok (.iload_n 1, 1) := by decide +kernel
theorem dX11_most_171 : decode cX11_most 171 = .ok (.ireturn, 1) := by decide +kernel
theorem dX11_note_0 : decode cX11_note 0 = .ok (.aload_n 0, 1) := by decide +kernel
theorem dX11_note_1 : decode cX11_note 1 = .ok (.iload_n 1, 1) := by decide +kernel
theorem dX11_note_2 : decode cX11_note 2 = .ok (.invokevirtual 75, 3) := by decide +kernel
theorem dX11_note_5 : decode cX11_note 5 = .ok (.ifCond .eq 43, 3) := by decide +kernel
theorem dX11_note_8 : decode cX11_note 8 = .ok (.iload_n 2, 1) := by decide +kernel
theorem dX11_note_9 : decode cX11_note 9 = .ok (.invokestatic 99, 3) := by decide +kernel
theorem dX11_note_12 : decode cX11_note 12 = .ok (.ifCond .eq 36, 3) := by decide +kernel
theorem dX11_note_15 : decode cX11_note 15 = .ok (.iload_n 3, 1) := by decide +kernel
theorem dX11_note_16 : decode cX11_note 16 = .ok (.i2l, 1) := by decide +kernel
theorem dX11_note_17 : decode cX11_note 17 = .ok (.lconst 0, 1) := by decide +kernel
theorem dX11_note_18 : decode cX11_note 18 = .ok (.ldc2_w 64, 3) := by decide +kernel
theorem dX11_note_21 : decode cX11_note 21 = .ok (.invokestatic 56, 3) := by decide +kernel
theorem dX11_note_24 : decode cX11_note 24 = .ok (.ifCond .eq 24, 3) := by decide +kernel
theorem dX11_note_27 : decode cX11_note 27 = .ok (.iload 4, 2) := by decide +kernel
theorem dX11_note_29 : decode cX11_note 29 = .ok (.invokestatic 99, 3) := by decide +kernel
theorem dX11_note_32 : decode cX11_note 32 = .ok (.ifCond .eq 16, 3) := by decide +kernel
theorem dX11_note_35 : decode cX11_note 35 = .ok (.iload 5, 2) := by decide +kernel
theorem dX11_note_37 : decode cX11_note 37 = .ok (.i2l, 1) := by decide +kernel
theorem dX11_note_38 : decode cX11_note 38 = .ok (.lconst 0, 1) := by decide +kernel
theorem dX11_note_39 : decode cX11_note 39 = .ok (.ldc2_w 185, 3) := by decide +kernel
theorem dX11_note_42 : decode cX11_note 42 = .ok (.invokestatic 56, 3) := by decide +kernel
theorem dX11_note_45 : decode cX11_note 45 = .ok (.ifCond .ne 10, 3) := by decide +kernel
theorem dX11_note_48 : decode cX11_note 48 = .ok (.aload_n 0, 1) := by decide +kernel
theorem dX11_note_49 : decode cX11_note 49 = .ok (.bipush (-2), 2) := by decide +kernel
theorem dX11_note_51 : decode cX11_note 51 = .ok (.invokevirtual 66, 3) := by decide +kernel
theorem dX11_note_54 : decode cX11_note 54 = .ok (.ireturn, 1) := by decide +kernel
theorem dX11_note_55 : decode cX11_note 55 = .ok (.aload_n 0, 1) := by decide +kernel
theorem dX11_note_56 : decode cX11_note 56 = .ok (.getfield 7, 3) := by decide +kernel
theorem dX11_note_59 : decode cX11_note 59 = .ok (.iconst 3, 1) := by decide +kernel
theorem dX11_note_60 : decode cX11_note 60 = .ok (.iaload, 1) := by decide +kernel
theorem dX11_note_61 : decode cX11_note 61 = .ok (.bipush 6, 2) := by decide +kernel
theorem dX11_note_63 : decode cX11_note 63 = .ok (.if_icmp .ne 8, 3) := by decide +kernel
theorem dX11_note_66 : decode cX11_note 66 = .ok (.aload_n 0, 1) := by decide +kernel
theorem dX11_note_67 : decode cX11_note 67 = .ok (.invokevirtual 72, 3) := by decide +kernel
theorem dX11_note_70 : decode cX11_note 70 = .ok (.ireturn, 1) := by decide +kernel
theorem dX11_note_71 : decode cX11_note 71 = .ok (.bipush 20, 2) := by decide +kernel
theorem dX11_note_73 : decode cX11_note 73 = .ok (.iconst 5, 1) := by decide +kernel
theorem dX11_note_74 : decode cX11_note 74 = .ok (.aload_n 0, 1) := by decide +kernel
theorem dX11_note_75 : decode cX11_note 75 = .ok (.getfield 7, 3) := by decide +kernel
theorem dX11_note_78 : decode cX11_note 78 = .ok (.iconst 3, 1) := by decide +kernel
theorem dX11_note_79 : decode cX11_note 79 = .ok (.iaload, 1) := by decide +kernel
theorem dX11_note_80 : decode cX11_note 80 = .ok (.imul, 1) := by decide +kernel
theorem dX11_note_81 : decode cX11_note 81 = .ok (.iadd, 1) := by decide +kernel
theorem dX11_note_82 : decode cX11_note 82 = .ok (.istore 6, 2) := by decide +kernel
theorem dX11_note_84 : decode cX11_note 84 = .ok (.aload_n 0, 1) := by decide +kernel
theorem dX11_note_85 : decode cX11_note 85 = .ok (.getfield 7, 3) := by decide +kernel
theorem dX11_note_88 : decode cX11_note 88 = .ok (.iload 6, 2) := by decide +kernel
theorem dX11_note_90 : decode cX11_note 90 = .ok (.iload_n 1, 1) := by decide +kernel
theorem dX11_note_91 : decode cX11_note 91 = .ok (.iastore, 1) := by decide +kernel
theorem dX11_note_92 : decode cX11_note 92 = .ok (.aload_n 0, 1) := by decide +kernel
theorem dX11_note_93 : decode cX11_note 93 = .ok (.getfield 7, 3) := by decide +kernel
theorem dX11_note_96 : decode cX11_note 96 = .ok (.iload 6, 2) := by decide +kernel
theorem dX11_note_98 : decode cX11_note 98 = .ok (.iconst 1, 1) := by decide +kernel
theorem dX11_note_99 : decode cX11_note 99 = .ok (.iadd, 1) := by decide +kernel
theorem dX11_note_100 : decode cX11_note 100 = .ok (.iload_n 2, 1) := by decide +kernel
theorem dX11_note_101 : decode cX11_note 101 = .ok (.iastore, 1) := by decide +kernel
theorem dX11_note_102 : decode cX11_note 102 = .ok (.aload_n 0, 1) := by decide +kernel
theorem dX11_note_103 : decode cX11_note 103 = .ok (.getfield 7, 3) := by decide +kernel
theorem dX11_note_106 : decode cX11_note 106 = .ok (.iload 6, 2) := by decide +kernel
theorem dX11_note_108 : decode cX11_note 108 = .ok (.iconst 2, 1) := by decide +kernel
theorem dX11_note_109 : decode cX11_note 109 = .ok (.iadd, 1) := by decide +kernel
theorem dX11_note_110 : decode cX11_note 110 = .ok (.iload_n 3, 1) := by decide +kernel
theorem dX11_note_111 : decode cX11_note 111 = .ok (.iastore, 1) := by decide +kernel
theorem dX11_note_112 : decode cX11_note 112 = .ok (.aload_n 0, 1) := by decide +kernel
theorem dX11_note_113 : decode cX11_note 113 = .ok (.getfield 7, 3) := by decide +kernel
theorem dX11_note_116 : decode cX11_note 116 = .ok (.iload 6, 2) := by decide +kernel
theorem dX11_note_118 : decode cX11_note 118 = .ok (.iconst 3, 1) := by decide +kernel
theorem dX11_note_119 : decode cX11_note 119 = .ok (.iadd, 1) := by decide +kernel
theorem dX11_note_120 : decode cX11_note 120 = .ok (.iload 4, 2) := by decide +kernel
theorem dX11_note_122 : decode cX11_note 122 = .ok (.iastore, 1) := by decide +kernel
theorem dX11_note_123 : decode cX11_note 123 = .ok (.aload_n 0, 1) := by decide +kernel
theorem dX11_note_124 : decode cX11_note 124 = .ok (.getfield 7, 3) := by decide +kernel
theorem dX11_note_127 : decode cX11_note 127 = .ok (.iload 6, 2) := by decide +kernel
theorem dX11_note_129 : decode cX11_note 129 = .ok (.iconst 4, 1) := by decide +kernel
theorem dX11_note_130 : decode cX11_note 130 = .ok (.iadd, 1) := by decide +kernel
theorem dX11_note_131 : decode cX11_note 131 = .ok (.iload 5, 2) := by decide +kernel
theorem dX11_note_133 : decode cX11_note 133 = .ok (.iastore, 1) := by decide +kernel
theorem dX11_note_134 : decode cX11_note 134 = .ok (.aload_n 0, 1) := by decide +kernel
theorem dX11_note_135 : decode cX11_note 135 = .ok (.getfield 7, 3) := by decide +kernel
theorem dX11_note_138 : decode cX11_note 138 = .ok (.iconst 3, 1) := by decide +kernel
theorem dX11_note_139 : decode cX11_note 139 = .ok (.dup2, 1) := by decide +kernel
theorem dX11_note_140 : decode cX11_note 140 = .ok (.iaload, 1) := by decide +kernel
theorem dX11_note_141 : decode cX11_note 141 = .ok (.iconst 1, 1) := by decide +kernel
theorem dX11_note_142 : decode cX11_note 142 = .ok (.iadd, 1) := by decide +kernel
theorem dX11_note_143 : decode cX11_note 143 = .ok (.iastore, 1) := by decide +kernel
theorem dX11_note_144 : decode cX11_note 144 = .ok (.aload_n 0, 1) := by decide +kernel
theorem dX11_note_145 : decode cX11_note 145 = .ok (.getfield 7, 3) := by decide +kernel
theorem dX11_note_148 : decode cX11_note 148 = .ok (.iconst 3, 1) := by decide +kernel
theorem dX11_note_149 : decode cX11_note 149 = .ok (.iaload, 1) := by decide +kernel
theorem dX11_note_150 : decode cX11_note 150 = .ok (.ireturn, 1) := by decide +kernel
