theorem dX0_init_0 : decode cX0_init 0 = .ok (.aload_n 0, 1) := by decide +kernel
theorem dX0_init_1 : decode cX0_init 1 = .ok (.invokespecial 1, 3) := by decide +kernel
theorem dX0_init_4 : decode cX0_init 4 = .ok (.return_, 1) := by decide +kernel
theorem dX0_copied_0 : decode cX0_copied 0 = .ok (.aload_n 0, 1) := by decide +kernel
theorem dX0_copied_1 : decode cX0_copied 1 = .ok (.iload_n 1, 1) := by decide +kernel
theorem dX0_copied_2 : decode cX0_copied 2 = .ok (.iload_n 2, 1) := by decide +kernel
theorem dX0_copied_3 : decode cX0_copied 3 = .ok (.invokespecial 7, 3) := by decide +kernel
theorem dX0_copied_6 : decode cX0_copied 6 = .ok (.bipush 10, 2) := by decide +kernel
theorem dX0_copied_8 : decode cX0_copied 8 = .ok (.idiv, 1) := by decide +kernel
theorem dX0_copied_9 : decode cX0_copied 9 = .ok (.ireturn, 1) := by decide +kernel
theorem dX1_init_0 : decode cX1_init 0 = .ok (.aload_n 0, 1) := by decide +kernel
theorem dX1_init_1 : decode cX1_init 1 = .ok (.invokespecial 1, 3) := by decide +kernel
theorem dX1_init_4 : decode cX1_init 4 = .ok (.return_, 1) := by decide +kernel
theorem dX1_copied_0 : decode cX1_copied 0 = .ok (.aload_n 0, 1) := by decide +kernel
theorem dX1_copied_1 : decode cX1_copied 1 = .ok (.iload_n 1, 1) := by decide +kernel
theorem dX1_copied_2 : decode cX1_copied 2 = .ok (.iload_n 2, 1) := by decide +kernel
theorem dX1_copied_3 : decode cX1_copied 3 = .ok (.invokespecial 7, 3) := by decide +kernel
theorem dX1_copied_6 : decode cX1_copied 6 = .ok (.invokestatic 11, 3) := by decide +kernel
theorem dX1_copied_9 : decode cX1_copied 9 = .ok (.ireturn, 1) := by decide +kernel
theorem dX2_init_0 : decode cX2_init 0 = .ok (.aload_n 0, 1) := by decide +kernel
theorem dX2_init_1 : decode cX2_init 1 = .ok (.invokespecial 3, 3) := by decide +kernel
theorem dX2_init_4 : decode cX2_init 4 = .ok (.aload_n 0, 1) := by decide +kernel
theorem dX2_init_5 : decode cX2_init 5 = .ok (.bipush 7, 2) := by decide +kernel
theorem dX2_init_7 : decode cX2_init 7 = .ok (.newarray .int, 2) := by decide +kernel
theorem dX2_init_9 : decode cX2_init 9 = .ok (.putfield 9, 3) := by decide +kernel
theorem dX2_init_12 : decode cX2_init 12 = .ok (.aload_n 0, 1) := by decide +kernel
theorem dX2_init_13 : decode cX2_init 13 = .ok (.bipush 7, 2) := by decide +kernel
theorem dX2_init_15 : decode cX2_init 15 = .ok (.newarray .int, 2) := by decide +kernel
theorem dX2_init_17 : decode cX2_init 17 = .ok (.putfield 15, 3) := by decide +kernel
theorem dX2_init_20 : decode cX2_init 20 = .ok (.aload_n 0, 1) := by decide +kernel
theorem dX2_init_21 : decode cX2_init 21 = .ok (.bipush 30, 2) := by decide +kernel
theorem dX2_init_23 : decode cX2_init 23 = .ok (.newarray .int, 2) := by decide +kernel
theorem dX2_init_25 : decode cX2_init 25 = .ok (.putfield 18, 3) := by decide +kernel
theorem dX2_init_28 : decode cX2_init 28 = .ok (.aload_n 0, 1) := by decide +kernel
theorem dX2_init_29 : decode cX2_init 29 = .ok (.bipush 18, 2) := by decide +kernel
theorem dX2_init_31 : decode cX2_init 31 = .ok (.newarray .int, 2) := by decide +kernel
theorem dX2_init_33 : decode cX2_init 33 = .ok (.putfield 21, 3) := by decide +kernel
theorem dX2_init_36 : decode cX2_init 36 = .ok (.aload_n 0, 1) := by decide +kernel
theorem dX2_init_37 : decode cX2_init 37 = .ok (.bipush 8, 2) := by decide +kernel
theorem dX2_init_39 : decode cX2_init 39 = .ok (.newarray .int, 2) := by decide +kernel
theorem dX2_init_41 : decode cX2_init 41 = .ok (.putfield 24, 3) := by decide +kernel
theorem dX2_init_44 : decode cX2_init 44 = .ok (.aload_n 0, 1) := by decide +kernel
theorem dX2_init_45 : decode cX2_init 45 = .ok (.bipush 8, 2) := by decide +kernel
theorem dX2_init_47 : decode cX2_init 47 = .ok (.newarray .int, 2) := by decide +kernel
theorem dX2_init_49 : decode cX2_init 49 = .ok (.putfield 27, 3) := by decide +kernel
theorem dX2_init_52 : decode cX2_init 52 = .ok (.return_, 1) := by decide +kernel
theorem dX2_startAt_0 : decode cX2_startAt 0 = .ok (.aload_n 0, 1) := by decide +kernel
theorem dX2_startAt_1 : decode cX2_startAt 1 = .ok (.iconst 0, 1) := by decide +kernel
theorem dX2_startAt_2 : decode cX2_startAt 2 = .ok (.putfield 30, 3) := by decide +kernel
theorem dX2_startAt_5 : decode cX2_startAt 5 = .ok (.aload_n 0, 1) := by decide +kernel
theorem dX2_startAt_6 : decode cX2_startAt 6 = .ok (.iconst 0, 1) := by decide +kernel
theorem dX2_startAt_7 : decode cX2_startAt 7 = .ok (.putfield 34, 3) := by decide +kernel
theorem dX2_startAt_10 : decode cX2_startAt 10 = .ok (.aload_n 0, 1) := by decide +kernel
theorem dX2_startAt_11 : decode cX2_startAt 11 = .ok (.iload_n 1, 1) := by decide +kernel
theorem dX2_startAt_12 : decode cX2_startAt 12 = .ok (.putfield 37, 3) := by decide +kernel
theorem dX2_startAt_15 : decode cX2_startAt 15 = .ok (.aload_n 0, 1) := by decide +kernel
theorem dX2_startAt_16 : decode cX2_startAt 16 = .ok (.iconst 0, 1) := by decide +kernel
theorem dX2_startAt_17 : decode cX2_startAt 17 = .ok (.putfield 40, 3) := by decide +kernel
theorem dX2_startAt_20 : decode cX2_startAt 20 = .ok (.aload_n 0, 1) := by decide +kernel
theorem dX2_startAt_21 : decode cX2_startAt 21 = .ok (.iconst 0, 1) := by decide +kernel
theorem dX2_startAt_22 : decode cX2_startAt 22 = .ok (.putfield 43, 3) := by decide +kernel
theorem dX2_startAt_25 : decode cX2_startAt 25 = .ok (.aload_n 0, 1) := by decide +kernel
theorem dX2_startAt_26 : decode cX2_startAt 26 = .ok (.iconst 0, 1) := by decide +kernel
theorem dX2_startAt_27 : decode cX2_startAt 27 = .ok (.putfield 46, 3) := by decide +kernel
theorem dX2_startAt_30 : decode cX2_startAt 30 = .ok (.return_, 1) := by decide +kernel
theorem dX2_takeAll_0 : decode cX2_takeAll 0 = .ok (.aload_n 1, 1) := by decide +kernel
theorem dX2_takeAll_1 : decode cX2_takeAll 1 = .ok (.getfield 9, 3) := by decide +kernel
theorem dX2_takeAll_4 : decode cX2_takeAll 4 = .ok (.iconst 0, 1) := by decide +kernel
theorem dX2_takeAll_5 : decode cX2_takeAll 5 = .ok (.aload_n 0, 1) := by decide +kernel
theorem dX2_takeAll_6 : decode cX2_takeAll 6 = .ok (.getfield 9, 3) := by decide +kernel
theorem dX2_takeAll_9 : decode cX2_takeAll 9 = .ok (.iconst 0, 1) := by decide +kernel
theorem dX2_takeAll_10 : decode cX2_takeAll 10 = .ok (.bipush 7, 2) := by decide +kernel
theorem dX2_takeAll_12 : decode cX2_takeAll 12 = .ok (.invokestatic 49, 3) := by decide +kernel
theorem dX2_takeAll_15 : decode cX2_takeAll 15 = .ok (.aload_n 1, 1) := by decide +kernel
theorem dX2_takeAll_16 : decode cX2_takeAll 16 = .ok (.getfield 15, 3) := by decide +kernel
theorem dX2_takeAll_19 : decode cX2_takeAll 19 = .ok (.iconst 0, 1) := by decide +kernel
theorem dX2_takeAll_20 : decode cX2_takeAll 20 = .ok (.aload_n 0, 1) := by decide +kernel
theorem dX2_takeAll_21 : decode cX2_takeAll 21 = .ok (.getfield 15, 3) := by decide +kernel
theorem dX2_takeAll_24 : decode cX2_takeAll 24 = .ok (.iconst 0, 1) := by decide +kernel
theorem dX2_takeAll_25 : decode cX2_takeAll 25 = .ok (.bipush 7, 2) := by decide +kernel
theorem dX2_takeAll_27 : decode cX2_takeAll 27 = .ok (.invokestatic 49, 3) := by decide +kernel
theorem dX2_takeAll_30 : decode cX2_takeAll 30 = .ok (.aload_n 1, 1) := by decide +kernel
theorem dX2_takeAll_31 : decode cX2_takeAll 31 = .ok (.getfield 18, 3) := by decide +kernel
theorem dX2_takeAll_34 : decode cX2_takeAll 34 = .ok (.iconst 0, 1) := by decide +kernel
theorem dX2_takeAll_35 : decode cX2_takeAll 35 = .ok (.aload_n 0, 1) := by decide +kernel
theorem dX2_takeAll_36 : decode cX2_takeAll 36 = .ok (.getfield 18, 3) := by decide +kernel
theorem dX2_takeAll_39 : decode cX2_takeAll 39 = .ok (.iconst 0, 1) := by decide +kernel
theorem dX2_takeAll_40 : decode cX2_takeAll 40 = .ok (.bipush 30, 2) := by decide +kernel
theorem dX2_takeAll_42 : decode cX2_takeAll 42 = .ok (.invokestatic 49, 3) := by decide +kernel
theorem dX2_takeAll_45 : decode cX2_takeAll 45 = .ok (.aload_n 1, 1) := by decide +kernel
theorem dX2_takeAll_46 : decode cX2_takeAll 46 = .ok (.getfield 21, 3) := by decide +kernel
theorem dX2_takeAll_49 : decode cX2_takeAll 49 = .ok (.iconst 0, 1) := by decide +kernel
theorem dX2_takeAll_50 : decode cX2_takeAll 50 = .ok (.aload_n 0, 1) := by decide +kernel
theorem dX2_takeAll_51 : decode cX2_takeAll 51 = .ok (.getfield 21, 3) := by decide +kernel
theorem dX2_takeAll_54 : decode cX2_takeAll 54 = .ok (.iconst 0, 1) := by decide +kernel
theorem dX2_takeAll_55 : decode cX2_takeAll 55 = .ok (.bipush 18, 2) := by decide +kernel
theorem dX2_takeAll_57 : decode cX2_takeAll 57 = .ok (.invokestatic 49, 3) := by decide +kernel
theorem dX2_takeAll_60 : decode cX2_takeAll 60 = .ok (.aload_n 1, 1) := by decide +kernel
theorem dX2_takeAll_61 : decode cX2_takeAll 61 = .ok (.getfield 24, 3) := by decide +kernel
theorem dX2_takeAll_64 : decode cX2_takeAll 64 = .ok (.iconst 0, 1) := by decide +kernel
theorem dX2_takeAll_65 : decode cX2_takeAll 65 = .ok (.aload_n 0, 1) := by decide +kernel
theorem dX2_takeAll_66 : decode cX2_takeAll 66 = .ok (.getfield 24, 3) := by decide +kernel
theorem dX2_takeAll_69 : decode cX2_takeAll 69 = .ok (.iconst 0, 1) := by decide +kernel
theorem dX2_takeAll_70 : decode cX2_takeAll 70 = .ok (.bipush 8, 2) := by decide +kernel
theorem dX2_takeAll_72 : decode cX2_takeAll 72 = .ok (.invokestatic 49, 3) := by decide +kernel
theorem dX2_takeAll_75 : decode cX2_takeAll 75 = .ok (.aload_n 1, 1) := by decide +kernel
theorem dX2_takeAll_76 : decode cX2_takeAll 76 = .ok (.getfield 27, 3) := by decide +kernel
theorem dX2_takeAll_79 : decode cX2_takeAll 79 = .ok (.iconst 0, 1) := by decide +kernel
theorem dX2_takeAll_80 : decode cX2_takeAll 80 = .ok (.aload_n 0, 1) := by decide +kernel
theorem dX2_takeAll_81 : decode cX2_takeAll 81 = .ok (.getfield 27, 3) := by decide +kernel
theorem dX2_takeAll_84 : decode cX2_takeAll 84 = .ok (.iconst 0, 1) := by decide +kernel
theorem dX2_takeAll_85 : decode cX2_takeAll 85 = .ok (.bipush 8, 2) := by decide +kernel
theorem dX2_takeAll_87 : decode cX2_takeAll 87 = .ok (.invokestatic 49, 3) := by decide +kernel
theorem dX2_takeAll_90 : decode cX2_takeAll 90 = .ok (.aload_n 0, 1) := by decide +kernel
theorem dX2_takeAll_91 : decode cX2_takeAll 91 = .ok (.aload_n 1, 1) := by decide +kernel
theorem dX2_takeAll_92 : decode cX2_takeAll 92 = .ok (.getfield 30, 3) := by decide +kernel
theorem dX2_takeAll_95 : decode cX2_takeAll 95 = .ok (.putfield 30, 3) := by decide +kernel
theorem dX2_takeAll_98 : decode cX2_takeAll 98 = .ok (.aload_n 0, 1) := by decide +kernel
theorem dX2_takeAll_99 : decode cX2_takeAll 99 = .ok (.aload_n 1, 1) := by decide +kernel
theorem dX2_takeAll_100 : decode cX2_takeAll 100 = .ok (.getfield 34, 3) := by decide +kernel
theorem dX2_takeAll_103 : decode cX2_takeAll 103 = .ok (.putfield 34, 3) := by decide +kernel
theorem dX2_takeAll_106 : decode cX2_takeAll 106 = .ok (.aload_n 0, 1) := by decide +kernel
theorem dX2_takeAll_107 : decode cX2_takeAll 107 = .ok (.aload_n 1, 1) := by decide +kernel
theorem dX2_takeAll_108 : decode cX2_takeAll 108 = .ok (.getfield 37, 3) := by decide +kernel
theorem dX2_takeAll_111 : decode cX2_takeAll 111 = .ok (.putfield 37, 3) := by decide +kernel
theorem dX2_takeAll_114 : decode cX2_takeAll 114 = .ok (.aload_n 0, 1) := by decide +kernel
theorem dX2_takeAll_115 : decode cX2_takeAll 115 = .ok (.aload_n 1, 1) := by decide +kernel
theorem dX2_takeAll_116 : decode cX2_takeAll 116 = .ok (.getfield 40, 3) := by decide +kernel
theorem dX2_takeAll_119 : decode cX2_takeAll 119 = .ok (.putfield 40, 3) := by decide +kernel
theorem dX2_takeAll_122 : decode cX2_takeAll 122 = .ok (.aload_n 0, 1) := by decide +kernel
theorem dX2_takeAll_123 : decode cX2_takeAll 123 = .ok (.aload_n 1, 1) := by decide +kernel
theorem dX2_takeAll_124 : decode cX2_takeAll 124 = .ok (.getfield 43, 3) := by decide +kernel
theorem dX2_takeAll_127 : decode cX2_takeAll 127 = .ok (.putfield 43, 3) := by decide +kernel
theorem dX2_takeAll_130 : decode cX2_takeAll 130 = .ok (.aload_n 0, 1) := by decide +kernel
theorem dX2_takeAll_131 : decode cX2_takeAll 131 = .ok (.aload_n 1, 1) := by decide +kernel
theorem dX2_takeAll_132 : decode cX2_takeAll 132 = .ok (.getfield 46, 3) := by decide +kernel
theorem dX2_takeAll_135 : decode cX2_takeAll 135 = .ok (.putfield 46, 3) := by decide +kernel
theorem dX2_takeAll_138 : decode cX2_takeAll 138 = .ok (.return_, 1) := by decide +kernel
theorem dX2_plant_0 : decode cX2_plant 0 = .ok (.aload_n 0, 1) := by decide +kernel
theorem dX2_plant_1 : decode cX2_plant 1 = .ok (.getfield 30, 3) := by decide +kernel
theorem dX2_plant_4 : decode cX2_plant 4 = .ok (.bipush 7, 2) := by decide +kernel
theorem dX2_plant_6 : decode cX2_plant 6 = .ok (.if_icmp .ge 33, 3) := by decide +kernel
theorem dX2_plant_9 : decode cX2_plant 9 = .ok (.aload_n 0, 1) := by decide +kernel
theorem dX2_plant_10 : decode cX2_plant 10 = .ok (.getfield 9, 3) := by decide +kernel
theorem dX2_plant_13 : decode cX2_plant 13 = .ok (.aload_n 0, 1) := by decide +kernel
theorem dX2_plant_14 : decode cX2_plant 14 = .ok (.getfield 30, 3) := by decide +kernel
theorem dX2_plant_17 : decode cX2_plant 17 = .ok (.iload_n 1, 1) := by decide +kernel
theorem dX2_plant_18 : decode cX2_plant 18 = .ok (.iastore, 1) := by decide +kernel
theorem dX2_plant_19 : decode cX2_plant 19 = .ok (.aload_n 0, 1) := by decide +kernel
theorem dX2_plant_20 : decode cX2_plant 20 = .ok (.getfield 15, 3) := by decide +kernel
theorem dX2_plant_23 : decode cX2_plant 23 = .ok (.aload_n 0, 1) := by decide +kernel
theorem dX2_plant_24 : decode cX2_plant 24 = .ok (.getfield 30, 3) := by decide +kernel
theorem dX2_plant_27 : decode cX2_plant 27 = .ok (.iconst 0, 1) := by decide +kernel
theorem dX2_plant_28 : decode cX2_plant 28 = .ok (.iastore, 1) := by decide +kernel
theorem dX2_plant_29 : decode cX2_plant 29 = .ok (.aload_n 0, 1) := by decide +kernel
theorem dX2_plant_30 : decode cX2_plant 30 = .ok (.dup, 1) := by decide +kernel
theorem dX2_plant_31 : decode cX2_plant 31 = .ok (.getfield 30, 3) := by decide +kernel
theorem dX2_plant_34 : decode cX2_plant 34 = .ok (.iconst 1, 1) := by decide +kernel
theorem dX2_plant_35 : decode cX2_plant 35 = .ok (.iadd, 1) := by decide +kernel
theorem dX2_plant_36 : decode cX2_plant 36 = .ok (.putfield 30, 3) := by decide +kernel
theorem dX2_plant_39 : decode cX2_plant 39 = .ok (.return_, 1) := by decide +kernel
theorem dX2_join_0 : decode cX2_join 0 = .ok (.aload_n 0, 1) := by decide +kernel
theorem dX2_join_1 : decode cX2_join 1 = .ok (.getfield 15, 3) := by decide +kernel
theorem dX2_join_4 : decode cX2_join 4 = .ok (.iload_n 1, 1) := by decide +kernel
theorem dX2_join_5 : decode cX2_join 5 = .ok (.aload_n 0, 1) := by decide +kernel
theorem dX2_join_6 : decode cX2_join 6 = .ok (.getfield 15, 3) := by decide +kernel
theorem dX2_join_9 : decode cX2_join 9 = .ok (.iload_n 1, 1) := by decide +kernel
theorem dX2_join_10 : decode cX2_join 10 = .ok (.iaload, 1) := by decide +kernel
theorem dX2_join_11 : decode cX2_join 11 = .ok (.iconst 1, 1) := by decide +kernel
theorem dX2_join_12 : decode cX2_join 12 = .ok (.iload_n 2, 1) := by decide +kernel
theorem dX2_join_13 : decode cX2_join 13 = .ok (.ishl, 1) := by decide +kernel
theorem dX2_join_14 : decode cX2_join 14 = .ok (.iconst (-1), 1) := by decide +kernel
theorem dX2_join_15 : decode cX2_join 15 = .ok (.ixor, 1) := by decide +kernel
theorem dX2_join_16 : decode cX2_join 16 = .ok (.iand, 1) := by decide +kernel
theorem dX2_join_17 : decode cX2_join 17 = .ok (.iload_n 3, 1) := by decide +kernel
theorem dX2_join_18 : decode cX2_join 18 = .ok (.iload_n 2, 1) := by decide +kernel
theorem dX2_join_19 : decode cX2_join 19 = .ok (.ishl, 1) := by decide +kernel
theorem dX2_join_20 : decode cX2_join 20 = .ok (.ior, 1) := by decide +kernel
theorem dX2_join_21 : decode cX2_join 21 = .ok (.iastore, 1) := by decide +kernel
theorem dX2_join_22 : decode cX2_join 22 = .ok (.aload_n 0, 1) := by decide +kernel
theorem dX2_join_23 : decode cX2_join 23 = .ok (.getfield 15, 3) := by decide +kernel
theorem dX2_join_26 : decode cX2_join 26 = .ok (.iload_n 2, 1) := by decide +kernel
theorem dX2_join_27 : decode cX2_join 27 = .ok (.aload_n 0, 1) := by decide +kernel
theorem dX2_join_28 : decode cX2_join 28 = .ok (.getfield 15, 3) := by decide +kernel
theorem dX2_join_31 : decode cX2_join 31 = .ok (.iload_n 2, 1) := by decide +kernel
theorem dX2_join_32 : decode cX2_join 32 = .ok (.iaload, 1) := by decide +kernel
theorem dX2_join_33 : decode cX2_join 33 = .ok (.iconst 1, 1) := by decide +kernel
theorem dX2_join_34 : decode cX2_join 34 = .ok (.iload_n 1, 1) := by decide +kernel
theorem dX2_join_35 : decode cX2_join 35 = .ok (.ishl, 1) := by decide +kernel
theorem dX2_join_36 : decode cX2_join 36 = .ok (.iconst (-1), 1) := by decide +kernel
theorem dX2_join_37 : decode cX2_join 37 = .ok (.ixor, 1) := by decide +kernel
theorem dX2_join_38 : decode cX2_join 38 = .ok (.iand, 1) := by decide +kernel
theorem dX2_join_39 : decode cX2_join 39 = .ok (.iload_n 3, 1) := by decide +kernel
theorem dX2_join_40 : decode cX2_join 40 = .ok (.iload_n 1, 1) := by decide +kernel
theorem dX2_join_41 : decode cX2_join 41 = .ok (.ishl, 1) := by decide +kernel
theorem dX2_join_42 : decode cX2_join 42 = .ok (.ior, 1) := by decide +kernel
theorem dX2_join_43 : decode cX2_join 43 = .ok (.iastore, 1) := by decide +kernel
theorem dX2_join_44 : decode cX2_join 44 = .ok (.return_, 1) := by decide +kernel
theorem dX2_markFelled_0 : decode cX2_markFelled 0 = .ok (.aload_n 0, 1) := by decide +kernel
theorem dX2_markFelled_1 : decode cX2_markFelled 1 = .ok (.aload_n 0, 1) := by decide +kernel
theorem dX2_markFelled_2 : decode cX2_markFelled 2 = .ok (.getfield 34, 3) := by decide +kernel
theorem dX2_markFelled_5 : decode cX2_markFelled 5 = .ok (.iconst 1, 1) := by decide +kernel
theorem dX2_markFelled_6 : decode cX2_markFelled 6 = .ok (.iload_n 1, 1) := by decide +kernel
theorem dX2_markFelled_7 : decode cX2_markFelled 7 = .ok (.ishl, 1) := by decide +kernel
theorem dX2_markFelled_8 : decode cX2_markFelled 8 = .ok (.iconst (-1), 1) := by decide +kernel
theorem dX2_markFelled_9 : decode cX2_markFelled 9 = .ok (.ixor, 1) := by decide +kernel
theorem dX2_markFelled_10 : decode cX2_markFelled 10 = .ok (.iand, 1) := by decide +kernel
theorem dX2_markFelled_11 : decode cX2_markFelled 11 = .ok (.iload_n 2, 1) := by decide +kernel
theorem dX2_markFelled_12 : decode cX2_markFelled 12 = .ok (.iload_n 1, 1) := by decide +kernel
theorem dX2_markFelled_13 : decode cX2_markFelled 13 = .ok (.ishl, 1) := by decide +kernel
theorem dX2_markFelled_14 : decode cX2_markFelled 14 = .ok (.ior, 1) := by decide +kernel
theorem dX2_markFelled_15 : decode cX2_markFelled 15 = .ok (.putfield 34, 3) := by decide +kernel
theorem dX2_markFelled_18 : decode cX2_markFelled 18 = .ok (.return_, 1) := by decide +kernel
theorem dX2_touches_0 : decode cX2_touches 0 = .ok (.iconst 0, 1) := by decide +kernel
theorem dX2_touches_1 : decode cX2_touches 1 = .ok (.istore_n 1, 1) := by decide +kernel
theorem dX2_touches_2 : decode cX2_touches 2 = .ok (.iconst 0, 1) := by decide +kernel
theorem dX2_touches_3 : decode cX2_touches 3 = .ok (.istore_n 2, 1) := by decide +kernel
theorem dX2_touches_4 : decode cX2_touches 4 = .ok (.iload_n 2, 1) := by decide +kernel
theorem dX2_touches_5 : decode cX2_touches 5 = .ok (.aload_n 0, 1) := by decide +kernel
theorem dX2_touches_6 : decode cX2_touches 6 = .ok (.getfield 30, 3) := by decide +kernel
theorem dX2_touches_9 : decode cX2_touches 9 = .ok (.if_icmp .ge 21, 3) := by decide +kernel
theorem dX2_touches_12 : decode cX2_touches 12 = .ok (.iload_n 1, 1) := by decide +kernel
theorem dX2_touches_13 : decode cX2_touches 13 = .ok (.aload_n 0, 1) := by decide +kernel
theorem dX2_touches_14 : decode cX2_touches 14 = .ok (.getfield 15, 3) := by decide +kernel
theorem dX2_touches_17 : decode cX2_touches 17 = .ok (.iload_n 2, 1) := by decide +kernel
theorem dX2_touches_18 : decode cX2_touches 18 = .ok (.iaload, 1) := by decide +kernel
theorem dX2_touches_19 : decode cX2_touches 19 = .ok (.invokestatic 55, 3) := by decide +kernel
theorem dX2_touches_22 : decode cX2_touches 22 = .ok (.iadd, 1) := by decide +kernel
theorem dX2_touches_23 : decode cX2_touches 23 = .ok (.istore_n 1, 1) := by decide +kernel
theorem dX2_touches_24 : decode cX2_touches 24 = .ok (.iinc 2 1, 3) := by decide +kernel
theorem dX2_touches_27 : decode cX2_touches 27 = .ok (.goto (-23), 3) := by decide +kernel
theorem dX2_touches_30 : decode cX2_touches 30 = .ok (.iload_n 1, 1) := by decide +kernel
theorem dX2_touches_31 : decode cX2_touches 31 = .ok (.iconst 2, 1) := by decide +kernel
theorem dX2_touches_32 : decode cX2_touches 32 = .ok (.idiv, 1) := by decide +kernel
theorem dX2_touches_33 : decode cX2_touches 33 = .ok (.ireturn, 1) := by decide +kernel
theorem dX2_addNote_0 : decode cX2_addNote 0 = .ok (.aload_n 0, 1) := by decide +kernel
theorem dX2_addNote_1 : decode cX2_addNote 1 = .ok (.getfield 40, 3) := by decide +kernel
theorem dX2_addNote_4 : decode cX2_addNote 4 = .ok (.bipush 6, 2) := by decide +kernel
theorem dX2_addNote_6 : decode cX2_addNote 6 = .ok (.if_icmp .ge 71, 3) := by decide +kernel
theorem dX2_addNote_9 : decode cX2_addNote 9 = .ok (.aload_n 0, 1) := by decide +kernel
theorem dX2_addNote_10 : decode cX2_addNote 10 = .ok (.getfield 40, 3) := by decide +kernel
theorem dX2_addNote_13 : decode cX2_addNote 13 = .ok (.iconst 5, 1) := by decide +kernel
theorem dX2_addNote_14 : decode cX2_addNote 14 = .ok (.imul, 1) := by decide +kernel
theorem dX2_addNote_15 : decode cX2_addNote 15 = .ok (.istore 6, 2) := by decide +kernel
theorem dX2_addNote_17 : decode cX2_addNote 17 = .ok (.aload_n 0, 1) := by decide +kernel
theorem dX2_addNote_18 : decode cX2_addNote 18 = .ok (.getfield 18, 3) := by decide +kernel
theorem dX2_addNote_21 : decode cX2_addNote 21 = .ok (.iload 6, 2) := by decide +kernel
theorem dX2_addNote_23 : decode cX2_addNote 23 = .ok (.iload_n 1, 1) := by decide +kernel
theorem dX2_addNote_24 : decode cX2_addNote 24 = .ok (.iastore, 1) := by decide +kernel
theorem dX2_addNote_25 : decode cX2_addNote 25 = .ok (.aload_n 0, 1) := by decide +kernel
theorem dX2_addNote_26 : decode cX2_addNote 26 = .ok (.getfield 18, 3) := by decide +kernel
theorem dX2_addNote_29 : decode cX2_addNote 29 = .ok (.iload 6, 2) := by decide +kernel
theorem dX2_addNote_31 : decode cX2_addNote 31 = .ok (.iconst 1, 1) := by decide +kernel
theorem dX2_addNote_32 : decode cX2_addNote 32 = .ok (.iadd, 1) := by decide +kernel
theorem dX2_addNote_33 : decode cX2_addNote 33 = .ok (.iload_n 2, 1) := by decide +kernel
theorem dX2_addNote_34 : decode cX2_addNote 34 = .ok (.iastore, 1) := by decide +kernel
theorem dX2_addNote_35 : decode cX2_addNote 35 = .ok (.aload_n 0, 1) := by decide +kernel
theorem dX2_addNote_36 : decode cX2_addNote 36 = .ok (.getfield 18, 3) := by decide +kernel
theorem dX2_addNote_39 : decode cX2_addNote 39 = .ok (.iload 6, 2) := by decide +kernel
theorem dX2_addNote_41 : decode cX2_addNote 41 = .ok (.iconst 2, 1) := by decide +kernel
theorem dX2_addNote_42 : decode cX2_addNote 42 = .ok (.iadd, 1) := by decide +kernel
theorem dX2_addNote_43 : decode cX2_addNote 43 = .ok (.iload_n 3, 1) := by decide +kernel
theorem dX2_addNote_44 : decode cX2_addNote 44 = .ok (.iastore, 1) := by decide +kernel
theorem dX2_addNote_45 : decode cX2_addNote 45 = .ok (.aload_n 0, 1) := by decide +kernel
theorem dX2_addNote_46 : decode cX2_addNote 46 = .ok (.getfield 18, 3) := by decide +kernel
theorem dX2_addNote_49 : decode cX2_addNote 49 = .ok (.iload 6, 2) := by decide +kernel
theorem dX2_addNote_51 : decode cX2_addNote 51 = .ok (.iconst 3, 1) := by decide +kernel
theorem dX2_addNote_52 : decode cX2_addNote 52 = .ok (.iadd, 1) := by decide +kernel
theorem dX2_addNote_53 : decode cX2_addNote 53 = .ok (.iload 4, 2) := by decide +kernel
theorem dX2_addNote_55 : decode cX2_addNote 55 = .ok (.iastore, 1) := by decide +kernel
theorem dX2_addNote_56 : decode cX2_addNote 56 = .ok (.aload_n 0, 1) := by decide +kernel
theorem dX2_addNote_57 : decode cX2_addNote 57 = .ok (.getfield 18, 3) := by decide +kernel
theorem dX2_addNote_60 : decode cX2_addNote 60 = .ok (.iload 6, 2) := by decide +kernel
theorem dX2_addNote_62 : decode cX2_addNote 62 = .ok (.iconst 4, 1) := by decide +kernel
theorem dX2_addNote_63 : decode cX2_addNote 63 = .ok (.iadd, 1) := by decide +kernel
theorem dX2_addNote_64 : decode cX2_addNote 64 = .ok (.iload 5, 2) := by decide +kernel
theorem dX2_addNote_66 : decode cX2_addNote 66 = .ok (.iastore, 1) := by decide +kernel
theorem dX2_addNote_67 : decode cX2_addNote 67 = .ok (.aload_n 0, 1) := by decide +kernel
theorem dX2_addNote_68 : decode cX2_addNote 68 = .ok (.dup, 1) := by decide +kernel
theorem dX2_addNote_69 : decode cX2_addNote 69 = .ok (.getfield 40, 3) := by decide +kernel
theorem dX2_addNote_72 : decode cX2_addNote 72 = .ok (.iconst 1, 1) := by decide +kernel
theorem dX2_addNote_73 : decode cX2_addNote 73 = .ok (.iadd, 1) := by decide +kernel
theorem dX2_addNote_74 : decode cX2_addNote 74 = .ok (.putfield 40, 3) := by decide +kernel
theorem dX2_addNote_77 : decode cX2_addNote 77 = .ok (.return_, 1) := by decide +kernel
theorem dX2_addReadOne_0 : decode cX2_addReadOne 0 = .ok (.aload_n 0, 1) := by decide +kernel
theorem dX2_addReadOne_1 : decode cX2_addReadOne 1 = .ok (.getfield 43, 3) := by decide +kernel
theorem dX2_addReadOne_4 : decode cX2_addReadOne 4 = .ok (.bipush 6, 2) := by decide +kernel
theorem dX2_addReadOne_6 : decode cX2_addReadOne 6 = .ok (.if_icmp .ge 49, 3) := by decide +kernel
theorem dX2_addReadOne_9 : decode cX2_addReadOne 9 = .ok (.aload_n 0, 1) := by decide +kernel
theorem dX2_addReadOne_10 : decode cX2_addReadOne 10 = .ok (.getfield 43, 3) := by decide +kernel
theorem dX2_addReadOne_13 : decode cX2_addReadOne 13 = .ok (.iconst 3, 1) := by decide +kernel
theorem dX2_addReadOne_14 : decode cX2_addReadOne 14 = .ok (.imul, 1) := by decide +kernel
theorem dX2_addReadOne_15 : decode cX2_addReadOne 15 = .ok (.istore 4, 2) := by decide +kernel
theorem dX2_addReadOne_17 : decode cX2_addReadOne 17 = .ok (.aload_n 0, 1) := by decide +kernel
theorem dX2_addReadOne_18 : decode cX2_addReadOne 18 = .ok (.getfield 21, 3) := by decide +kernel
theorem dX2_addReadOne_21 : decode cX2_addReadOne 21 = .ok (.iload 4, 2) := by decide +kernel
theorem dX2_addReadOne_23 : decode cX2_addReadOne 23 = .ok (.iload_n 1, 1) := by decide +kernel
theorem dX2_addReadOne_24 : decode cX2_addReadOne 24 = .ok (.iastore, 1) := by decide +kernel
theorem dX2_addReadOne_25 : decode cX2_addReadOne 25 = .ok (.aload_n 0, 1) := by decide +kernel
theorem dX2_addReadOne_26 : decode cX2_addReadOne 26 = .ok (.getfield 21, 3) := by decide +kernel
theorem dX2_addReadOne_29 : decode cX2_addReadOne 29 = .ok (.iload 4, 2) := by decide +kernel
theorem dX2_addReadOne_31 : decode cX2_addReadOne 31 = .ok (.iconst 1, 1) := by decide +kernel
theorem dX2_addReadOne_32 : decode cX2_addReadOne 32 = .ok (.iadd, 1) := by decide +kernel
theorem dX2_addReadOne_33 : decode cX2_addReadOne 33 = .ok (.iload_n 2, 1) := by decide +kernel
theorem dX2_addReadOne_34 : decode cX2_addReadOne 34 = .ok (.iastore, 1) := by decide +kernel
theorem dX2_addReadOne_35 : decode cX2_addReadOne 35 = .ok (.aload_n 0, 1) := by decide +kernel
theorem dX2_addReadOne_36 : decode cX2_addReadOne 36 = .ok (.getfield 21, 3) := by decide +kernel
theorem dX2_addReadOne_39 : decode cX2_addReadOne 39 = .ok (.iload 4, 2) := by decide +kernel
theorem dX2_addReadOne_41 : decode cX2_addReadOne 41 = .ok (.iconst 2, 1) := by decide +kernel
theorem dX2_addReadOne_42 : decode cX2_addReadOne 42 = .ok (.iadd, 1) := by decide +kernel
theorem dX2_addReadOne_43 : decode cX2_addReadOne 43 = .ok (.iload_n 3, 1) := by decide +kernel
theorem dX2_addReadOne_44 : decode cX2_addReadOne 44 = .ok (.iastore, 1) := by decide +kernel
theorem dX2_addReadOne_45 : decode cX2_addReadOne 45 = .ok (.aload_n 0, 1) := by decide +kernel
theorem dX2_addReadOne_46 : decode cX2_addReadOne 46 = .ok (.dup, 1) := by decide +kernel
theorem dX2_addReadOne_47 : decode cX2_addReadOne 47 = .ok (.getfield 43, 3) := by decide +kernel
theorem dX2_addReadOne_50 : decode cX2_addReadOne 50 = .ok (.iconst 1, 1) := by decide +kernel
theorem dX2_addReadOne_51 : decode cX2_addReadOne 51 = .ok (.iadd, 1) := by decide +kernel
theorem dX2_addReadOne_52 : decode cX2_addReadOne 52 = .ok (.putfield 43, 3) := by decide +kernel
theorem dX2_addReadOne_55 : decode cX2_addReadOne 55 = .ok (.return_, 1) := by decide +kernel
theorem dX2_remember_0 : decode cX2_remember 0 = .ok (.aload_n 0, 1) := by decide +kernel
theorem dX2_remember_1 : decode cX2_remember 1 = .ok (.getfield 46, 3) := by decide +kernel
theorem dX2_remember_4 : decode cX2_remember 4 = .ok (.bipush 8, 2) := by decide +kernel
theorem dX2_remember_6 : decode cX2_remember 6 = .ok (.if_icmp .lt 39, 3) := by decide +kernel
theorem dX2_remember_9 : decode cX2_remember 9 = .ok (.aload_n 0, 1) := by decide +kernel
theorem dX2_remember_10 : decode cX2_remember 10 = .ok (.getfield 24, 3) := by decide +kernel
theorem dX2_remember_13 : decode cX2_remember 13 = .ok (.iconst 1, 1) := by decide +kernel
theorem dX2_remember_14 : decode cX2_remember 14 = .ok (.aload_n 0, 1) := by decide +kernel
theorem dX2_remember_15 : decode cX2_remember 15 = .ok (.getfield 24, 3) := by decide +kernel
theorem dX2_remember_18 : decode cX2_remember 18 = .ok (.iconst 0, 1) := by decide +kernel
theorem dX2_remember_19 : decode cX2_remember 19 = .ok (.bipush 7, 2) := by decide +kernel
theorem dX2_remember_21 : decode cX2_remember 21 = .ok (.invokestatic 49, 3) := by decide +kernel
theorem dX2_remember_24 : decode cX2_remember 24 = .ok (.aload_n 0, 1) := by decide +kernel
theorem dX2_remember_25 : decode cX2_remember 25 = .ok (.getfield 27, 3) := by decide +kernel
theorem dX2_remember_28 : decode cX2_remember 28 = .ok (.iconst 1, 1) := by decide +kernel
theorem dX2_remember_29 : decode cX2_remember 29 = .ok (.aload_n 0, 1) := by decide +kernel
theorem dX2_remember_30 : decode cX2_remember 30 = .ok (.getfield 27, 3) := by decide +kernel
theorem dX2_remember_33 : decode cX2_remember 33 = .ok (.iconst 0, 1) := by decide +kernel
theorem dX2_remember_34 : decode cX2_remember 34 = .ok (.bipush 7, 2) := by decide +kernel
theorem dX2_remember_36 : decode cX2_remember 36 = .ok (.invokestatic 49, 3) := by decide +kernel
theorem dX2_remember_39 : decode cX2_remember 39 = .ok (.aload_n 0, 1) := by decide +kernel
theorem dX2_remember_40 : decode cX2_remember 40 = .ok (.bipush 7, 2) := by decide +kernel
theorem dX2_remember_42 : decode cX2_remember 42 = .ok (.putfield 46, 3) := by decide +kernel
theorem dX2_remember_45 : decode cX2_remember 45 = .ok (.aload_n 0, 1) := by decide +kernel
theorem dX2_remember_46 : decode cX2_remember 46 = .ok (.getfield 24, 3) := by decide +kernel
theorem dX2_remember_49 : decode cX2_remember 49 = .ok (.aload_n 0, 1) := by decide +kernel
theorem dX2_remember_50 : decode cX2_remember 50 = .ok (.getfield 46, 3) := by decide +kernel
theorem dX2_remember_53 : decode cX2_remember 53 = .ok (.aload_n 0, 1) := by decide +kernel
theorem dX2_remember_54 : decode cX2_remember 54 = .ok (.getfield 34, 3) := by decide +kernel
theorem dX2_remember_57 : decode cX2_remember 57 = .ok (.iastore, 1) := by decide +kernel
theorem dX2_remember_58 : decode cX2_remember 58 = .ok (.aload_n 0, 1) := by decide +kernel
theorem dX2_remember_59 : decode cX2_remember 59 = .ok (.getfield 27, 3) := by decide +kernel
theorem dX2_remember_62 : decode cX2_remember 62 = .ok (.aload_n 0, 1) := by decide +kernel
theorem dX2_remember_63 : decode cX2_remember 63 = .ok (.getfield 46, 3) := by decide +kernel
theorem dX2_remember_66 : decode cX2_remember 66 = .ok (.aload_n 0, 1) := by decide +kernel
theorem dX2_remember_67 : decode cX2_remember 67 = .ok (.getfield 37, 3) := by decide +kernel
theorem dX2_remember_70 : decode cX2_remember 70 = .ok (.iastore, 1) := by decide +kernel
theorem dX2_remember_71 : decode cX2_remember 71 = .ok (.aload_n 0, 1) := by decide +kernel
theorem dX2_remember_72 : decode cX2_remember 72 = .ok (.dup, 1) := by decide +kernel
theorem dX2_remember_73 : decode cX2_remember 73 = .ok (.getfield 46, 3) := by decide +kernel
theorem dX2_remember_76 : decode cX2_remember 76 = .ok (.iconst 1, 1) := by decide +kernel
theorem dX2_remember_77 : decode cX2_remember 77 = .ok (.iadd, 1) := by decide +kernel
theorem dX2_remember_78 : decode cX2_remember 78 = .ok (.putfield 46, 3) := by decide +kernel
theorem dX2_remember_81 : decode cX2_remember 81 = .ok (.return_, 1) := by decide +kernel
theorem dX2_takeBack_0 : decode cX2_takeBack 0 = .ok (.aload_n 0, 1) := by decide +kernel
theorem dX2_takeBack_1 : decode cX2_takeBack 1 = .ok (.getfield 46, 3) := by decide +kernel
theorem dX2_takeBack_4 : decode cX2_takeBack 4 = .ok (.ifCond .le 39, 3) := by decide +kernel
theorem dX2_takeBack_7 : decode cX2_takeBack 7 = .ok (.aload_n 0, 1) := by decide +kernel
theorem dX2_takeBack_8 : decode cX2_takeBack 8 = .ok (.dup, 1) := by decide +kernel
theorem dX2_takeBack_9 : decode cX2_takeBack 9 = .ok (.getfield 46, 3) := by decide +kernel
theorem dX2_takeBack_12 : decode cX2_takeBack 12 = .ok (.iconst 1, 1) := by decide +kernel
theorem dX2_takeBack_13 : decode cX2_takeBack 13 = .ok (.isub, 1) := by decide +kernel
theorem dX2_takeBack_14 : decode cX2_takeBack 14 = .ok (.putfield 46, 3) := by decide +kernel
theorem dX2_takeBack_17 : decode cX2_takeBack 17 = .ok (.aload_n 0, 1) := by decide +kernel
theorem dX2_takeBack_18 : decode cX2_takeBack 18 = .ok (.aload_n 0, 1) := by decide +kernel
theorem dX2_takeBack_19 : decode cX2_takeBack 19 = .ok (.getfield 24, 3) := by decide +kernel
theorem dX2_takeBack_22 : decode cX2_takeBack 22 = .ok (.aload_n 0, 1) := by decide +kernel
theorem dX2_takeBack_23 : decode cX2_takeBack 23 = .ok (.getfield 46, 3) := by decide +kernel
theorem dX2_takeBack_26 : decode cX2_takeBack 26 = .ok (.iaload, 1) := by decide +kernel
theorem dX2_takeBack_27 : decode cX2_takeBack 27 = .ok (.putfield 34, 3) := by decide +kernel
theorem dX2_takeBack_30 : decode cX2_takeBack 30 = .ok (.aload_n 0, 1) := by decide +kernel
theorem dX2_takeBack_31 : decode cX2_takeBack 31 = .ok (.aload_n 0, 1) := by decide +kernel
theorem dX2_takeBack_32 : decode cX2_takeBack 32 = .ok (.getfield 27, 3) := by decide +kernel
theorem dX2_takeBack_35 : decode cX2_takeBack 35 = .ok (.aload_n 0, 1) := by decide +kernel
theorem dX2_takeBack_36 : decode cX2_takeBack 36 = .ok (.getfield 46, 3) := by decide +kernel
theorem dX2_takeBack_39 : decode cX2_takeBack 39 = .ok (.iaload, 1) := by decide +kernel
theorem dX2_takeBack_40 : decode cX2_takeBack 40 = .ok (.putfield 37, 3) := by decide +kernel
theorem dX2_takeBack_43 : decode cX2_takeBack 43 = .ok (.return_, 1) := by decide +kernel
theorem dX3_isLetter_0 : decode cX3_isLetter 0 = .ok (.iload_n 0, 1) := by decide +kernel
theorem dX3_isLetter_1 : decode cX3_isLetter 1 = .ok (.ifCond .lt 9, 3) := by decide +kernel
theorem dX3_isLetter_4 : decode cX3_isLetter 4 = .ok (.iload_n 0, 1) := by decide +kernel
theorem dX3_isLetter_5 : decode cX3_isLetter 5 = .ok (.ldc 9, 2) := by decide +kernel
theorem dX3_isLetter_7 : decode cX3_isLetter 7 = .ok (.if_icmp .le 5, 3) := by decide +kernel
theorem dX3_isLetter_10 : decode cX3_isLetter 10 = .ok (.iconst 0, 1) := by decide +kernel
theorem dX3_isLetter_11 : decode cX3_isLetter 11 = .ok (.ireturn, 1) := by decide +kernel
theorem dX3_isLetter_12 : decode cX3_isLetter 12 = .ok (.iload_n 0, 1) := by decide +kernel
theorem dX3_isLetter_13 : decode cX3_isLetter 13 = .ok (.istore_n 1, 1) := by decide +kernel
theorem dX3_isLetter_14 : decode cX3_isLetter 14 = .ok (.iconst 0, 1) := by decide +kernel
theorem dX3_isLetter_15 : decode cX3_isLetter 15 = .ok (.istore_n 2, 1) := by decide +kernel
theorem dX3_isLetter_16 : decode cX3_isLetter 16 = .ok (.iload_n 2, 1) := by decide +kernel
theorem dX3_isLetter_17 : decode cX3_isLetter 17 = .ok (.bipush 6, 2) := by decide +kernel
theorem dX3_isLetter_19 : decode cX3_isLetter 19 = .ok (.if_icmp .ge 32, 3) := by decide +kernel
theorem dX3_isLetter_22 : decode cX3_isLetter 22 = .ok (.iload_n 1, 1) := by decide +kernel
theorem dX3_isLetter_23 : decode cX3_isLetter 23 = .ok (.ifCond .le 28, 3) := by decide +kernel
theorem dX3_isLetter_26 : decode cX3_isLetter 26 = .ok (.iload_n 1, 1) := by decide +kernel
theorem dX3_isLetter_27 : decode cX3_isLetter 27 = .ok (.bipush 10, 2) := by decide +kernel
theorem dX3_isLetter_29 : decode cX3_isLetter 29 = .ok (.irem, 1) := by decide +kernel
theorem dX3_isLetter_30 : decode cX3_isLetter 30 = .ok (.iconst 1, 1) := by decide +kernel
theorem dX3_isLetter_31 : decode cX3_isLetter 31 = .ok (.iconst 4, 1) := by decide +kernel
theorem dX3_isLetter_32 : decode cX3_isLetter 32 = .ok (.invokestatic 10, 3) := by decide +kernel
theorem dX3_isLetter_35 : decode cX3_isLetter 35 = .ok (.ifCond .ne 5, 3) := by decide +kernel
theorem dX3_isLetter_38 : decode cX3_isLetter 38 = .ok (.iconst 0, 1) := by decide +kernel
theorem dX3_isLetter_39 : decode cX3_isLetter 39 = .ok (.ireturn, 1) := by decide +kernel
theorem dX3_isLetter_40 : decode cX3_isLetter 40 = .ok (.iload_n 1, 1) := by decide +kernel
theorem dX3_isLetter_41 : decode cX3_isLetter 41 = .ok (.bipush 10, 2) := by decide +kernel
theorem dX3_isLetter_43 : decode cX3_isLetter 43 = .ok (.idiv, 1) := by decide +kernel
theorem dX3_isLetter_44 : decode cX3_isLetter 44 = .ok (.istore_n 1, 1) := by decide +kernel
theorem dX3_isLetter_45 : decode cX3_isLetter 45 = .ok (.iinc 2 1, 3) := by decide +kernel
theorem dX3_isLetter_48 : decode cX3_isLetter 48 = .ok (.goto (-32), 3) := by decide +kernel
theorem dX3_isLetter_51 : decode cX3_isLetter 51 = .ok (.iconst 1, 1) := by decide +kernel
theorem dX3_isLetter_52 : decode cX3_isLetter 52 = .ok (.ireturn, 1) := by decide +kernel
theorem dX3_raised_0 : decode cX3_raised 0 = .ok (.iconst 0, 1) := by decide +kernel
theorem dX3_raised_1 : decode cX3_raised 1 = .ok (.istore_n 1, 1) := by decide +kernel
theorem dX3_raised_2 : decode cX3_raised 2 = .ok (.iload_n 0, 1) := by decide +kernel
theorem dX3_raised_3 : decode cX3_raised 3 = .ok (.istore_n 2, 1) := by decide +kernel
theorem dX3_raised_4 : decode cX3_raised 4 = .ok (.iconst 1, 1) := by decide +kernel
theorem dX3_raised_5 : decode cX3_raised 5 = .ok (.istore_n 3, 1) := by decide +kernel
theorem dX3_raised_6 : decode cX3_raised 6 = .ok (.iconst 0, 1) := by decide +kernel
theorem dX3_raised_7 : decode cX3_raised 7 = .ok (.istore 4, 2) := by decide +kernel
theorem dX3_raised_9 : decode cX3_raised 9 = .ok (.iload 4, 2) := by decide +kernel
theorem dX3_raised_11 : decode cX3_raised 11 = .ok (.bipush 6, 2) := by decide +kernel
theorem dX3_raised_13 : decode cX3_raised 13 = .ok (.if_icmp .ge 36, 3) := by decide +kernel
theorem dX3_raised_16 : decode cX3_raised 16 = .ok (.iload_n 2, 1) := by decide +kernel
theorem dX3_raised_17 : decode cX3_raised 17 = .ok (.ifCond .le 32, 3) := by decide +kernel
theorem dX3_raised_20 : decode cX3_raised 20 = .ok (.iload_n 1, 1) := by decide +kernel
theorem dX3_raised_21 : decode cX3_raised 21 = .ok (.iload_n 2, 1) := by decide +kernel
theorem dX3_raised_22 : decode cX3_raised 22 = .ok (.bipush 10, 2) := by decide +kernel
theorem dX3_raised_24 : decode cX3_raised 24 = .ok (.irem, 1) := by decide +kernel
theorem dX3_raised_25 : decode cX3_raised 25 = .ok (.iconst 4, 1) := by decide +kernel
theorem dX3_raised_26 : decode cX3_raised 26 = .ok (.irem, 1) := by decide +kernel
theorem dX3_raised_27 : decode cX3_raised 27 = .ok (.iconst 1, 1) := by decide +kernel
theorem dX3_raised_28 : decode cX3_raised 28 = .ok (.iadd, 1) := by decide +kernel
theorem dX3_raised_29 : decode cX3_raised 29 = .ok (.iload_n 3, 1) := by decide +kernel
theorem dX3_raised_30 : decode cX3_raised 30 = .ok (.imul, 1) := by decide +kernel
theorem dX3_raised_31 : decode cX3_raised 31 = .ok (.iadd, 1) := by decide +kernel
theorem dX3_raised_32 : decode cX3_raised 32 = .ok (.istore_n 1, 1) := by decide +kernel
theorem dX3_raised_33 : decode cX3_raised 33 = .ok (.iload_n 3, 1) := by decide +kernel
theorem dX3_raised_34 : decode cX3_raised 34 = .ok (.bipush 10, 2) := by decide +kernel
theorem dX3_raised_36 : decode cX3_raised 36 = .ok (.imul, 1) := by decide +kernel
theorem dX3_raised_37 : decode cX3_raised 37 = .ok (.istore_n 3, 1) := by decide +kernel
theorem dX3_raised_38 : decode cX3_raised 38 = .ok (.iload_n 2, 1) := by decide +kernel
theorem dX3_raised_39 : decode cX3_raised 39 = .ok (.bipush 10, 2) := by decide +kernel
theorem dX3_raised_41 : decode cX3_raised 41 = .ok (.idiv, 1) := by decide +kernel
theorem dX3_raised_42 : decode cX3_raised 42 = .ok (.istore_n 2, 1) := by decide +kernel
theorem dX3_raised_43 : decode cX3_raised 43 = .ok (.iinc 4 1, 3) := by decide +kernel
theorem dX3_raised_46 : decode cX3_raised 46 = .ok (.goto (-37), 3) := by decide +kernel
theorem dX3_raised_49 : decode cX3_raised 49 = .ok (.iload_n 1, 1) := by decide +kernel
theorem dX3_raised_50 : decode cX3_raised 50 = .ok (.ireturn, 1) := by decide +kernel
theorem dX3_turned_0 : decode cX3_turned 0 = .ok (.iconst 0, 1) := by decide +kernel
theorem dX3_turned_1 : decode cX3_turned 1 = .ok (.istore_n 1, 1) := by decide +kernel
theorem dX3_turned_2 : decode cX3_turned 2 = .ok (.iload_n 0, 1) := by decide +kernel
theorem dX3_turned_3 : decode cX3_turned 3 = .ok (.istore_n 2, 1) := by decide +kernel
theorem dX3_turned_4 : decode cX3_turned 4 = .ok (.iconst 0, 1) := by decide +kernel
theorem dX3_turned_5 : decode cX3_turned 5 = .ok (.istore_n 3, 1) := by decide +kernel
theorem dX3_turned_6 : decode cX3_turned 6 = .ok (.iload_n 3, 1) := by decide +kernel
theorem dX3_turned_7 : decode cX3_turned 7 = .ok (.bipush 6, 2) := by decide +kernel
theorem dX3_turned_9 : decode cX3_turned 9 = .ok (.if_icmp .ge 28, 3) := by decide +kernel
theorem dX3_turned_12 : decode cX3_turned 12 = .ok (.iload_n 2, 1) := by decide +kernel
theorem dX3_turned_13 : decode cX3_turned 13 = .ok (.ifCond .le 24, 3) := by decide +kernel
theorem dX3_turned_16 : decode cX3_turned 16 = .ok (.iload_n 1, 1) := by decide +kernel
theorem dX3_turned_17 : decode cX3_turned 17 = .ok (.bipush 10, 2) := by decide +kernel
theorem dX3_turned_19 : decode cX3_turned 19 = .ok (.imul, 1) := by decide +kernel
theorem dX3_turned_20 : decode cX3_turned 20 = .ok (.iload_n 2, 1) := by decide +kernel
theorem dX3_turned_21 : decode cX3_turned 21 = .ok (.bipush 10, 2) := by decide +kernel
theorem dX3_turned_23 : decode cX3_turned 23 = .ok (.irem, 1) := by decide +kernel
theorem dX3_turned_24 : decode cX3_turned 24 = .ok (.iadd, 1) := by decide +kernel
theorem dX3_turned_25 : decode cX3_turned 25 = .ok (.istore_n 1, 1) := by decide +kernel
theorem dX3_turned_26 : decode cX3_turned 26 = .ok (.iload_n 2, 1) := by decide +kernel
theorem dX3_turned_27 : decode cX3_turned 27 = .ok (.bipush 10, 2) := by decide +kernel
theorem dX3_turned_29 : decode cX3_turned 29 = .ok (.idiv, 1) := by decide +kernel
theorem dX3_turned_30 : decode cX3_turned 30 = .ok (.istore_n 2, 1) := by decide +kernel
theorem dX3_turned_31 : decode cX3_turned 31 = .ok (.iinc 3 1, 3) := by decide +kernel
theorem dX3_turned_34 : decode cX3_turned 34 = .ok (.goto (-28), 3) := by decide +kernel
theorem dX3_turned_37 : decode cX3_turned 37 = .ok (.iload_n 1, 1) := by decide +kernel
theorem dX3_turned_38 : decode cX3_turned 38 = .ok (.ireturn, 1) := by decide +kernel
theorem dX3_third_0 : decode cX3_third 0 = .ok (.iload_n 0, 1) := by decide +kernel
theorem dX3_third_1 : decode cX3_third 1 = .ok (.invokestatic 14, 3) := by decide +kernel
theorem dX3_third_4 : decode cX3_third 4 = .ok (.istore_n 2, 1) := by decide +kernel
theorem dX3_third_5 : decode cX3_third 5 = .ok (.iload_n 1, 1) := by decide +kernel
theorem dX3_third_6 : decode cX3_third 6 = .ok (.invokestatic 14, 3) := by decide +kernel
theorem dX3_third_9 : decode cX3_third 9 = .ok (.istore_n 3, 1) := by decide +kernel
theorem dX3_third_10 : decode cX3_third 10 = .ok (.iconst 0, 1) := by decide +kernel
theorem dX3_third_11 : decode cX3_third 11 = .ok (.istore 4, 2) := by decide +kernel
theorem dX3_third_13 : decode cX3_third 13 = .ok (.iconst 0, 1) := by decide +kernel
theorem dX3_third_14 : decode cX3_third 14 = .ok (.istore 5, 2) := by decide +kernel
theorem dX3_third_16 : decode cX3_third 16 = .ok (.iload 5, 2) := by decide +kernel
theorem dX3_third_18 : decode cX3_third 18 = .ok (.bipush 6, 2) := by decide +kernel
theorem dX3_third_20 : decode cX3_third 20 = .ok (.if_icmp .ge 46, 3) := by decide +kernel
theorem dX3_third_23 : decode cX3_third 23 = .ok (.iload_n 2, 1) := by decide +kernel
theorem dX3_third_24 : decode cX3_third 24 = .ok (.ifCond .gt 7, 3) := by decide +kernel
theorem dX3_third_27 : decode cX3_third 27 = .ok (.iload_n 3, 1) := by decide +kernel
theorem dX3_third_28 : decode cX3_third 28 = .ok (.ifCond .le 38, 3) := by decide +kernel
theorem dX3_third_31 : decode cX3_third 31 = .ok (.iload 4, 2) := by decide +kernel
theorem dX3_third_33 : decode cX3_third 33 = .ok (.bipush 10, 2) := by decide +kernel
theorem dX3_third_35 : decode cX3_third 35 = .ok (.imul, 1) := by decide +kernel
theorem dX3_third_36 : decode cX3_third 36 = .ok (.iload_n 2, 1) := by decide +kernel
theorem dX3_third_37 : decode cX3_third 37 = .ok (.bipush 10, 2) := by decide +kernel
theorem dX3_third_39 : decode cX3_third 39 = .ok (.irem, 1) := by decide +kernel
theorem dX3_third_40 : decode cX3_third 40 = .ok (.iload_n 3, 1) := by decide +kernel
theorem dX3_third_41 : decode cX3_third 41 = .ok (.bipush 10, 2) := by decide +kernel
theorem dX3_third_43 : decode cX3_third 43 = .ok (.irem, 1) := by decide +kernel
theorem dX3_third_44 : decode cX3_third 44 = .ok (.invokestatic 20, 3) := by decide +kernel
theorem dX3_third_47 : decode cX3_third 47 = .ok (.iadd, 1) := by decide +kernel
theorem dX3_third_48 : decode cX3_third 48 = .ok (.istore 4, 2) := by decide +kernel
theorem dX3_third_50 : decode cX3_third 50 = .ok (.iload_n 2, 1) := by decide +kernel
theorem dX3_third_51 : decode cX3_third 51 = .ok (.bipush 10, 2) := by decide +kernel
theorem dX3_third_53 : decode cX3_third 53 = .ok (.idiv, 1) := by decide +kernel
theorem dX3_third_54 : decode cX3_third 54 = .ok (.istore_n 2, 1) := by decide +kernel
theorem dX3_third_55 : decode cX3_third 55 = .ok (.iload_n 3, 1) := by decide +kernel
theorem dX3_third_56 : decode cX3_third 56 = .ok (.bipush 10, 2) := by decide +kernel
theorem dX3_third_58 : decode cX3_third 58 = .ok (.idiv, 1) := by decide +kernel
theorem dX3_third_59 : decode cX3_third 59 = .ok (.istore_n 3, 1) := by decide +kernel
theorem dX3_third_60 : decode cX3_third 60 = .ok (.iinc 5 1, 3) := by decide +kernel
theorem dX3_third_63 : decode cX3_third 63 = .ok (.goto (-47), 3) := by decide +kernel
theorem dX3_third_66 : decode cX3_third 66 = .ok (.iload 4, 2) := by decide +kernel
theorem dX3_third_68 : decode cX3_third 68 = .ok (.ireturn, 1) := by decide +kernel
theorem dX3_together_0 : decode cX3_together 0 = .ok (.iload_n 0, 1) := by decide +kernel
theorem dX3_together_1 : decode cX3_together 1 = .ok (.ifCond .eq 7, 3) := by decide +kernel
theorem dX3_together_4 : decode cX3_together 4 = .ok (.iload_n 1, 1) := by decide +kernel
theorem dX3_together_5 : decode cX3_together 5 = .ok (.ifCond .ne 7, 3) := by decide +kernel
theorem dX3_together_8 : decode cX3_together 8 = .ok (.iload_n 0, 1) := by decide +kernel
theorem dX3_together_9 : decode cX3_together 9 = .ok (.iload_n 1, 1) := by decide +kernel
theorem dX3_together_10 : decode cX3_together 10 = .ok (.iadd, 1) := by decide +kernel
theorem dX3_together_11 : decode cX3_together 11 = .ok (.ireturn, 1) := by decide +kernel
theorem dX3_together_12 : decode cX3_together 12 = .ok (.iload_n 0, 1) := by decide +kernel
theorem dX3_together_13 : decode cX3_together 13 = .ok (.iload_n 1, 1) := by decide +kernel
theorem dX3_together_14 : decode cX3_together 14 = .ok (.iadd, 1) := by decide +kernel
theorem dX3_together_15 : decode cX3_together 15 = .ok (.iconst 1, 1) := by decide +kernel
theorem dX3_together_16 : decode cX3_together 16 = .ok (.isub, 1) := by decide +kernel
theorem dX3_together_17 : decode cX3_together 17 = .ok (.istore_n 2, 1) := by decide +kernel
theorem dX3_together_18 : decode cX3_together 18 = .ok (.iload_n 2, 1) := by decide +kernel
theorem dX3_together_19 : decode cX3_together 19 = .ok (.iconst 4, 1) := by decide +kernel
theorem dX3_together_20 : decode cX3_together 20 = .ok (.if_icmp .le 9, 3) := by decide +kernel
theorem dX3_together_23 : decode cX3_together 23 = .ok (.iload_n 2, 1) := by decide +kernel
theorem dX3_together_24 : decode cX3_together 24 = .ok (.iconst 4, 1) := by decide +kernel
theorem dX3_together_25 : decode cX3_together 25 = .ok (.isub, 1) := by decide +kernel
theorem dX3_together_26 : decode cX3_together 26 = .ok (.goto 4, 3) := by decide +kernel
theorem dX3_together_29 : decode cX3_together 29 = .ok (.iload_n 2, 1) := by decide +kernel
theorem dX3_together_30 : decode cX3_together 30 = .ok (.ireturn, 1) := by decide +kernel
theorem dX3_shortLetter_0 : decode cX3_shortLetter 0 = .ok (.iconst 0, 1) := by decide +kernel
theorem dX3_shortLetter_1 : decode cX3_shortLetter 1 = .ok (.istore_n 1, 1) := by decide +kernel
theorem dX3_shortLetter_2 : decode cX3_shortLetter 2 = .ok (.iload_n 0, 1) := by decide +kernel
theorem dX3_shortLetter_3 : decode cX3_shortLetter 3 = .ok (.istore_n 2, 1) := by decide +kernel
theorem dX3_shortLetter_4 : decode cX3_shortLetter 4 = .ok (.iconst 1, 1) := by decide +kernel
theorem dX3_shortLetter_5 : decode cX3_shortLetter 5 = .ok (.istore_n 3, 1) := by decide +kernel
theorem dX3_shortLetter_6 : decode cX3_shortLetter 6 = .ok (.iconst 0, 1) := by decide +kernel
theorem dX3_shortLetter_7 : decode cX3_shortLetter 7 = .ok (.istore 4, 2) := by decide +kernel
theorem dX3_shortLetter_9 : decode cX3_shortLetter 9 = .ok (.iload 4, 2) := by decide +kernel
theorem dX3_shortLetter_11 : decode cX3_shortLetter 11 = .ok (.iconst 3, 1) := by decide +kernel
theorem dX3_shortLetter_12 : decode cX3_shortLetter 12 = .ok (.if_icmp .ge 36, 3) := by decide +kernel
theorem dX3_shortLetter_15 : decode cX3_shortLetter 15 = .ok (.iload_n 2, 1) := by decide +kernel
theorem dX3_shortLetter_16 : decode cX3_shortLetter 16 = .ok (.ifCond .le 32, 3) := by decide +kernel
theorem dX3_shortLetter_19 : decode cX3_shortLetter 19 = .ok (.iload_n 1, 1) := by decide +kernel
theorem dX3_shortLetter_20 : decode cX3_shortLetter 20 = .ok (.iload_n 2, 1) := by decide +kernel
theorem dX3_shortLetter_21 : decode cX3_shortLetter 21 = .ok (.iconst 1, 1) := by decide +kernel
theorem dX3_shortLetter_22 : decode cX3_shortLetter 22 = .ok (.isub, 1) := by decide +kernel
theorem dX3_shortLetter_23 : decode cX3_shortLetter 23 = .ok (.iconst 4, 1) := by decide +kernel
theorem dX3_shortLetter_24 : decode cX3_shortLetter 24 = .ok (.irem, 1) := by decide +kernel
theorem dX3_shortLetter_25 : decode cX3_shortLetter 25 = .ok (.iconst 1, 1) := by decide +kernel
theorem dX3_shortLetter_26 : decode cX3_shortLetter 26 = .ok (.iadd, 1) := by decide +kernel
theorem dX3_shortLetter_27 : decode cX3_shortLetter 27 = .ok (.iload_n 3, 1) := by decide +kernel
theorem dX3_shortLetter_28 : decode cX3_shortLetter 28 = .ok (.imul, 1) := by decide +kernel
theorem dX3_shortLetter_29 : decode cX3_shortLetter 29 = .ok (.iadd, 1) := by decide +kernel
theorem dX3_shortLetter_30 : decode cX3_shortLetter 30 = .ok (.istore_n 1, 1) := by decide +kernel
theorem dX3_shortLetter_31 : decode cX3_shortLetter 31 = .ok (.iload_n 3, 1) := by decide +kernel
theorem dX3_shortLetter_32 : decode cX3_shortLetter 32 = .ok (.bipush 10, 2) := by decide +kernel
theorem dX3_shortLetter_34 : decode cX3_shortLetter 34 = .ok (.imul, 1) := by decide +kernel
theorem dX3_shortLetter_35 : decode cX3_shortLetter 35 = .ok (.istore_n 3, 1) := by decide +kernel
theorem dX3_shortLetter_36 : decode cX3_shortLetter 36 = .ok (.iload_n 2, 1) := by decide +kernel
theorem dX3_shortLetter_37 : decode cX3_shortLetter 37 = .ok (.iconst 1, 1) := by decide +kernel
theorem dX3_shortLetter_38 : decode cX3_shortLetter 38 = .ok (.isub, 1) := by decide +kernel
theorem dX3_shortLetter_39 : decode cX3_shortLetter 39 = .ok (.iconst 4, 1) := by decide +kernel
theorem dX3_shortLetter_40 : decode cX3_shortLetter 40 = .ok (.idiv, 1) := by decide +kernel
theorem dX3_shortLetter_41 : decode cX3_shortLetter 41 = .ok (.istore_n 2, 1) := by decide +kernel
theorem dX3_shortLetter_42 : decode cX3_shortLetter 42 = .ok (.iinc 4 1, 3) := by decide +kernel
theorem dX3_shortLetter_45 : decode cX3_shortLetter 45 = .ok (.goto (-36), 3) := by decide +kernel
theorem dX3_shortLetter_48 : decode cX3_shortLetter 48 = .ok (.iload_n 1, 1) := by decide +kernel
theorem dX3_shortLetter_49 : decode cX3_shortLetter 49 = .ok (.ireturn, 1) := by decide +kernel
theorem dX4_init_0 : decode cX4_init 0 = .ok (.aload_n 0, 1) := by decide +kernel
theorem dX4_init_1 : decode cX4_init 1 = .ok (.invokespecial 1, 3) := by decide +kernel
theorem dX4_init_4 : decode cX4_init 4 = .ok (.return_, 1) := by decide +kernel
theorem dX4_lasts_0 : decode cX4_lasts 0 = .ok (.aload_n 0, 1) := by decide +kernel
theorem dX4_lasts_1 : decode cX4_lasts 1 = .ok (.iload_n 1, 1) := by decide +kernel
theorem dX4_lasts_2 : decode cX4_lasts 2 = .ok (.invokespecial 7, 3) := by decide +kernel
theorem dX4_lasts_5 : decode cX4_lasts 5 = .ok (.iconst 1, 1) := by decide +kernel
theorem dX4_lasts_6 : decode cX4_lasts 6 = .ok (.iadd, 1) := by decide +kernel
theorem dX4_lasts_7 : decode cX4_lasts 7 = .ok (.ireturn, 1) := by decide +kernel
theorem dX5_init_0 : decode cX5_init 0 = .ok (.aload_n 0, 1) := by decide +kernel
theorem dX5_init_1 : decode cX5_init 1 = .ok (.invokespecial 1, 3) := by decide +kernel
theorem dX5_init_4 : decode cX5_init 4 = .ok (.return_, 1) := by decide +kernel
theorem dX5_copied_0 : decode cX5_copied 0 = .ok (.iload_n 1, 1) := by decide +kernel
theorem dX5_copied_1 : decode cX5_copied 1 = .ok (.ireturn, 1) := by decide +kernel
theorem dX5_lasts_0 : decode cX5_lasts 0 = .ok (.iconst 1, 1) := by decide +kernel
theorem dX5_lasts_1 : decode cX5_lasts 1 = .ok (.ireturn, 1) := by decide +kernel
theorem dX6_init_0 : decode cX6_init 0 = .ok (.aload_n 0, 1) := by decide +kernel
theorem dX6_init_1 : decode cX6_init 1 = .ok (.invokespecial 1, 3) := by decide +kernel
theorem dX6_init_4 : decode cX6_init 4 = .ok (.return_, 1) := by decide +kernel
theorem dX6_copied_0 : decode cX6_copied 0 = .ok (.iload_n 2, 1) := by decide +kernel
theorem dX6_copied_1 : decode cX6_copied 1 = .ok (.iconst 2, 1) := by decide +kernel
theorem dX6_copied_2 : decode cX6_copied 2 = .ok (.irem, 1) := by decide +kernel
theorem dX6_copied_3 : decode cX6_copied 3 = .ok (.ifCond .ne 7, 3) := by decide +kernel
theorem dX6_copied_6 : decode cX6_copied 6 = .ok (.iload_n 1, 1) := by decide +kernel
theorem dX6_copied_7 : decode cX6_copied 7 = .ok (.goto 9, 3) := by decide +kernel
theorem dX6_copied_10 : decode cX6_copied 10 = .ok (.aload_n 0, 1) := by decide +kernel
theorem dX6_copied_11 : decode cX6_copied 11 = .ok (.iload_n 1, 1) := by decide +kernel
theorem dX6_copied_12 : decode cX6_copied 12 = .ok (.iload_n 2, 1) := by decide +kernel
theorem dX6_copied_13 : decode cX6_copied 13 = .ok (.invokespecial 7, 3) := by decide +kernel
theorem dX6_copied_16 : decode cX6_copied 16 = .ok (.ireturn, 1) := by decide +kernel
theorem dX6_lasts_0 : decode cX6_lasts 0 = .ok (.iload_n 1, 1) := by decide +kernel
theorem dX6_lasts_1 : decode cX6_lasts 1 = .ok (.iconst 4, 1) := by decide +kernel
theorem dX6_lasts_2 : decode cX6_lasts 2 = .ok (.irem, 1) := by decide +kernel
theorem dX6_lasts_3 : decode cX6_lasts 3 = .ok (.ifCond .ne 13, 3) := by decide +kernel
theorem dX6_lasts_6 : decode cX6_lasts 6 = .ok (.aload_n 0, 1) := by decide +kernel
theorem dX6_lasts_7 : decode cX6_lasts 7 = .ok (.iload_n 1, 1) := by decide +kernel
theorem dX6_lasts_8 : decode cX6_lasts 8 = .ok (.invokespecial 11, 3) := by decide +kernel
theorem dX6_lasts_11 : decode cX6_lasts 11 = .ok (.iconst 3, 1) := by decide +kernel
theorem dX6_lasts_12 : decode cX6_lasts 12 = .ok (.iadd, 1) := by decide +kernel
theorem dX6_lasts_13 : decode cX6_lasts 13 = .ok (.goto 8, 3) := by decide +kernel
theorem dX6_lasts_16 : decode cX6_lasts 16 = .ok (.aload_n 0, 1) := by decide +kernel
theorem dX6_lasts_17 : decode cX6_lasts 17 = .ok (.iload_n 1, 1) := by decide +kernel
theorem dX6_lasts_18 : decode cX6_lasts 18 = .ok (.invokespecial 11, 3) := by decide +kernel
theorem dX6_lasts_21 : decode cX6_lasts 21 = .ok (.ireturn, 1) := by decide +kernel
theorem dX7_init_0 : decode cX7_init 0 = .ok (.aload_n 0, 1) := by decide +kernel
theorem dX7_init_1 : decode cX7_init 1 = .ok (.invokespecial 3, 3) := by decide +kernel
theorem dX7_init_4 : decode cX7_init 4 = .ok (.aload_n 0, 1) := by decide +kernel
theorem dX7_init_5 : decode cX7_init 5 = .ok (.sipush 896, 3) := by decide +kernel
theorem dX7_init_8 : decode cX7_init 8 = .ok (.newarray .int, 2) := by decide +kernel
theorem dX7_init_10 : decode cX7_init 10 = .ok (.putfield 9, 3) := by decide +kernel
theorem dX7_init_13 : decode cX7_init 13 = .ok (.aload_n 0, 1) := by decide +kernel
theorem dX7_init_14 : decode cX7_init 14 = .ok (.bipush 7, 2) := by decide +kernel
theorem dX7_init_16 : decode cX7_init 16 = .ok (.newarray .int, 2) := by decide +kernel
theorem dX7_init_18 : decode cX7_init 18 = .ok (.putfield 15, 3) := by decide +kernel
theorem dX7_init_21 : decode cX7_init 21 = .ok (.aload_n 0, 1) := by decide +kernel
theorem dX7_init_22 : decode cX7_init 22 = .ok (.aload_n 1, 1) := by decide +kernel
theorem dX7_init_23 : decode cX7_init 23 = .ok (.putfield 18, 3) := by decide +kernel
theorem dX7_init_26 : decode cX7_init 26 = .ok (.aload_n 0, 1) := by decide +kernel
theorem dX7_init_27 : decode cX7_init 27 = .ok (.aload_n 2, 1) := by decide +kernel
theorem dX7_init_28 : decode cX7_init 28 = .ok (.putfield 22, 3) := by decide +kernel
theorem dX7_init_31 : decode cX7_init 31 = .ok (.return_, 1) := by decide +kernel
theorem dX7_isTold_0 : decode cX7_isTold 0 = .ok (.iload_n 1, 1) := by decide +kernel
theorem dX7_isTold_1 : decode cX7_isTold 1 = .ok (.iconst 1, 1) := by decide +kernel
theorem dX7_isTold_2 : decode cX7_isTold 2 = .ok (.if_icmp .lt 9, 3) := by decide +kernel
theorem dX7_isTold_5 : decode cX7_isTold 5 = .ok (.iload_n 1, 1) := by decide +kernel
theorem dX7_isTold_6 : decode cX7_isTold 6 = .ok (.ldc 26, 2) := by decide +kernel
theorem dX7_isTold_8 : decode cX7_isTold 8 = .ok (.if_icmp .le 5, 3) := by decide +kernel
theorem dX7_isTold_11 : decode cX7_isTold 11 = .ok (.iconst 0, 1) := by decide +kernel
theorem dX7_isTold_12 : decode cX7_isTold 12 = .ok (.ireturn, 1) := by decide +kernel
theorem dX7_isTold_13 : decode cX7_isTold 13 = .ok (.iconst 0, 1) := by decide +kernel
theorem dX7_isTold_14 : decode cX7_isTold 14 = .ok (.istore_n 2, 1) := by decide +kernel
theorem dX7_isTold_15 : decode cX7_isTold 15 = .ok (.iload_n 1, 1) := by decide +kernel
theorem dX7_isTold_16 : decode cX7_isTold 16 = .ok (.istore_n 3, 1) := by decide +kernel
theorem dX7_isTold_17 : decode cX7_isTold 17 = .ok (.iconst 0, 1) := by decide +kernel
theorem dX7_isTold_18 : decode cX7_isTold 18 = .ok (.istore 4, 2) := by decide +kernel
theorem dX7_isTold_20 : decode cX7_isTold 20 = .ok (.iload 4, 2) := by decide +kernel
theorem dX7_isTold_22 : decode cX7_isTold 22 = .ok (.bipush 7, 2) := by decide +kernel
theorem dX7_isTold_24 : decode cX7_isTold 24 = .ok (.if_icmp .ge 59, 3) := by decide +kernel
theorem dX7_isTold_27 : decode cX7_isTold 27 = .ok (.iload_n 3, 1) := by decide +kernel
theorem dX7_isTold_28 : decode cX7_isTold 28 = .ok (.ifCond .le 55, 3) := by decide +kernel
theorem dX7_isTold_31 : decode cX7_isTold 31 = .ok (.iload_n 3, 1) := by decide +kernel
theorem dX7_isTold_32 : decode cX7_isTold 32 = .ok (.bipush 10, 2) := by decide +kernel
theorem dX7_isTold_34 : decode cX7_isTold 34 = .ok (.irem, 1) := by decide +kernel
theorem dX7_isTold_35 : decode cX7_isTold 35 = .ok (.istore 5, 2) := by decide +kernel
theorem dX7_isTold_37 : decode cX7_isTold 37 = .ok (.iload 5, 2) := by decide +kernel
theorem dX7_isTold_39 : decode cX7_isTold 39 = .ok (.iconst 1, 1) := by decide +kernel
theorem dX7_isTold_40 : decode cX7_isTold 40 = .ok (.aload_n 0, 1) := by decide +kernel
theorem dX7_isTold_41 : decode cX7_isTold 41 = .ok (.getfield 18, 3) := by decide +kernel
theorem dX7_isTold_44 : decode cX7_isTold 44 = .ok (.getfield 27, 3) := by decide +kernel
theorem dX7_isTold_47 : decode cX7_isTold 47 = .ok (.invokestatic 33, 3) := by decide +kernel
theorem dX7_isTold_50 : decode cX7_isTold 50 = .ok (.ifCond .eq 13, 3) := by decide +kernel
theorem dX7_isTold_53 : decode cX7_isTold 53 = .ok (.iload_n 2, 1) := by decide +kernel
theorem dX7_isTold_54 : decode cX7_isTold 54 = .ok (.iload 5, 2) := by decide +kernel
theorem dX7_isTold_56 : decode cX7_isTold 56 = .ok (.ishr, 1) := by decide +kernel
theorem dX7_isTold_57 : decode cX7_isTold 57 = .ok (.iconst 1, 1) := by decide +kernel
theorem dX7_isTold_58 : decode cX7_isTold 58 = .ok (.iand, 1) := by decide +kernel
theorem dX7_isTold_59 : decode cX7_isTold 59 = .ok (.iconst 1, 1) := by decide +kernel
theorem dX7_isTold_60 : decode cX7_isTold 60 = .ok (.if_icmp .ne 5, 3) := by decide +kernel
theorem dX7_isTold_63 : decode cX7_isTold 63 = .ok (.iconst 0, 1) := by decide +kernel
theorem dX7_isTold_64 : decode cX7_isTold 64 = .ok (.ireturn, 1) := by decide +kernel
theorem dX7_isTold_65 : decode cX7_isTold 65 = .ok (.iload_n 2, 1) := by decide +kernel
theorem dX7_isTold_66 : decode cX7_isTold 66 = .ok (.iconst 1, 1) := by decide +kernel
theorem dX7_isTold_67 : decode cX7_isTold 67 = .ok (.iload 5, 2) := by decide +kernel
theorem dX7_isTold_69 : decode cX7_isTold 69 = .ok (.ishl, 1) := by decide +kernel
theorem dX7_isTold_70 : decode cX7_isTold 70 = .ok (.ior, 1) := by decide +kernel
theorem dX7_isTold_71 : decode cX7_isTold 71 = .ok (.istore_n 2, 1) := by decide +kernel
theorem dX7_isTold_72 : decode cX7_isTold 72 = .ok (.iload_n 3, 1) := by decide +kernel
theorem dX7_isTold_73 : decode cX7_isTold 73 = .ok (.bipush 10, 2) := by decide +kernel
theorem dX7_isTold_75 : decode cX7_isTold 75 = .ok (.idiv, 1) := by decide +kernel
theorem dX7_isTold_76 : decode cX7_isTold 76 = .ok (.istore_n 3, 1) := by decide +kernel
theorem dX7_isTold_77 : decode cX7_isTold 77 = .ok (.iinc 4 1, 3) := by decide +kernel
theorem dX7_isTold_80 : decode cX7_isTold 80 = .ok (.goto (-60), 3) := by decide +kernel
theorem dX7_isTold_83 : decode cX7_isTold 83 = .ok (.iconst 1, 1) := by decide +kernel
theorem dX7_isTold_84 : decode cX7_isTold 84 = .ok (.ireturn, 1) := by decide +kernel
theorem dX7_stands_0 : decode cX7_stands 0 = .ok (.iconst (-1), 1) := by decide +kernel
theorem dX7_stands_1 : decode cX7_stands 1 = .ok (.istore_n 2, 1) := by decide +kernel
theorem dX7_stands_2 : decode cX7_stands 2 = .ok (.ldc 37, 2) := by decide +kernel
theorem dX7_stands_4 : decode cX7_stands 4 = .ok (.istore_n 3, 1) := by decide +kernel
theorem dX7_stands_5 : decode cX7_stands 5 = .ok (.iload_n 3, 1) := by decide +kernel
theorem dX7_stands_6 : decode cX7_stands 6 = .ok (.ifCond .le 98, 3) := by decide +kernel
theorem dX7_stands_9 : decode cX7_stands 9 = .ok (.iload_n 1, 1) := by decide +kernel
theorem dX7_stands_10 : decode cX7_stands 10 = .ok (.iload_n 3, 1) := by decide +kernel
theorem dX7_stands_11 : decode cX7_stands 11 = .ok (.idiv, 1) := by decide +kernel
theorem dX7_stands_12 : decode cX7_stands 12 = .ok (.bipush 10, 2) := by decide +kernel
theorem dX7_stands_14 : decode cX7_stands 14 = .ok (.irem, 1) := by decide +kernel
theorem dX7_stands_15 : decode cX7_stands 15 = .ok (.iconst 1, 1) := by decide +kernel
theorem dX7_stands_16 : decode cX7_stands 16 = .ok (.isub, 1) := by decide +kernel
theorem dX7_stands_17 : decode cX7_stands 17 = .ok (.istore 4, 2) := by decide +kernel
theorem dX7_stands_19 : decode cX7_stands 19 = .ok (.iload 4, 2) := by decide +kernel
theorem dX7_stands_21 : decode cX7_stands 21 = .ok (.iconst 0, 1) := by decide +kernel
theorem dX7_stands_22 : decode cX7_stands 22 = .ok (.aload_n 0, 1) := by decide +kernel
theorem dX7_stands_23 : decode cX7_stands 23 = .ok (.getfield 18, 3) := by decide +kernel
theorem dX7_stands_26 : decode cX7_stands 26 = .ok (.getfield 27, 3) := by decide +kernel
theorem dX7_stands_29 : decode cX7_stands 29 = .ok (.iconst 1, 1) := by decide +kernel
theorem dX7_stands_30 : decode cX7_stands 30 = .ok (.isub, 1) := by decide +kernel
theorem dX7_stands_31 : decode cX7_stands 31 = .ok (.invokestatic 33, 3) := by decide +kernel
theorem dX7_stands_34 : decode cX7_stands 34 = .ok (.ifCond .ne 6, 3) := by decide +kernel
theorem dX7_stands_37 : decode cX7_stands 37 = .ok (.goto 59, 3) := by decide +kernel
theorem dX7_stands_40 : decode cX7_stands 40 = .ok (.iload_n 2, 1) := by decide +kernel
theorem dX7_stands_41 : decode cX7_stands 41 = .ok (.iconst (-1), 1) := by decide +kernel
theorem dX7_stands_42 : decode cX7_stands 42 = .ok (.if_icmp .eq 21, 3) := by decide +kernel
theorem dX7_stands_45 : decode cX7_stands 45 = .ok (.aload_n 0, 1) := by decide +kernel
theorem dX7_stands_46 : decode cX7_stands 46 = .ok (.getfield 18, 3) := by decide +kernel
theorem dX7_stands_49 : decode cX7_stands 49 = .ok (.getfield 38, 3) := by decide +kernel
theorem dX7_stands_52 : decode cX7_stands 52 = .ok (.iload 4, 2) := by decide +kernel
theorem dX7_stands_54 : decode cX7_stands 54 = .ok (.iaload, 1) := by decide +kernel
theorem dX7_stands_55 : decode cX7_stands 55 = .ok (.iload_n 2, 1) := by decide +kernel
theorem dX7_stands_56 : decode cX7_stands 56 = .ok (.ishr, 1) := by decide +kernel
theorem dX7_stands_57 : decode cX7_stands 57 = .ok (.iconst 1, 1) := by decide +kernel
theorem dX7_stands_58 : decode cX7_stands 58 = .ok (.iand, 1) := by decide +kernel
theorem dX7_stands_59 : decode cX7_stands 59 = .ok (.iconst 1, 1) := by decide +kernel
theorem dX7_stands_60 : decode cX7_stands 60 = .ok (.if_icmp .ne 7, 3) := by decide +kernel
theorem dX7_stands_63 : decode cX7_stands 63 = .ok (.iconst 1, 1) := by decide +kernel
theorem dX7_stands_64 : decode cX7_stands 64 = .ok (.goto 4, 3) := by decide +kernel
theorem dX7_stands_67 : decode cX7_stands 67 = .ok (.iconst 0, 1) := by decide +kernel
theorem dX7_stands_68 : decode cX7_stands 68 = .ok (.istore 5, 2) := by decide +kernel
theorem dX7_stands_70 : decode cX7_stands 70 = .ok (.iload 5, 2) := by decide +kernel
theorem dX7_stands_72 : decode cX7_stands 72 = .ok (.ifCond .eq 19, 3) := by decide +kernel
theorem dX7_stands_75 : decode cX7_stands 75 = .ok (.aload_n 0, 1) := by decide +kernel
theorem dX7_stands_76 : decode cX7_stands 76 = .ok (.getfield 18, 3) := by decide +kernel
theorem dX7_stands_79 : decode cX7_stands 79 = .ok (.getfield 41, 3) := by decide +kernel
theorem dX7_stands_82 : decode cX7_stands 82 = .ok (.iload 4, 2) := by decide +kernel
theorem dX7_stands_84 : decode cX7_stands 84 = .ok (.ishr, 1) := by decide +kernel
theorem dX7_stands_85 : decode cX7_stands 85 = .ok (.iconst 1, 1) := by decide +kernel
theorem dX7_stands_86 : decode cX7_stands 86 = .ok (.iand, 1) := by decide +kernel
theorem dX7_stands_87 : decode cX7_stands 87 = .ok (.iconst 1, 1) := by decide +kernel
theorem dX7_stands_88 : decode cX7_stands 88 = .ok (.if_icmp .ne 5, 3) := by decide +kernel
theorem dX7_stands_91 : decode cX7_stands 91 = .ok (.iconst 0, 1) := by decide +kernel
theorem dX7_stands_92 : decode cX7_stands 92 = .ok (.ireturn, 1) := by decide +kernel
theorem dX7_stands_93 : decode cX7_stands 93 = .ok (.iload 4, 2) := by decide +kernel
theorem dX7_stands_95 : decode cX7_stands 95 = .ok (.istore_n 2, 1) := by decide +kernel
theorem dX7_stands_96 : decode cX7_stands 96 = .ok (.iload_n 3, 1) := by decide +kernel
theorem dX7_stands_97 : decode cX7_stands 97 = .ok (.bipush 10, 2) := by decide +kernel
theorem dX7_stands_99 : decode cX7_stands 99 = .ok (.idiv, 1) := by decide +kernel
theorem dX7_stands_100 : decode cX7_stands 100 = .ok (.istore_n 3, 1) := by decide +kernel
theorem dX7_stands_101 : decode cX7_stands 101 = .ok (.goto (-96), 3) := by decide +kernel
theorem dX7_stands_104 : decode cX7_stands 104 = .ok (.iconst 1, 1) := by decide +kernel
theorem dX7_stands_105 : decode cX7_stands 105 = .ok (.ireturn, 1) := by decide +kernel
theorem dX7_follow_0 : decode cX7_follow 0 = .ok (.aload_n 0, 1) := by decide +kernel
theorem dX7_follow_1 : decode cX7_follow 1 = .ok (.iload_n 1, 1) := by decide +kernel
theorem dX7_follow_2 : decode cX7_follow 2 = .ok (.putfield 44, 3) := by decide +kernel
theorem dX7_follow_5 : decode cX7_follow 5 = .ok (.aload_n 0, 1) := by decide +kernel
theorem dX7_follow_6 : decode cX7_follow 6 = .ok (.iconst 0, 1) := by decide +kernel
theorem dX7_follow_7 : decode cX7_follow 7 = .ok (.putfield 47, 3) := by decide +kernel
theorem dX7_follow_10 : decode cX7_follow 10 = .ok (.aload_n 0, 1) := by decide +kernel
theorem dX7_follow_11 : decode cX7_follow 11 = .ok (.iload_n 2, 1) := by decide +kernel
theorem dX7_follow_12 : decode cX7_follow 12 = .ok (.putfield 50, 3) := by decide +kernel
theorem dX7_follow_15 : decode cX7_follow 15 = .ok (.ldc 37, 2) := by decide +kernel
theorem dX7_follow_17 : decode cX7_follow 17 = .ok (.istore 4, 2) := by decide +kernel
theorem dX7_follow_19 : decode cX7_follow 19 = .ok (.iload 4, 2) := by decide +kernel
theorem dX7_follow_21 : decode cX7_follow 21 = .ok (.ifCond .le 98, 3) := by decide +kernel
theorem dX7_follow_24 : decode cX7_follow 24 = .ok (.iload_n 1, 1) := by decide +kernel
theorem dX7_follow_25 : decode cX7_follow 25 = .ok (.iload 4, 2) := by decide +kernel
theorem dX7_follow_27 : decode cX7_follow 27 = .ok (.idiv, 1) := by decide +kernel
theorem dX7_follow_28 : decode cX7_follow 28 = .ok (.bipush 10, 2) := by decide +kernel
theorem dX7_follow_30 : decode cX7_follow 30 = .ok (.irem, 1) := by decide +kernel
theorem dX7_follow_31 : decode cX7_follow 31 = .ok (.iconst 1, 1) := by decide +kernel
theorem dX7_follow_32 : decode cX7_follow 32 = .ok (.isub, 1) := by decide +kernel
theorem dX7_follow_33 : decode cX7_follow 33 = .ok (.istore 5, 2) := by decide +kernel
theorem dX7_follow_35 : decode cX7_follow 35 = .ok (.iload 5, 2) := by decide +kernel
theorem dX7_follow_37 : decode cX7_follow 37 = .ok (.iconst 0, 1) := by decide +kernel
theorem dX7_follow_38 : decode cX7_follow 38 = .ok (.aload_n 0, 1) := by decide +kernel
theorem dX7_follow_39 : decode cX7_follow 39 = .ok (.getfield 18, 3) := by decide +kernel
theorem dX7_follow_42 : decode cX7_follow 42 = .ok (.getfield 27, 3) := by decide +kernel
theorem dX7_follow_45 : decode cX7_follow 45 = .ok (.iconst 1, 1) := by decide +kernel
theorem dX7_follow_46 : decode cX7_follow 46 = .ok (.isub, 1) := by decide +kernel
theorem dX7_follow_47 : decode cX7_follow 47 = .ok (.invokestatic 33, 3) := by decide +kernel
theorem dX7_follow_50 : decode cX7_follow 50 = .ok (.ifCond .eq 59, 3) := by decide +kernel
theorem dX7_follow_53 : decode cX7_follow 53 = .ok (.aload_n 0, 1) := by decide +kernel
theorem dX7_follow_54 : decode cX7_follow 54 = .ok (.getfield 22, 3) := by decide +kernel
theorem dX7_follow_57 : decode cX7_follow 57 = .ok (.aload_n 0, 1) := by decide +kernel
theorem dX7_follow_58 : decode cX7_follow 58 = .ok (.getfield 18, 3) := by decide +kernel
theorem dX7_follow_61 : decode cX7_follow 61 = .ok (.getfield 53, 3) := by decide +kernel
theorem dX7_follow_64 : decode cX7_follow 64 = .ok (.iload 5, 2) := by decide +kernel
theorem dX7_follow_66 : decode cX7_follow 66 = .ok (.iaload, 1) := by decide +kernel
theorem dX7_follow_67 : decode cX7_follow 67 = .ok (.aaload, 1) := by decide +kernel
theorem dX7_follow_68 : decode cX7_follow 68 = .ok (.astore 6, 2) := by decide +kernel
theorem dX7_follow_70 : decode cX7_follow 70 = .ok (.aload_n 0, 1) := by decide +kernel
theorem dX7_follow_71 : decode cX7_follow 71 = .ok (.aload 6, 2) := by decide +kernel
theorem dX7_follow_73 : decode cX7_follow 73 = .ok (.aload_n 0, 1) := by decide +kernel
theorem dX7_follow_74 : decode cX7_follow 74 = .ok (.getfield 50, 3) := by decide +kernel
theorem dX7_follow_77 : decode cX7_follow 77 = .ok (.iload_n 3, 1) := by decide +kernel
theorem dX7_follow_78 : decode cX7_follow 78 = .ok (.aload_n 0, 1) := by decide +kernel
theorem dX7_follow_79 : decode cX7_follow 79 = .ok (.getfield 47, 3) := by decide +kernel
theorem dX7_follow_82 : decode cX7_follow 82 = .ok (.iadd, 1) := by decide +kernel
theorem dX7_follow_83 : decode cX7_follow 83 = .ok (.invokevirtual 56, 3) := by decide +kernel
theorem dX7_follow_86 : decode cX7_follow 86 = .ok (.putfield 50, 3) := by decide +kernel
theorem dX7_follow_89 : decode cX7_follow 89 = .ok (.aload_n 0, 1) := by decide +kernel
theorem dX7_follow_90 : decode cX7_follow 90 = .ok (.dup, 1) := by decide +kernel
theorem dX7_follow_91 : decode cX7_follow 91 = .ok (.getfield 47, 3) := by decide +kernel
theorem dX7_follow_94 : decode cX7_follow 94 = .ok (.aload 6, 2) := by decide +kernel
theorem dX7_follow_96 : decode cX7_follow 96 = .ok (.iload_n 3, 1) := by decide +kernel
theorem dX7_follow_97 : decode cX7_follow 97 = .ok (.aload_n 0, 1) := by decide +kernel
theorem dX7_follow_98 : decode cX7_follow 98 = .ok (.getfield 47, 3) := by decide +kernel
theorem dX7_follow_101 : decode cX7_follow 101 = .ok (.iadd, 1) := by decide +kernel
theorem dX7_follow_102 : decode cX7_follow 102 = .ok (.invokevirtual 62, 3) := by decide +kernel
theorem dX7_follow_105 : decode cX7_follow 105 = .ok (.iadd, 1) := by decide +kernel
theorem dX7_follow_106 : decode cX7_follow 106 = .ok (.putfield 47, 3) := by decide +kernel
theorem dX7_follow_109 : decode cX7_follow 109 = .ok (.iload 4, 2) := by decide +kernel
theorem dX7_follow_111 : decode cX7_follow 111 = .ok (.bipush 10, 2) := by decide +kernel
theorem dX7_follow_113 : decode cX7_follow 113 = .ok (.idiv, 1) := by decide +kernel
theorem dX7_follow_114 : decode cX7_follow 114 = .ok (.istore 4, 2) := by decide +kernel
theorem dX7_follow_116 : decode cX7_follow 116 = .ok (.goto (-97), 3) := by decide +kernel
theorem dX7_follow_119 : decode cX7_follow 119 = .ok (.return_, 1) := by decide +kernel
theorem dX7_seek_0 : decode cX7_seek 0 = .ok (.aload_n 0, 1) := by decide +kernel
theorem dX7_seek_1 : decode cX7_seek 1 = .ok (.iconst 0, 1) := by decide +kernel
theorem dX7_seek_2 : decode cX7_seek 2 = .ok (.putfield 44, 3) := by decide +kernel
theorem dX7_seek_5 : decode cX7_seek 5 = .ok (.aload_n 0, 1) := by decide +kernel
theorem dX7_seek_6 : decode cX7_seek 6 = .ok (.ldc 37, 2) := by decide +kernel
theorem dX7_seek_8 : decode cX7_seek 8 = .ok (.putfield 47, 3) := by decide +kernel
theorem dX7_seek_11 : decode cX7_seek 11 = .ok (.aload_n 0, 1) := by decide +kernel
theorem dX7_seek_12 : decode cX7_seek 12 = .ok (.iload_n 3, 1) := by decide +kernel
theorem dX7_seek_13 : decode cX7_seek 13 = .ok (.putfield 50, 3) := by decide +kernel
theorem dX7_seek_16 : decode cX7_seek 16 = .ok (.aload_n 0, 1) := by decide +kernel
theorem dX7_seek_17 : decode cX7_seek 17 = .ok (.iload_n 2, 1) := by decide +kernel
theorem dX7_seek_18 : decode cX7_seek 18 = .ok (.putfield 66, 3) := by decide +kernel
theorem dX7_seek_21 : decode cX7_seek 21 = .ok (.aload_n 0, 1) := by decide +kernel
theorem dX7_seek_22 : decode cX7_seek 22 = .ok (.iload 4, 2) := by decide +kernel
theorem dX7_seek_24 : decode cX7_seek 24 = .ok (.putfield 69, 3) := by decide +kernel
theorem dX7_seek_27 : decode cX7_seek 27 = .ok (.aload_n 0, 1) := by decide +kernel
theorem dX7_seek_28 : decode cX7_seek 28 = .ok (.iload_n 1, 1) := by decide +kernel
theorem dX7_seek_29 : decode cX7_seek 29 = .ok (.iload_n 2, 1) := by decide +kernel
theorem dX7_seek_30 : decode cX7_seek 30 = .ok (.aload_n 0, 1) := by decide +kernel
theorem dX7_seek_31 : decode cX7_seek 31 = .ok (.getfield 18, 3) := by decide +kernel
theorem dX7_seek_34 : decode cX7_seek 34 = .ok (.getfield 41, 3) := by decide +kernel
theorem dX7_seek_37 : decode cX7_seek 37 = .ok (.invokevirtual 72, 3) := by decide +kernel
theorem dX7_seek_40 : decode cX7_seek 40 = .ok (.ifCond .eq 14, 3) := by decide +kernel
theorem dX7_seek_43 : decode cX7_seek 43 = .ok (.aload_n 0, 1) := by decide +kernel
theorem dX7_seek_44 : decode cX7_seek 44 = .ok (.iload_n 1, 1) := by decide +kernel
theorem dX7_seek_45 : decode cX7_seek 45 = .ok (.iconst 1, 1) := by decide +kernel
theorem dX7_seek_46 : decode cX7_seek 46 = .ok (.iload_n 1, 1) := by decide +kernel
theorem dX7_seek_47 : decode cX7_seek 47 = .ok (.ishl, 1) := by decide +kernel
theorem dX7_seek_48 : decode cX7_seek 48 = .ok (.iconst 0, 1) := by decide +kernel
theorem dX7_seek_49 : decode cX7_seek 49 = .ok (.iconst 0, 1) := by decide +kernel
theorem dX7_seek_50 : decode cX7_seek 50 = .ok (.iload_n 3, 1) := by decide +kernel
theorem dX7_seek_51 : decode cX7_seek 51 = .ok (.invokevirtual 75, 3) := by decide +kernel
theorem dX7_seek_54 : decode cX7_seek 54 = .ok (.aload_n 0, 1) := by decide +kernel
theorem dX7_seek_55 : decode cX7_seek 55 = .ok (.getfield 44, 3) := by decide +kernel
theorem dX7_seek_58 : decode cX7_seek 58 = .ok (.ifCond .le 7, 3) := by decide +kernel
theorem dX7_seek_61 : decode cX7_seek 61 = .ok (.iconst 1, 1) := by decide +kernel
theorem dX7_seek_62 : decode cX7_seek 62 = .ok (.goto 4, 3) := by decide +kernel
theorem dX7_seek_65 : decode cX7_seek 65 = .ok (.iconst 0, 1) := by decide +kernel
theorem dX7_seek_66 : decode cX7_seek 66 = .ok (.ireturn, 1) := by decide +kernel
theorem dX7_enter_0 : decode cX7_enter 0 = .ok (.aload_n 0, 1) := by decide +kernel
theorem dX7_enter_1 : decode cX7_enter 1 = .ok (.getfield 22, 3) := by decide +kernel
theorem dX7_enter_4 : decode cX7_enter 4 = .ok (.aload_n 0, 1) := by decide +kernel
theorem dX7_enter_5 : decode cX7_enter 5 = .ok (.getfield 18, 3) := by decide +kernel
theorem dX7_enter_8 : decode cX7_enter 8 = .ok (.getfield 53, 3) := by decide +kernel
theorem dX7_enter_11 : decode cX7_enter 11 = .ok (.iload_n 1, 1) := by decide +kernel
theorem dX7_enter_12 : decode cX7_enter 12 = .ok (.iaload, 1) := by decide +kernel
theorem dX7_enter_13 : decode cX7_enter 13 = .ok (.aaload, 1) := by decide +kernel
theorem dX7_enter_14 : decode cX7_enter 14 = .ok (.astore 6, 2) := by decide +kernel
theorem dX7_enter_16 : decode cX7_enter 16 = .ok (.aload_n 0, 1) := by decide +kernel
theorem dX7_enter_17 : decode cX7_enter 17 = .ok (.getfield 18, 3) := by decide +kernel
theorem dX7_enter_20 : decode cX7_enter 20 = .ok (.getfield 79, 3) := by decide +kernel
theorem dX7_enter_23 : decode cX7_enter 23 = .ok (.iload 4, 2) := by decide +kernel
theorem dX7_enter_25 : decode cX7_enter 25 = .ok (.iadd, 1) := by decide +kernel
theorem dX7_enter_26 : decode cX7_enter 26 = .ok (.istore 7, 2) := by decide +kernel
theorem dX7_enter_28 : decode cX7_enter 28 = .ok (.aload 6, 2) := by decide +kernel
theorem dX7_enter_30 : decode cX7_enter 30 = .ok (.iload 5, 2) := by decide +kernel
theorem dX7_enter_32 : decode cX7_enter 32 = .ok (.iload 7, 2) := by decide +kernel
theorem dX7_enter_34 : decode cX7_enter 34 = .ok (.invokevirtual 56, 3) := by decide +kernel
theorem dX7_enter_37 : decode cX7_enter 37 = .ok (.istore 8, 2) := by decide +kernel
theorem dX7_enter_39 : decode cX7_enter 39 = .ok (.iload 4, 2) := by decide +kernel
theorem dX7_enter_41 : decode cX7_enter 41 = .ok (.aload 6, 2) := by decide +kernel
theorem dX7_enter_43 : decode cX7_enter 43 = .ok (.iload 7, 2) := by decide +kernel
theorem dX7_enter_45 : decode cX7_enter 45 = .ok (.invokevirtual 62, 3) := by decide +kernel
theorem dX7_enter_48 : decode cX7_enter 48 = .ok (.iadd, 1) := by decide +kernel
theorem dX7_enter_49 : decode cX7_enter 49 = .ok (.istore 9, 2) := by decide +kernel
theorem dX7_enter_51 : decode cX7_enter 51 = .ok (.iload_n 3, 1) := by decide +kernel
theorem dX7_enter_52 : decode cX7_enter 52 = .ok (.bipush 10, 2) := by decide +kernel
theorem dX7_enter_54 : decode cX7_enter 54 = .ok (.imul, 1) := by decide +kernel
theorem dX7_enter_55 : decode cX7_enter 55 = .ok (.iload_n 1, 1) := by decide +kernel
theorem dX7_enter_56 : decode cX7_enter 56 = .ok (.iadd, 1) := by decide +kernel
theorem dX7_enter_57 : decode cX7_enter 57 = .ok (.iconst 1, 1) := by decide +kernel
theorem dX7_enter_58 : decode cX7_enter 58 = .ok (.iadd, 1) := by decide +kernel
theorem dX7_enter_59 : decode cX7_enter 59 = .ok (.istore 10, 2) := by decide +kernel
theorem dX7_enter_61 : decode cX7_enter 61 = .ok (.iload_n 1, 1) := by decide +kernel
theorem dX7_enter_62 : decode cX7_enter 62 = .ok (.aload_n 0, 1) := by decide +kernel
theorem dX7_enter_63 : decode cX7_enter 63 = .ok (.getfield 66, 3) := by decide +kernel
theorem dX7_enter_66 : decode cX7_enter 66 = .ok (.if_icmp .ne 14, 3) := by decide +kernel
theorem dX7_enter_69 : decode cX7_enter 69 = .ok (.aload_n 0, 1) := by decide +kernel
theorem dX7_enter_70 : decode cX7_enter 70 = .ok (.iload 10, 2) := by decide +kernel
theorem dX7_enter_72 : decode cX7_enter 72 = .ok (.iload 9, 2) := by decide +kernel
theorem dX7_enter_74 : decode cX7_enter 74 = .ok (.iload 8, 2) := by decide +kernel
theorem dX7_enter_76 : decode cX7_enter 76 = .ok (.invokevirtual 82, 3) := by decide +kernel
theorem dX7_enter_79 : decode cX7_enter 79 = .ok (.return_, 1) := by decide +kernel
theorem dX7_enter_80 : decode cX7_enter 80 = .ok (.iload 9, 2) := by decide +kernel
theorem dX7_enter_82 : decode cX7_enter 82 = .ok (.iconst 1, 1) := by decide +kernel
theorem dX7_enter_83 : decode cX7_enter 83 = .ok (.iadd, 1) := by decide +kernel
theorem dX7_enter_84 : decode cX7_enter 84 = .ok (.aload_n 0, 1) := by decide +kernel
theorem dX7_enter_85 : decode cX7_enter 85 = .ok (.getfield 47, 3) := by decide +kernel
theorem dX7_enter_88 : decode cX7_enter 88 = .ok (.if_icmp .ge 10, 3) := by decide +kernel
theorem dX7_enter_91 : decode cX7_enter 91 = .ok (.iload 10, 2) := by decide +kernel
theorem dX7_enter_93 : decode cX7_enter 93 = .ok (.ldc 37, 2) := by decide +kernel
theorem dX7_enter_95 : decode cX7_enter 95 = .ok (.if_icmp .lt 4, 3) := by decide +kernel
theorem dX7_enter_98 : decode cX7_enter 98 = .ok (.return_, 1) := by decide +kernel
theorem dX7_enter_99 : decode cX7_enter 99 = .ok (.aload_n 0, 1) := by decide +kernel
theorem dX7_enter_100 : decode cX7_enter 100 = .ok (.getfield 18, 3) := by decide +kernel
theorem dX7_enter_103 : decode cX7_enter 103 = .ok (.getfield 38, 3) := by decide +kernel
theorem dX7_enter_106 : decode cX7_enter 106 = .ok (.iload_n 1, 1) := by decide +kernel
theorem dX7_enter_107 : decode cX7_enter 107 = .ok (.iaload, 1) := by decide +kernel
theorem dX7_enter_108 : decode cX7_enter 108 = .ok (.aload_n 0, 1) := by decide +kernel
theorem dX7_enter_109 : decode cX7_enter 109 = .ok (.getfield 18, 3) := by decide +kernel
theorem dX7_enter_112 : decode cX7_enter 112 = .ok (.getfield 41, 3) := by decide +kernel
theorem dX7_enter_115 : decode cX7_enter 115 = .ok (.iconst (-1), 1) := by decide +kernel
theorem dX7_enter_116 : decode cX7_enter 116 = .ok (.ixor, 1) := by decide +kernel
theorem dX7_enter_117 : decode cX7_enter 117 = .ok (.iand, 1) := by decide +kernel
theorem dX7_enter_118 : decode cX7_enter 118 = .ok (.iload_n 2, 1) := by decide +kernel
theorem dX7_enter_119 : decode cX7_enter 119 = .ok (.iconst (-1), 1) := by decide +kernel
theorem dX7_enter_120 : decode cX7_enter 120 = .ok (.ixor, 1) := by decide +kernel
theorem dX7_enter_121 : decode cX7_enter 121 = .ok (.iand, 1) := by decide +kernel
theorem dX7_enter_122 : decode cX7_enter 122 = .ok (.istore 11, 2) := by decide +kernel
theorem dX7_enter_124 : decode cX7_enter 124 = .ok (.iconst 0, 1) := by decide +kernel
theorem dX7_enter_125 : decode cX7_enter 125 = .ok (.istore 12, 2) := by decide +kernel
theorem dX7_enter_127 : decode cX7_enter 127 = .ok (.iload 12, 2) := by decide +kernel
theorem dX7_enter_129 : decode cX7_enter 129 = .ok (.aload_n 0, 1) := by decide +kernel
theorem dX7_enter_130 : decode cX7_enter 130 = .ok (.getfield 18, 3) := by decide +kernel
theorem dX7_enter_133 : decode cX7_enter 133 = .ok (.getfield 27, 3) := by decide +kernel
theorem dX7_enter_136 : decode cX7_enter 136 = .ok (.if_icmp .ge 38, 3) := by decide +kernel
theorem dX7_enter_139 : decode cX7_enter 139 = .ok (.iload 11, 2) := by decide +kernel
theorem dX7_enter_141 : decode cX7_enter 141 = .ok (.iload 12, 2) := by decide +kernel
theorem dX7_enter_143 : decode cX7_enter 143 = .ok (.ishr, 1) := by decide +kernel
theorem dX7_enter_144 : decode cX7_enter 144 = .ok (.iconst 1, 1) := by decide +kernel
theorem dX7_enter_145 : decode cX7_enter 145 = .ok (.iand, 1) := by decide +kernel
theorem dX7_enter_146 : decode cX7_enter 146 = .ok (.iconst 1, 1) := by decide +kernel
theorem dX7_enter_147 : decode cX7_enter 147 = .ok (.if_icmp .ne 21, 3) := by decide +kernel
theorem dX7_enter_150 : decode cX7_enter 150 = .ok (.aload_n 0, 1) := by decide +kernel
theorem dX7_enter_151 : decode cX7_enter 151 = .ok (.iload 12, 2) := by decide +kernel
theorem dX7_enter_153 : decode cX7_enter 153 = .ok (.iload_n 2, 1) := by decide +kernel
theorem dX7_enter_154 : decode cX7_enter 154 = .ok (.iconst 1, 1) := by decide +kernel
theorem dX7_enter_155 : decode cX7_enter 155 = .ok (.iload 12, 2) := by decide +kernel
theorem dX7_enter_157 : decode cX7_enter 157 = .ok (.ishl, 1) := by decide +kernel
theorem dX7_enter_158 : decode cX7_enter 158 = .ok (.ior, 1) := by decide +kernel
theorem dX7_enter_159 : decode cX7_enter 159 = .ok (.iload 10, 2) := by decide +kernel
theorem dX7_enter_161 : decode cX7_enter 161 = .ok (.iload 9, 2) := by decide +kernel
theorem dX7_enter_163 : decode cX7_enter 163 = .ok (.iload 8, 2) := by decide +kernel
theorem dX7_enter_165 : decode cX7_enter 165 = .ok (.invokevirtual 75, 3) := by decide +kernel
theorem dX7_enter_168 : decode cX7_enter 168 = .ok (.iinc 12 1, 3) := by decide +kernel
theorem dX7_enter_171 : decode cX7_enter 171 = .ok (.goto (-44), 3) := by decide +kernel
theorem dX7_enter_174 : decode cX7_enter 174 = .ok (.return_, 1) := by decide +kernel
theorem dX7_keepIfSooner_0 : decode cX7_keepIfSooner 0 = .ok (.aload_n 0, 1) := by decide +kernel
theorem dX7_keepIfSooner_1 : decode cX7_keepIfSooner 1 = .ok (.getfield 69, 3) := by decide +kernel
theorem dX7_keepIfSooner_4 : decode cX7_keepIfSooner 4 = .ok (.iconst (-1), 1) := by decide +kernel
theorem dX7_keepIfSooner_5 : decode cX7_keepIfSooner 5 = .ok (.if_icmp .eq 11, 3) := by decide +kernel
theorem dX7_keepIfSooner_8 : decode cX7_keepIfSooner 8 = .ok (.aload_n 0, 1) := by decide +kernel
theorem dX7_keepIfSooner_9 : decode cX7_keepIfSooner 9 = .ok (.getfield 69, 3) := by decide +kernel
theorem dX7_keepIfSooner_12 : decode cX7_keepIfSooner 12 = .ok (.iload_n 3, 1) := by decide +kernel
theorem dX7_keepIfSooner_13 : decode cX7_keepIfSooner 13 = .ok (.if_icmp .ne 7, 3) := by decide +kernel
theorem dX7_keepIfSooner_16 : decode cX7_keepIfSooner 16 = .ok (.iconst 1, 1) := by decide +kernel
theorem dX7_keepIfSooner_17 : decode cX7_keepIfSooner 17 = .ok (.goto 4, 3) := by decide +kernel
theorem dX7_keepIfSooner_20 : decode cX7_keepIfSooner 20 = .ok (.iconst 0, 1) := by decide +kernel
theorem dX7_keepIfSooner_21 : decode cX7_keepIfSooner 21 = .ok (.istore 4, 2) := by decide +kernel
theorem dX7_keepIfSooner_23 : decode cX7_keepIfSooner 23 = .ok (.iload 4, 2) := by decide +kernel
theorem dX7_keepIfSooner_25 : decode cX7_keepIfSooner 25 = .ok (.ifCond .eq 26, 3) := by decide +kernel
theorem dX7_keepIfSooner_28 : decode cX7_keepIfSooner 28 = .ok (.iload_n 2, 1) := by decide +kernel
theorem dX7_keepIfSooner_29 : decode cX7_keepIfSooner 29 = .ok (.aload_n 0, 1) := by decide +kernel
theorem dX7_keepIfSooner_30 : decode cX7_keepIfSooner 30 = .ok (.getfield 47, 3) := by decide +kernel
theorem dX7_keepIfSooner_33 : decode cX7_keepIfSooner 33 = .ok (.if_icmp .ge 18, 3) := by decide +kernel
theorem dX7_keepIfSooner_36 : decode cX7_keepIfSooner 36 = .ok (.aload_n 0, 1) := by decide +kernel
theorem dX7_keepIfSooner_37 : decode cX7_keepIfSooner 37 = .ok (.iload_n 1, 1) := by decide +kernel
theorem dX7_keepIfSooner_38 : decode cX7_keepIfSooner 38 = .ok (.putfield 44, 3) := by decide +kernel
theorem dX7_keepIfSooner_41 : decode cX7_keepIfSooner 41 = .ok (.aload_n 0, 1) := by decide +kernel
theorem dX7_keepIfSooner_42 : decode cX7_keepIfSooner 42 = .ok (.iload_n 2, 1) := by decide +kernel
theorem dX7_keepIfSooner_43 : decode cX7_keepIfSooner 43 = .ok (.putfield 47, 3) := by decide +kernel
theorem dX7_keepIfSooner_46 : decode cX7_keepIfSooner 46 = .ok (.aload_n 0, 1) := by decide +kernel
theorem dX7_keepIfSooner_47 : decode cX7_keepIfSooner 47 = .ok (.iload_n 3, 1) := by decide +kernel
theorem dX7_keepIfSooner_48 : decode cX7_keepIfSooner 48 = .ok (.putfield 50, 3) := by decide +kernel
theorem dX7_keepIfSooner_51 : decode cX7_keepIfSooner 51 = .ok (.return_, 1) := by decide +kernel
theorem dX7_howMany_0 : decode cX7_howMany 0 = .ok (.aload_n 0, 1) := by decide +kernel
theorem dX7_howMany_1 : decode cX7_howMany 1 = .ok (.getfield 18, 3) := by decide +kernel
theorem dX7_howMany_4 : decode cX7_howMany 4 = .ok (.getfield 41, 3) := by decide +kernel
theorem dX7_howMany_7 : decode cX7_howMany 7 = .ok (.iload_n 1, 1) := by decide +kernel
theorem dX7_howMany_8 : decode cX7_howMany 8 = .ok (.ishr, 1) := by decide +kernel
theorem dX7_howMany_9 : decode cX7_howMany 9 = .ok (.iconst 1, 1) := by decide +kernel
theorem dX7_howMany_10 : decode cX7_howMany 10 = .ok (.iand, 1) := by decide +kernel
theorem dX7_howMany_11 : decode cX7_howMany 11 = .ok (.iconst 1, 1) := by decide +kernel
theorem dX7_howMany_12 : decode cX7_howMany 12 = .ok (.if_icmp .ne 7, 3) := by decide +kernel
theorem dX7_howMany_15 : decode cX7_howMany 15 = .ok (.iconst 1, 1) := by decide +kernel
theorem dX7_howMany_16 : decode cX7_howMany 16 = .ok (.goto 4, 3) := by decide +kernel
theorem dX7_howMany_19 : decode cX7_howMany 19 = .ok (.iconst 0, 1) := by decide +kernel
theorem dX7_howMany_20 : decode cX7_howMany 20 = .ok (.istore_n 3, 1) := by decide +kernel
theorem dX7_howMany_21 : decode cX7_howMany 21 = .ok (.iload_n 3, 1) := by decide +kernel
theorem dX7_howMany_22 : decode cX7_howMany 22 = .ok (.ifCond .eq 7, 3) := by decide +kernel
theorem dX7_howMany_25 : decode cX7_howMany 25 = .ok (.iconst 0, 1) := by decide +kernel
theorem dX7_howMany_26 : decode cX7_howMany 26 = .ok (.goto 13, 3) := by decide +kernel
theorem dX7_howMany_29 : decode cX7_howMany 29 = .ok (.aload_n 0, 1) := by decide +kernel
theorem dX7_howMany_30 : decode cX7_howMany 30 = .ok (.iload_n 1, 1) := by decide +kernel
theorem dX7_howMany_31 : decode cX7_howMany 31 = .ok (.iload_n 2, 1) := by decide +kernel
theorem dX7_howMany_32 : decode cX7_howMany 32 = .ok (.iconst 1, 1) := by decide +kernel
theorem dX7_howMany_33 : decode cX7_howMany 33 = .ok (.iload_n 1, 1) := by decide +kernel
theorem dX7_howMany_34 : decode cX7_howMany 34 = .ok (.ishl, 1) := by decide +kernel
theorem dX7_howMany_35 : decode cX7_howMany 35 = .ok (.iconst 1, 1) := by decide +kernel
theorem dX7_howMany_36 : decode cX7_howMany 36 = .ok (.invokevirtual 86, 3) := by decide +kernel
theorem dX7_howMany_39 : decode cX7_howMany 39 = .ok (.ireturn, 1) := by decide +kernel
theorem dX7_rowsOn_0 : decode cX7_rowsOn 0 = .ok (.iload_n 1, 1) := by decide +kernel
theorem dX7_rowsOn_1 : decode cX7_rowsOn 1 = .ok (.iload_n 2, 1) := by decide +kernel
theorem dX7_rowsOn_2 : decode cX7_rowsOn 2 = .ok (.if_icmp .ne 5, 3) := by decide +kernel
theorem dX7_rowsOn_5 : decode cX7_rowsOn 5 = .ok (.iconst 1, 1) := by decide +kernel
theorem dX7_rowsOn_6 : decode cX7_rowsOn 6 = .ok (.ireturn, 1) := by decide +kernel
theorem dX7_rowsOn_7 : decode cX7_rowsOn 7 = .ok (.iload 4, 2) := by decide +kernel
theorem dX7_rowsOn_9 : decode cX7_rowsOn 9 = .ok (.bipush 7, 2) := by decide +kernel
theorem dX7_rowsOn_11 : decode cX7_rowsOn 11 = .ok (.if_icmp .lt 5, 3) := by decide +kernel
theorem dX7_rowsOn_14 : decode cX7_rowsOn 14 = .ok (.iconst 0, 1) := by decide +kernel
theorem dX7_rowsOn_15 : decode cX7_rowsOn 15 = .ok (.ireturn, 1) := by decide +kernel
theorem dX7_rowsOn_16 : decode cX7_rowsOn 16 = .ok (.aload_n 0, 1) := by decide +kernel
theorem dX7_rowsOn_17 : decode cX7_rowsOn 17 = .ok (.getfield 18, 3) := by decide +kernel
theorem dX7_rowsOn_20 : decode cX7_rowsOn 20 = .ok (.getfield 38, 3) := by decide +kernel
theorem dX7_rowsOn_23 : decode cX7_rowsOn 23 = .ok (.iload_n 1, 1) := by decide +kernel
theorem dX7_rowsOn_24 : decode cX7_rowsOn 24 = .ok (.iaload, 1) := by decide +kernel
theorem dX7_rowsOn_25 : decode cX7_rowsOn 25 = .ok (.aload_n 0, 1) := by decide +kernel
theorem dX7_rowsOn_26 : decode cX7_rowsOn 26 = .ok (.getfield 18, 3) := by decide +kernel
theorem dX7_rowsOn_29 : decode cX7_rowsOn 29 = .ok (.getfield 41, 3) := by decide +kernel
theorem dX7_rowsOn_32 : decode cX7_rowsOn 32 = .ok (.iconst (-1), 1) := by decide +kernel
theorem dX7_rowsOn_33 : decode cX7_rowsOn 33 = .ok (.ixor, 1) := by decide +kernel
theorem dX7_rowsOn_34 : decode cX7_rowsOn 34 = .ok (.iand, 1) := by decide +kernel
theorem dX7_rowsOn_35 : decode cX7_rowsOn 35 = .ok (.iload_n 3, 1) := by decide +kernel
theorem dX7_rowsOn_36 : decode cX7_rowsOn 36 = .ok (.iconst (-1), 1) := by decide +kernel
theorem dX7_rowsOn_37 : decode cX7_rowsOn 37 = .ok (.ixor, 1) := by decide +kernel
theorem dX7_rowsOn_38 : decode cX7_rowsOn 38 = .ok (.iand, 1) := by decide +kernel
theorem dX7_rowsOn_39 : decode cX7_rowsOn 39 = .ok (.istore 5, 2) := by decide +kernel
theorem dX7_rowsOn_41 : decode cX7_rowsOn 41 = .ok (.iconst 0, 1) := by decide +kernel
theorem dX7_rowsOn_42 : decode cX7_rowsOn 42 = .ok (.istore 6, 2) := by decide +kernel
theorem dX7_rowsOn_44 : decode cX7_rowsOn 44 = .ok (.iconst 0, 1) := by decide +kernel
theorem dX7_rowsOn_45 : decode cX7_rowsOn 45 = .ok (.istore 7, 2) := by decide +kernel
theorem dX7_rowsOn_47 : decode cX7_rowsOn 47 = .ok (.iload 7, 2) := by decide +kernel
theorem dX7_rowsOn_49 : decode cX7_rowsOn 49 = .ok (.aload_n 0, 1) := by decide +kernel
theorem dX7_rowsOn_50 : decode cX7_rowsOn 50 = .ok (.getfield 18, 3) := by decide +kernel
theorem dX7_rowsOn_53 : decode cX7_rowsOn 53 = .ok (.getfield 27, 3) := by decide +kernel
theorem dX7_rowsOn_56 : decode cX7_rowsOn 56 = .ok (.if_icmp .ge 42, 3) := by decide +kernel
theorem dX7_rowsOn_59 : decode cX7_rowsOn 59 = .ok (.iload 5, 2) := by decide +kernel
theorem dX7_rowsOn_61 : decode cX7_rowsOn 61 = .ok (.iload 7, 2) := by decide +kernel
theorem dX7_rowsOn_63 : decode cX7_rowsOn 63 = .ok (.ishr, 1) := by decide +kernel
theorem dX7_rowsOn_64 : decode cX7_rowsOn 64 = .ok (.iconst 1, 1) := by decide +kernel
theorem dX7_rowsOn_65 : decode cX7_rowsOn 65 = .ok (.iand, 1) := by decide +kernel
theorem dX7_rowsOn_66 : decode cX7_rowsOn 66 = .ok (.iconst 1, 1) := by decide +kernel
theorem dX7_rowsOn_67 : decode cX7_rowsOn 67 = .ok (.if_icmp .ne 25, 3) := by decide +kernel
theorem dX7_rowsOn_70 : decode cX7_rowsOn 70 = .ok (.iload 6, 2) := by decide +kernel
theorem dX7_rowsOn_72 : decode cX7_rowsOn 72 = .ok (.aload_n 0, 1) := by decide +kernel
theorem dX7_rowsOn_73 : decode cX7_rowsOn 73 = .ok (.iload 7, 2) := by decide +kernel
theorem dX7_rowsOn_75 : decode cX7_rowsOn 75 = .ok (.iload_n 2, 1) := by decide +kernel
theorem dX7_rowsOn_76 : decode cX7_rowsOn 76 = .ok (.iload_n 3, 1) := by decide +kernel
theorem dX7_rowsOn_77 : decode cX7_rowsOn 77 = .ok (.iconst 1, 1) := by decide +kernel
theorem dX7_rowsOn_78 : decode cX7_rowsOn 78 = .ok (.iload 7, 2) := by decide +kernel
theorem dX7_rowsOn_80 : decode cX7_rowsOn 80 = .ok (.ishl, 1) := by decide +kernel
theorem dX7_rowsOn_81 : decode cX7_rowsOn 81 = .ok (.ior, 1) := by decide +kernel
theorem dX7_rowsOn_82 : decode cX7_rowsOn 82 = .ok (.iload 4, 2) := by decide +kernel
theorem dX7_rowsOn_84 : decode cX7_rowsOn 84 = .ok (.iconst 1, 1) := by decide +kernel
theorem dX7_rowsOn_85 : decode cX7_rowsOn 85 = .ok (.iadd, 1) := by decide +kernel
theorem dX7_rowsOn_86 : decode cX7_rowsOn 86 = .ok (.invokevirtual 86, 3) := by decide +kernel
theorem dX7_rowsOn_89 : decode cX7_rowsOn 89 = .ok (.iadd, 1) := by decide +kernel
theorem dX7_rowsOn_90 : decode cX7_rowsOn 90 = .ok (.istore 6, 2) := by decide +kernel
theorem dX7_rowsOn_92 : decode cX7_rowsOn 92 = .ok (.iinc 7 1, 3) := by decide +kernel
theorem dX7_rowsOn_95 : decode cX7_rowsOn 95 = .ok (.goto (-48), 3) := by decide +kernel
theorem dX7_rowsOn_98 : decode cX7_rowsOn 98 = .ok (.iload 6, 2) := by decide +kernel
theorem dX7_rowsOn_100 : decode cX7_rowsOn 100 = .ok (.ireturn, 1) := by decide +kernel
theorem dX7_joins_0 : decode cX7_joins 0 = .ok (.iconst 1, 1) := by decide +kernel
theorem dX7_joins_1 : decode cX7_joins 1 = .ok (.iload_n 1, 1) := by decide +kernel
theorem dX7_joins_2 : decode cX7_joins 2 = .ok (.ishl, 1) := by decide +kernel
theorem dX7_joins_3 : decode cX7_joins 3 = .ok (.iload_n 3, 1) := by decide +kernel
theorem dX7_joins_4 : decode cX7_joins 4 = .ok (.iconst (-1), 1) := by decide +kernel
theorem dX7_joins_5 : decode cX7_joins 5 = .ok (.ixor, 1) := by decide +kernel
theorem dX7_joins_6 : decode cX7_joins 6 = .ok (.iand, 1) := by decide +kernel
theorem dX7_joins_7 : decode cX7_joins 7 = .ok (.istore 4, 2) := by decide +kernel
theorem dX7_joins_9 : decode cX7_joins 9 = .ok (.iconst 1, 1) := by decide +kernel
theorem dX7_joins_10 : decode cX7_joins 10 = .ok (.istore 5, 2) := by decide +kernel
theorem dX7_joins_12 : decode cX7_joins 12 = .ok (.iload 5, 2) := by decide +kernel
theorem dX7_joins_14 : decode cX7_joins 14 = .ok (.aload_n 0, 1) := by decide +kernel
theorem dX7_joins_15 : decode cX7_joins 15 = .ok (.getfield 18, 3) := by decide +kernel
theorem dX7_joins_18 : decode cX7_joins 18 = .ok (.getfield 27, 3) := by decide +kernel
theorem dX7_joins_21 : decode cX7_joins 21 = .ok (.if_icmp .ge 68, 3) := by decide +kernel
theorem dX7_joins_24 : decode cX7_joins 24 = .ok (.iload 4, 2) := by decide +kernel
theorem dX7_joins_26 : decode cX7_joins 26 = .ok (.istore 6, 2) := by decide +kernel
theorem dX7_joins_28 : decode cX7_joins 28 = .ok (.iconst 0, 1) := by decide +kernel
theorem dX7_joins_29 : decode cX7_joins 29 = .ok (.istore 7, 2) := by decide +kernel
theorem dX7_joins_31 : decode cX7_joins 31 = .ok (.iload 7, 2) := by decide +kernel
theorem dX7_joins_33 : decode cX7_joins 33 = .ok (.aload_n 0, 1) := by decide +kernel
theorem dX7_joins_34 : decode cX7_joins 34 = .ok (.getfield 18, 3) := by decide +kernel
theorem dX7_joins_37 : decode cX7_joins 37 = .ok (.getfield 27, 3) := by decide +kernel
theorem dX7_joins_40 : decode cX7_joins 40 = .ok (.if_icmp .ge 39, 3) := by decide +kernel
theorem dX7_joins_43 : decode cX7_joins 43 = .ok (.iload 4, 2) := by decide +kernel
theorem dX7_joins_45 : decode cX7_joins 45 = .ok (.iload 7, 2) := by decide +kernel
theorem dX7_joins_47 : decode cX7_joins 47 = .ok (.ishr, 1) := by decide +kernel
theorem dX7_joins_48 : decode cX7_joins 48 = .ok (.iconst 1, 1) := by decide +kernel
theorem dX7_joins_49 : decode cX7_joins 49 = .ok (.iand, 1) := by decide +kernel
theorem dX7_joins_50 : decode cX7_joins 50 = .ok (.iconst 1, 1) := by decide +kernel
theorem dX7_joins_51 : decode cX7_joins 51 = .ok (.if_icmp .ne 22, 3) := by decide +kernel
theorem dX7_joins_54 : decode cX7_joins 54 = .ok (.iload 6, 2) := by decide +kernel
theorem dX7_joins_56 : decode cX7_joins 56 = .ok (.aload_n 0, 1) := by decide +kernel
theorem dX7_joins_57 : decode cX7_joins 57 = .ok (.getfield 18, 3) := by decide +kernel
theorem dX7_joins_60 : decode cX7_joins 60 = .ok (.getfield 38, 3) := by decide +kernel
theorem dX7_joins_63 : decode cX7_joins 63 = .ok (.iload 7, 2) := by decide +kernel
theorem dX7_joins_65 : decode cX7_joins 65 = .ok (.iaload, 1) := by decide +kernel
theorem dX7_joins_66 : decode cX7_joins 66 = .ok (.iload_n 3, 1) := by decide +kernel
theorem dX7_joins_67 : decode cX7_joins 67 = .ok (.iconst (-1), 1) := by decide +kernel
theorem dX7_joins_68 : decode cX7_joins 68 = .ok (.ixor, 1) := by decide +kernel
theorem dX7_joins_69 : decode cX7_joins 69 = .ok (.iand, 1) := by decide +kernel
theorem dX7_joins_70 : decode cX7_joins 70 = .ok (.ior, 1) := by decide +kernel
theorem dX7_joins_71 : decode cX7_joins 71 = .ok (.istore 6, 2) := by decide +kernel
theorem dX7_joins_73 : decode cX7_joins 73 = .ok (.iinc 7 1, 3) := by decide +kernel
theorem dX7_joins_76 : decode cX7_joins 76 = .ok (.goto (-45), 3) := by decide +kernel
theorem dX7_joins_79 : decode cX7_joins 79 = .ok (.iload 6, 2) := by decide +kernel
theorem dX7_joins_81 : decode cX7_joins 81 = .ok (.istore 4, 2) := by decide +kernel
theorem dX7_joins_83 : decode cX7_joins 83 = .ok (.iinc 5 1, 3) := by decide +kernel
theorem dX7_joins_86 : decode cX7_joins 86 = .ok (.goto (-74), 3) := by decide +kernel
theorem dX7_joins_89 : decode cX7_joins 89 = .ok (.iload 4, 2) := by decide +kernel
theorem dX7_joins_91 : decode cX7_joins 91 = .ok (.iload_n 2, 1) := by decide +kernel
theorem dX7_joins_92 : decode cX7_joins 92 = .ok (.ishr, 1) := by decide +kernel
theorem dX7_joins_93 : decode cX7_joins 93 = .ok (.iconst 1, 1) := by decide +kernel
theorem dX7_joins_94 : decode cX7_joins 94 = .ok (.iand, 1) := by decide +kernel
theorem dX7_joins_95 : decode cX7_joins 95 = .ok (.iconst 1, 1) := by decide +kernel
theorem dX7_joins_96 : decode cX7_joins 96 = .ok (.if_icmp .ne 7, 3) := by decide +kernel
theorem dX7_joins_99 : decode cX7_joins 99 = .ok (.iconst 1, 1) := by decide +kernel
theorem dX7_joins_100 : decode cX7_joins 100 = .ok (.goto 4, 3) := by decide +kernel
theorem dX7_joins_103 : decode cX7_joins 103 = .ok (.iconst 0, 1) := by decide +kernel
theorem dX7_joins_104 : decode cX7_joins 104 = .ok (.ireturn, 1) := by decide +kernel
theorem dX7_fewestToPart_0 : decode cX7_fewestToPart 0 = .ok (.aload_n 0, 1) := by decide +kernel
theorem dX7_fewestToPart_1 : decode cX7_fewestToPart 1 = .ok (.iload_n 1, 1) := by decide +kernel
theorem dX7_fewestToPart_2 : decode cX7_fewestToPart 2 = .ok (.iload_n 2, 1) := by decide +kernel
theorem dX7_fewestToPart_3 : decode cX7_fewestToPart 3 = .ok (.aload_n 0, 1) := by decide +kernel
theorem dX7_fewestToPart_4 : decode cX7_fewestToPart 4 = .ok (.getfield 18, 3) := by decide +kernel
theorem dX7_fewestToPart_7 : decode cX7_fewestToPart 7 = .ok (.getfield 41, 3) := by decide +kernel
theorem dX7_fewestToPart_10 : decode cX7_fewestToPart 10 = .ok (.invokevirtual 72, 3) := by decide +kernel
theorem dX7_fewestToPart_13 : decode cX7_fewestToPart 13 = .ok (.ifCond .ne 5, 3) := by decide +kernel
theorem dX7_fewestToPart_16 : decode cX7_fewestToPart 16 = .ok (.iconst 0, 1) := by decide +kernel
theorem dX7_fewestToPart_17 : decode cX7_fewestToPart 17 = .ok (.ireturn, 1) := by decide +kernel
theorem dX7_fewestToPart_18 : decode cX7_fewestToPart 18 = .ok (.iload_n 1, 1) := by decide +kernel
theorem dX7_fewestToPart_19 : decode cX7_fewestToPart 19 = .ok (.iload_n 2, 1) := by decide +kernel
theorem dX7_fewestToPart_20 : decode cX7_fewestToPart 20 = .ok (.if_icmp .eq 20, 3) := by decide +kernel
theorem dX7_fewestToPart_23 : decode cX7_fewestToPart 23 = .ok (.aload_n 0, 1) := by decide +kernel
theorem dX7_fewestToPart_24 : decode cX7_fewestToPart 24 = .ok (.getfield 18, 3) := by decide +kernel
theorem dX7_fewestToPart_27 : decode cX7_fewestToPart 27 = .ok (.getfield 38, 3) := by decide +kernel
theorem dX7_fewestToPart_30 : decode cX7_fewestToPart 30 = .ok (.iload_n 1, 1) := by decide +kernel
theorem dX7_fewestToPart_31 : decode cX7_fewestToPart 31 = .ok (.iaload, 1) := by decide +kernel
theorem dX7_fewestToPart_32 : decode cX7_fewestToPart 32 = .ok (.iload_n 2, 1) := by decide +kernel
theorem dX7_fewestToPart_33 : decode cX7_fewestToPart 33 = .ok (.ishr, 1) := by decide +kernel
theorem dX7_fewestToPart_34 : decode cX7_fewestToPart 34 = .ok (.iconst 1, 1) := by decide +kernel
theorem dX7_fewestToPart_35 : decode cX7_fewestToPart 35 = .ok (.iand, 1) := by decide +kernel
theorem dX7_fewestToPart_36 : decode cX7_fewestToPart 36 = .ok (.iconst 1, 1) := by decide +kernel
theorem dX7_fewestToPart_37 : decode cX7_fewestToPart 37 = .ok (.if_icmp .ne 5, 3) := by decide +kernel
theorem dX7_fewestToPart_40 : decode cX7_fewestToPart 40 = .ok (.iconst (-1), 1) := by decide +kernel
theorem dX7_fewestToPart_41 : decode cX7_fewestToPart 41 = .ok (.ireturn, 1) := by decide +kernel
theorem dX7_fewestToPart_42 : decode cX7_fewestToPart 42 = .ok (.iconst 1, 1) := by decide +kernel
theorem dX7_fewestToPart_43 : decode cX7_fewestToPart 43 = .ok (.iload_n 1, 1) := by decide +kernel
theorem dX7_fewestToPart_44 : decode cX7_fewestToPart 44 = .ok (.ishl, 1) := by decide +kernel
theorem dX7_fewestToPart_45 : decode cX7_fewestToPart 45 = .ok (.iconst 1, 1) := by decide +kernel
theorem dX7_fewestToPart_46 : decode cX7_fewestToPart 46 = .ok (.iload_n 2, 1) := by decide +kernel
theorem dX7_fewestToPart_47 : decode cX7_fewestToPart 47 = .ok (.ishl, 1) := by decide +kernel
theorem dX7_fewestToPart_48 : decode cX7_fewestToPart 48 = .ok (.ior, 1) := by decide +kernel
theorem dX7_fewestToPart_49 : decode cX7_fewestToPart 49 = .ok (.istore_n 3, 1) := by decide +kernel
theorem dX7_fewestToPart_50 : decode cX7_fewestToPart 50 = .ok (.iconst (-1), 1) := by decide +kernel
theorem dX7_fewestToPart_51 : decode cX7_fewestToPart 51 = .ok (.istore 4, 2) := by decide +kernel
theorem dX7_fewestToPart_53 : decode cX7_fewestToPart 53 = .ok (.bipush 7, 2) := by decide +kernel
theorem dX7_fewestToPart_55 : decode cX7_fewestToPart 55 = .ok (.istore 5, 2) := by decide +kernel
theorem dX7_fewestToPart_57 : decode cX7_fewestToPart 57 = .ok (.iconst 1, 1) := by decide +kernel
theorem dX7_fewestToPart_58 : decode cX7_fewestToPart 58 = .ok (.istore 6, 2) := by decide +kernel
theorem dX7_fewestToPart_60 : decode cX7_fewestToPart 60 = .ok (.iload 6, 2) := by decide +kernel
theorem dX7_fewestToPart_62 : decode cX7_fewestToPart 62 = .ok (.iconst 1, 1) := by decide +kernel
theorem dX7_fewestToPart_63 : decode cX7_fewestToPart 63 = .ok (.aload_n 0, 1) := by decide +kernel
theorem dX7_fewestToPart_64 : decode cX7_fewestToPart 64 = .ok (.getfield 18, 3) := by decide +kernel
theorem dX7_fewestToPart_67 : decode cX7_fewestToPart 67 = .ok (.getfield 27, 3) := by decide +kernel
theorem dX7_fewestToPart_70 : decode cX7_fewestToPart 70 = .ok (.ishl, 1) := by decide +kernel
theorem dX7_fewestToPart_71 : decode cX7_fewestToPart 71 = .ok (.if_icmp .ge 57, 3) := by decide +kernel
theorem dX7_fewestToPart_74 : decode cX7_fewestToPart 74 = .ok (.iload 6, 2) := by decide +kernel
theorem dX7_fewestToPart_76 : decode cX7_fewestToPart 76 = .ok (.invokestatic 90, 3) := by decide +kernel
theorem dX7_fewestToPart_79 : decode cX7_fewestToPart 79 = .ok (.istore 7, 2) := by decide +kernel
theorem dX7_fewestToPart_81 : decode cX7_fewestToPart 81 = .ok (.iload 6, 2) := by decide +kernel
theorem dX7_fewestToPart_83 : decode cX7_fewestToPart 83 = .ok (.iload_n 3, 1) := by decide +kernel
theorem dX7_fewestToPart_84 : decode cX7_fewestToPart 84 = .ok (.iand, 1) := by decide +kernel
theorem dX7_fewestToPart_85 : decode cX7_fewestToPart 85 = .ok (.ifCond .ne 37, 3) := by decide +kernel
theorem dX7_fewestToPart_88 : decode cX7_fewestToPart 88 = .ok (.iload 7, 2) := by decide +kernel
theorem dX7_fewestToPart_90 : decode cX7_fewestToPart 90 = .ok (.iload 5, 2) := by decide +kernel
theorem dX7_fewestToPart_92 : decode cX7_fewestToPart 92 = .ok (.if_icmp .ge 30, 3) := by decide +kernel
theorem dX7_fewestToPart_95 : decode cX7_fewestToPart 95 = .ok (.aload_n 0, 1) := by decide +kernel
theorem dX7_fewestToPart_96 : decode cX7_fewestToPart 96 = .ok (.iload_n 1, 1) := by decide +kernel
theorem dX7_fewestToPart_97 : decode cX7_fewestToPart 97 = .ok (.iload_n 2, 1) := by decide +kernel
theorem dX7_fewestToPart_98 : decode cX7_fewestToPart 98 = .ok (.aload_n 0, 1) := by decide +kernel
theorem dX7_fewestToPart_99 : decode cX7_fewestToPart 99 = .ok (.getfield 18, 3) := by decide +kernel
theorem dX7_fewestToPart_102 : decode cX7_fewestToPart 102 = .ok (.getfield 41, 3) := by decide +kernel
theorem dX7_fewestToPart_105 : decode cX7_fewestToPart 105 = .ok (.iload 6, 2) := by decide +kernel
theorem dX7_fewestToPart_107 : decode cX7_fewestToPart 107 = .ok (.ior, 1) := by decide +kernel
theorem dX7_fewestToPart_108 : decode cX7_fewestToPart 108 = .ok (.invokevirtual 72, 3) := by decide +kernel
theorem dX7_fewestToPart_111 : decode cX7_fewestToPart 111 = .ok (.ifCond .ne 11, 3) := by decide +kernel
theorem dX7_fewestToPart_114 : decode cX7_fewestToPart 114 = .ok (.iload 6, 2) := by decide +kernel
theorem dX7_fewestToPart_116 : decode cX7_fewestToPart 116 = .ok (.istore 4, 2) := by decide +kernel
theorem dX7_fewestToPart_118 : decode cX7_fewestToPart 118 = .ok (.iload 7, 2) := by decide +kernel
theorem dX7_fewestToPart_120 : decode cX7_fewestToPart 120 = .ok (.istore 5, 2) := by decide +kernel
theorem dX7_fewestToPart_122 : decode cX7_fewestToPart 122 = .ok (.iinc 6 1, 3) := by decide +kernel
theorem dX7_fewestToPart_125 : decode cX7_fewestToPart 125 = .ok (.goto (-65), 3) := by decide +kernel
theorem dX7_fewestToPart_128 : decode cX7_fewestToPart 128 = .ok (.iload 4, 2) := by decide +kernel
theorem dX7_fewestToPart_130 : decode cX7_fewestToPart 130 = .ok (.ireturn, 1) := by decide +kernel
theorem dX7_onMost_0 : decode cX7_onMost 0 = .ok (.aload_n 0, 1) := by decide +kernel
theorem dX7_onMost_1 : decode cX7_onMost 1 = .ok (.invokevirtual 95, 3) := by decide +kernel
theorem dX7_onMost_4 : decode cX7_onMost 4 = .ok (.iconst (-1), 1) := by decide +kernel
theorem dX7_onMost_5 : decode cX7_onMost 5 = .ok (.istore_n 1, 1) := by decide +kernel
theorem dX7_onMost_6 : decode cX7_onMost 6 = .ok (.iconst 0, 1) := by decide +kernel
theorem dX7_onMost_7 : decode cX7_onMost 7 = .ok (.istore_n 2, 1) := by decide +kernel
theorem dX7_onMost_8 : decode cX7_onMost 8 = .ok (.iload_n 2, 1) := by decide +kernel
theorem dX7_onMost_9 : decode cX7_onMost 9 = .ok (.aload_n 0, 1) := by decide +kernel
theorem dX7_onMost_10 : decode cX7_onMost 10 = .ok (.getfield 18, 3) := by decide +kernel
theorem dX7_onMost_13 : decode cX7_onMost 13 = .ok (.getfield 27, 3) := by decide +kernel
theorem dX7_onMost_16 : decode cX7_onMost 16 = .ok (.if_icmp .ge 56, 3) := by decide +kernel
theorem dX7_onMost_19 : decode cX7_onMost 19 = .ok (.aload_n 0, 1) := by decide +kernel
theorem dX7_onMost_20 : decode cX7_onMost 20 = .ok (.getfield 18, 3) := by decide +kernel
theorem dX7_onMost_23 : decode cX7_onMost 23 = .ok (.getfield 41, 3) := by decide +kernel
theorem dX7_onMost_26 : decode cX7_onMost 26 = .ok (.iload_n 2, 1) := by decide +kernel
theorem dX7_onMost_27 : decode cX7_onMost 27 = .ok (.ishr, 1) := by decide +kernel
theorem dX7_onMost_28 : decode cX7_onMost 28 = .ok (.iconst 1, 1) := by decide +kernel
theorem dX7_onMost_29 : decode cX7_onMost 29 = .ok (.iand, 1) := by decide +kernel
theorem dX7_onMost_30 : decode cX7_onMost 30 = .ok (.iconst 1, 1) := by decide +kernel
theorem dX7_onMost_31 : decode cX7_onMost 31 = .ok (.if_icmp .ne 7, 3) := by decide +kernel
theorem dX7_onMost_34 : decode cX7_onMost 34 = .ok (.iconst 1, 1) := by decide +kernel
theorem dX7_onMost_35 : decode cX7_onMost 35 = .ok (.goto 4, 3) := by decide +kernel
theorem dX7_onMost_38 : decode cX7_onMost 38 = .ok (.iconst 0, 1) := by decide +kernel
theorem dX7_onMost_39 : decode cX7_onMost 39 = .ok (.istore_n 3, 1) := by decide +kernel
theorem dX7_onMost_40 : decode cX7_onMost 40 = .ok (.iload_n 3, 1) := by decide +kernel
theorem dX7_onMost_41 : decode cX7_onMost 41 = .ok (.ifCond .ne 25, 3) := by decide +kernel
theorem dX7_onMost_44 : decode cX7_onMost 44 = .ok (.iload_n 1, 1) := by decide +kernel
theorem dX7_onMost_45 : decode cX7_onMost 45 = .ok (.iconst (-1), 1) := by decide +kernel
theorem dX7_onMost_46 : decode cX7_onMost 46 = .ok (.if_icmp .eq 18, 3) := by decide +kernel
theorem dX7_onMost_49 : decode cX7_onMost 49 = .ok (.aload_n 0, 1) := by decide +kernel
theorem dX7_onMost_50 : decode cX7_onMost 50 = .ok (.getfield 15, 3) := by decide +kernel
theorem dX7_onMost_53 : decode cX7_onMost 53 = .ok (.iload_n 2, 1) := by decide +kernel
theorem dX7_onMost_54 : decode cX7_onMost 54 = .ok (.iaload, 1) := by decide +kernel
theorem dX7_onMost_55 : decode cX7_onMost 55 = .ok (.aload_n 0, 1) := by decide +kernel
theorem dX7_onMost_56 : decode cX7_onMost 56 = .ok (.getfield 15, 3) := by decide +kernel
theorem dX7_onMost_59 : decode cX7_onMost 59 = .ok (.iload_n 1, 1) := by decide +kernel
theorem dX7_onMost_60 : decode cX7_onMost 60 = .ok (.iaload, 1) := by decide +kernel
theorem dX7_onMost_61 : decode cX7_onMost 61 = .ok (.if_icmp .le 5, 3) := by decide +kernel
theorem dX7_onMost_64 : decode cX7_onMost 64 = .ok (.iload_n 2, 1) := by decide +kernel
theorem dX7_onMost_65 : decode cX7_onMost 65 = .ok (.istore_n 1, 1) := by decide +kernel
theorem dX7_onMost_66 : decode cX7_onMost 66 = .ok (.iinc 2 1, 3) := by decide +kernel
theorem dX7_onMost_69 : decode cX7_onMost 69 = .ok (.goto (-61), 3) := by decide +kernel
theorem dX7_onMost_72 : decode cX7_onMost 72 = .ok (.iload_n 1, 1) := by decide +kernel
theorem dX7_onMost_73 : decode cX7_onMost 73 = .ok (.ireturn, 1) := by decide +kernel
theorem dX7_countRowsBySets_0 : decode cX7_countRowsBySets 0 = .ok (.iconst 0, 1) := by decide +kernel
theorem dX7_countRowsBySets_1 : decode cX7_countRowsBySets 1 = .ok (.istore_n 1, 1) := by decide +kernel
theorem dX7_countRowsBySets_2 : decode cX7_countRowsBySets 2 = .ok (.iload_n 1, 1) := by decide +kernel
theorem dX7_countRowsBySets_3 : decode cX7_countRowsBySets 3 = .ok (.bipush 7, 2) := by decide +kernel
theorem dX7_countRowsBySets_5 : decode cX7_countRowsBySets 5 = .ok (.if_icmp .ge 16, 3) := by decide +kernel
theorem dX7_countRowsBySets_8 : decode cX7_countRowsBySets 8 = .ok (.aload_n 0, 1) := by decide +kernel
theorem dX7_countRowsBySets_9 : decode cX7_countRowsBySets 9 = .ok (.getfield 15, 3) := by decide +kernel
theorem dX7_countRowsBySets_12 : decode cX7_countRowsBySets 12 = .ok (.iload_n 1, 1) := by decide +kernel
theorem dX7_countRowsBySets_13 : decode cX7_countRowsBySets 13 = .ok (.iconst 0, 1) := by decide +kernel
theorem dX7_countRowsBySets_14 : decode cX7_countRowsBySets 14 = .ok (.iastore, 1) := by decide +kernel
theorem dX7_countRowsBySets_15 : decode cX7_countRowsBySets 15 = .ok (.iinc 1 1, 3) := by decide +kernel
theorem dX7_countRowsBySets_18 : decode cX7_countRowsBySets 18 = .ok (.goto (-16), 3) := by decide +kernel
theorem dX7_countRowsBySets_21 : decode cX7_countRowsBySets 21 = .ok (.iconst 1, 1) := by decide +kernel
theorem dX7_countRowsBySets_22 : decode cX7_countRowsBySets 22 = .ok (.istore_n 1, 1) := by decide +kernel
theorem dX7_countRowsBySets_23 : decode cX7_countRowsBySets 23 = .ok (.iload_n 1, 1) := by decide +kernel
theorem dX7_countRowsBySets_24 : decode cX7_countRowsBySets 24 = .ok (.iconst 1, 1) := by decide +kernel
theorem dX7_countRowsBySets_25 : decode cX7_countRowsBySets 25 = .ok (.aload_n 0, 1) := by decide +kernel
theorem dX7_countRowsBySets_26 : decode cX7_countRowsBySets 26 = .ok (.getfield 18, 3) := by decide +kernel
theorem dX7_countRowsBySets_29 : decode cX7_countRowsBySets 29 = .ok (.getfield 27, 3) := by decide +kernel
theorem dX7_countRowsBySets_32 : decode cX7_countRowsBySets 32 = .ok (.ishl, 1) := by decide +kernel
theorem dX7_countRowsBySets_33 : decode cX7_countRowsBySets 33 = .ok (.if_icmp .ge 99, 3) := by decide +kernel
theorem dX7_countRowsBySets_36 : decode cX7_countRowsBySets 36 = .ok (.iconst 0, 1) := by decide +kernel
theorem dX7_countRowsBySets_37 : decode cX7_countRowsBySets 37 = .ok (.istore_n 2, 1) := by decide +kernel
theorem dX7_countRowsBySets_38 : decode cX7_countRowsBySets 38 = .ok (.iconst 0, 1) := by decide +kernel
theorem dX7_countRowsBySets_39 : decode cX7_countRowsBySets 39 = .ok (.istore_n 3, 1) := by decide +kernel
theorem dX7_countRowsBySets_40 : decode cX7_countRowsBySets 40 = .ok (.iload_n 3, 1) := by decide +kernel
theorem dX7_countRowsBySets_41 : decode cX7_countRowsBySets 41 = .ok (.aload_n 0, 1) := by decide +kernel
theorem dX7_countRowsBySets_42 : decode cX7_countRowsBySets 42 = .ok (.getfield 18, 3) := by decide +kernel
theorem dX7_countRowsBySets_45 : decode cX7_countRowsBySets 45 = .ok (.getfield 27, 3) := by decide +kernel
theorem dX7_countRowsBySets_48 : decode cX7_countRowsBySets 48 = .ok (.if_icmp .ge 35, 3) := by decide +kernel
theorem dX7_countRowsBySets_51 : decode cX7_countRowsBySets 51 = .ok (.aload_n 0, 1) := by decide +kernel
theorem dX7_countRowsBySets_52 : decode cX7_countRowsBySets 52 = .ok (.iload_n 1, 1) := by decide +kernel
theorem dX7_countRowsBySets_53 : decode cX7_countRowsBySets 53 = .ok (.iload_n 3, 1) := by decide +kernel
theorem dX7_countRowsBySets_54 : decode cX7_countRowsBySets 54 = .ok (.invokevirtual 98, 3) := by decide +kernel
theorem dX7_countRowsBySets_57 : decode cX7_countRowsBySets 57 = .ok (.istore 4, 2) := by decide +kernel
theorem dX7_countRowsBySets_59 : decode cX7_countRowsBySets 59 = .ok (.aload_n 0, 1) := by decide +kernel
theorem dX7_countRowsBySets_60 : decode cX7_countRowsBySets 60 = .ok (.getfield 9, 3) := by decide +kernel
theorem dX7_countRowsBySets_63 : decode cX7_countRowsBySets 63 = .ok (.iload_n 1, 1) := by decide +kernel
theorem dX7_countRowsBySets_64 : decode cX7_countRowsBySets 64 = .ok (.bipush 7, 2) := by decide +kernel
theorem dX7_countRowsBySets_66 : decode cX7_countRowsBySets 66 = .ok (.imul, 1) := by decide +kernel
theorem dX7_countRowsBySets_67 : decode cX7_countRowsBySets 67 = .ok (.iload_n 3, 1) := by decide +kernel
theorem dX7_countRowsBySets_68 : decode cX7_countRowsBySets 68 = .ok (.iadd, 1) := by decide +kernel
theorem dX7_countRowsBySets_69 : decode cX7_countRowsBySets 69 = .ok (.iload 4, 2) := by decide +kernel
theorem dX7_countRowsBySets_71 : decode cX7_countRowsBySets 71 = .ok (.iastore, 1) := by decide +kernel
theorem dX7_countRowsBySets_72 : decode cX7_countRowsBySets 72 = .ok (.iload_n 2, 1) := by decide +kernel
theorem dX7_countRowsBySets_73 : decode cX7_countRowsBySets 73 = .ok (.iload 4, 2) := by decide +kernel
theorem dX7_countRowsBySets_75 : decode cX7_countRowsBySets 75 = .ok (.iadd, 1) := by decide +kernel
theorem dX7_countRowsBySets_76 : decode cX7_countRowsBySets 76 = .ok (.istore_n 2, 1) := by decide +kernel
theorem dX7_countRowsBySets_77 : decode cX7_countRowsBySets 77 = .ok (.iinc 3 1, 3) := by decide +kernel
theorem dX7_countRowsBySets_80 : decode cX7_countRowsBySets 80 = .ok (.goto (-40), 3) := by decide +kernel
theorem dX7_countRowsBySets_83 : decode cX7_countRowsBySets 83 = .ok (.iconst 0, 1) := by decide +kernel
theorem dX7_countRowsBySets_84 : decode cX7_countRowsBySets 84 = .ok (.istore_n 3, 1) := by decide +kernel
theorem dX7_countRowsBySets_85 : decode cX7_countRowsBySets 85 = .ok (.iload_n 3, 1) := by decide +kernel
theorem dX7_countRowsBySets_86 : decode cX7_countRowsBySets 86 = .ok (.aload_n 0, 1) := by decide +kernel
theorem dX7_countRowsBySets_87 : decode cX7_countRowsBySets 87 = .ok (.getfield 18, 3) := by decide +kernel
theorem dX7_countRowsBySets_90 : decode cX7_countRowsBySets 90 = .ok (.getfield 27, 3) := by decide +kernel
theorem dX7_countRowsBySets_93 : decode cX7_countRowsBySets 93 = .ok (.if_icmp .ge 33, 3) := by decide +kernel
theorem dX7_countRowsBySets_96 : decode cX7_countRowsBySets 96 = .ok (.iload_n 1, 1) := by decide +kernel
theorem dX7_countRowsBySets_97 : decode cX7_countRowsBySets 97 = .ok (.invokestatic 90, 3) := by decide +kernel
theorem dX7_countRowsBySets_100 : decode cX7_countRowsBySets 100 = .ok (.iconst 1, 1) := by decide +kernel
theorem dX7_countRowsBySets_101 : decode cX7_countRowsBySets 101 = .ok (.if_icmp .le 25, 3) := by decide +kernel
theorem dX7_countRowsBySets_104 : decode cX7_countRowsBySets 104 = .ok (.aload_n 0, 1) := by decide +kernel
theorem dX7_countRowsBySets_105 : decode cX7_countRowsBySets 105 = .ok (.getfield 15, 3) := by decide +kernel
theorem dX7_countRowsBySets_108 : decode cX7_countRowsBySets 108 = .ok (.iload_n 3, 1) := by decide +kernel
theorem dX7_countRowsBySets_109 : decode cX7_countRowsBySets 109 = .ok (.dup2, 1) := by decide +kernel
theorem dX7_countRowsBySets_110 : decode cX7_countRowsBySets 110 = .ok (.iaload, 1) := by decide +kernel
theorem dX7_countRowsBySets_111 : decode cX7_countRowsBySets 111 = .ok (.iload_n 1, 1) := by decide +kernel
theorem dX7_countRowsBySets_112 : decode cX7_countRowsBySets 112 = .ok (.iload_n 3, 1) := by decide +kernel
theorem dX7_countRowsBySets_113 : decode cX7_countRowsBySets 113 = .ok (.ishr, 1) := by decide +kernel
theorem dX7_countRowsBySets_114 : decode cX7_countRowsBySets 114 = .ok (.iconst 1, 1) := by decide +kernel
theorem dX7_countRowsBySets_115 : decode cX7_countRowsBySets 115 = .ok (.iand, 1) := by decide +kernel
theorem dX7_countRowsBySets_116 : decode cX7_countRowsBySets 116 = .ok (.iload_n 2, 1) := by decide +kernel
theorem dX7_countRowsBySets_117 : decode cX7_countRowsBySets 117 = .ok (.imul, 1) := by decide +kernel
theorem dX7_countRowsBySets_118 : decode cX7_countRowsBySets 118 = .ok (.iadd, 1) := by decide +kernel
theorem dX7_countRowsBySets_119 : decode cX7_countRowsBySets 119 = .ok (.iastore, 1) := by decide +kernel
theorem dX7_countRowsBySets_120 : decode cX7_countRowsBySets 120 = .ok (.iinc 3 1, 3) := by decide +kernel
theorem dX7_countRowsBySets_123 : decode cX7_countRowsBySets 123 = .ok (.goto (-38), 3) := by decide +kernel
theorem dX7_countRowsBySets_126 : decode cX7_countRowsBySets 126 = .ok (.iinc 1 1, 3) := by decide +kernel
theorem dX7_countRowsBySets_129 : decode cX7_countRowsBySets 129 = .ok (.goto (-106), 3) := by decide +kernel
theorem dX7_countRowsBySets_132 : decode cX7_countRowsBySets 132 = .ok (.return_, 1) := by decide +kernel
theorem dX7_rowsEnding_0 : decode cX7_rowsEnding 0 = .ok (.iload_n 1, 1) := by decide +kernel
theorem dX7_rowsEnding_1 : decode cX7_rowsEnding 1 = .ok (.iload_n 2, 1) := by decide +kernel
theorem dX7_rowsEnding_2 : decode cX7_rowsEnding 2 = .ok (.ishr, 1) := by decide +kernel
theorem dX7_rowsEnding_3 : decode cX7_rowsEnding 3 = .ok (.iconst 1, 1) := by decide +kernel
theorem dX7_rowsEnding_4 : decode cX7_rowsEnding 4 = .ok (.iand, 1) := by decide +kernel
theorem dX7_rowsEnding_5 : decode cX7_rowsEnding 5 = .ok (.ifCond .eq 15, 3) := by decide +kernel
theorem dX7_rowsEnding_8 : decode cX7_rowsEnding 8 = .ok (.iload_n 1, 1) := by decide +kernel
theorem dX7_rowsEnding_9 : decode cX7_rowsEnding 9 = .ok (.aload_n 0, 1) := by decide +kernel
theorem dX7_rowsEnding_10 : decode cX7_rowsEnding 10 = .ok (.getfield 18, 3) := by decide +kernel
theorem dX7_rowsEnding_13 : decode cX7_rowsEnding 13 = .ok (.getfield 41, 3) := by decide +kernel
theorem dX7_rowsEnding_16 : decode cX7_rowsEnding 16 = .ok (.iand, 1) := by decide +kernel
theorem dX7_rowsEnding_17 : decode cX7_rowsEnding 17 = .ok (.ifCond .eq 5, 3) := by decide +kernel
theorem dX7_rowsEnding_20 : decode cX7_rowsEnding 20 = .ok (.iconst 0, 1) := by decide +kernel
theorem dX7_rowsEnding_21 : decode cX7_rowsEnding 21 = .ok (.ireturn, 1) := by decide +kernel
theorem dX7_rowsEnding_22 : decode cX7_rowsEnding 22 = .ok (.iload_n 1, 1) := by decide +kernel
theorem dX7_rowsEnding_23 : decode cX7_rowsEnding 23 = .ok (.iconst 1, 1) := by decide +kernel
theorem dX7_rowsEnding_24 : decode cX7_rowsEnding 24 = .ok (.iload_n 2, 1) := by decide +kernel
theorem dX7_rowsEnding_25 : decode cX7_rowsEnding 25 = .ok (.ishl, 1) := by decide +kernel
theorem dX7_rowsEnding_26 : decode cX7_rowsEnding 26 = .ok (.iconst (-1), 1) := by decide +kernel
theorem dX7_rowsEnding_27 : decode cX7_rowsEnding 27 = .ok (.ixor, 1) := by decide +kernel
theorem dX7_rowsEnding_28 : decode cX7_rowsEnding 28 = .ok (.iand, 1) := by decide +kernel
theorem dX7_rowsEnding_29 : decode cX7_rowsEnding 29 = .ok (.istore_n 3, 1) := by decide +kernel
theorem dX7_rowsEnding_30 : decode cX7_rowsEnding 30 = .ok (.iload_n 3, 1) := by decide +kernel
theorem dX7_rowsEnding_31 : decode cX7_rowsEnding 31 = .ok (.ifCond .ne 5, 3) := by decide +kernel
theorem dX7_rowsEnding_34 : decode cX7_rowsEnding 34 = .ok (.iconst 1, 1) := by decide +kernel
theorem dX7_rowsEnding_35 : decode cX7_rowsEnding 35 = .ok (.ireturn, 1) := by decide +kernel
theorem dX7_rowsEnding_36 : decode cX7_rowsEnding 36 = .ok (.iload_n 3, 1) := by decide +kernel
theorem dX7_rowsEnding_37 : decode cX7_rowsEnding 37 = .ok (.aload_n 0, 1) := by decide +kernel
theorem dX7_rowsEnding_38 : decode cX7_rowsEnding 38 = .ok (.getfield 18, 3) := by decide +kernel
theorem dX7_rowsEnding_41 : decode cX7_rowsEnding 41 = .ok (.getfield 38, 3) := by decide +kernel
theorem dX7_rowsEnding_44 : decode cX7_rowsEnding 44 = .ok (.iload_n 2, 1) := by decide +kernel
theorem dX7_rowsEnding_45 : decode cX7_rowsEnding 45 = .ok (.iaload, 1) := by decide +kernel
theorem dX7_rowsEnding_46 : decode cX7_rowsEnding 46 = .ok (.iand, 1) := by decide +kernel
theorem dX7_rowsEnding_47 : decode cX7_rowsEnding 47 = .ok (.istore 4, 2) := by decide +kernel
theorem dX7_rowsEnding_49 : decode cX7_rowsEnding 49 = .ok (.iconst 0, 1) := by decide +kernel
theorem dX7_rowsEnding_50 : decode cX7_rowsEnding 50 = .ok (.istore 5, 2) := by decide +kernel
theorem dX7_rowsEnding_52 : decode cX7_rowsEnding 52 = .ok (.iconst 0, 1) := by decide +kernel
theorem dX7_rowsEnding_53 : decode cX7_rowsEnding 53 = .ok (.istore 6, 2) := by decide +kernel
theorem dX7_rowsEnding_55 : decode cX7_rowsEnding 55 = .ok (.iload 6, 2) := by decide +kernel
theorem dX7_rowsEnding_57 : decode cX7_rowsEnding 57 = .ok (.aload_n 0, 1) := by decide +kernel
theorem dX7_rowsEnding_58 : decode cX7_rowsEnding 58 = .ok (.getfield 18, 3) := by decide +kernel
theorem dX7_rowsEnding_61 : decode cX7_rowsEnding 61 = .ok (.getfield 27, 3) := by decide +kernel
theorem dX7_rowsEnding_64 : decode cX7_rowsEnding 64 = .ok (.if_icmp .ge 37, 3) := by decide +kernel
theorem dX7_rowsEnding_67 : decode cX7_rowsEnding 67 = .ok (.iload 4, 2) := by decide +kernel
theorem dX7_rowsEnding_69 : decode cX7_rowsEnding 69 = .ok (.iload 6, 2) := by decide +kernel
theorem dX7_rowsEnding_71 : decode cX7_rowsEnding 71 = .ok (.ishr, 1) := by decide +kernel
theorem dX7_rowsEnding_72 : decode cX7_rowsEnding 72 = .ok (.iconst 1, 1) := by decide +kernel
theorem dX7_rowsEnding_73 : decode cX7_rowsEnding 73 = .ok (.iand, 1) := by decide +kernel
theorem dX7_rowsEnding_74 : decode cX7_rowsEnding 74 = .ok (.iconst 1, 1) := by decide +kernel
theorem dX7_rowsEnding_75 : decode cX7_rowsEnding 75 = .ok (.if_icmp .ne 20, 3) := by decide +kernel
theorem dX7_rowsEnding_78 : decode cX7_rowsEnding 78 = .ok (.iload 5, 2) := by decide +kernel
theorem dX7_rowsEnding_80 : decode cX7_rowsEnding 80 = .ok (.aload_n 0, 1) := by decide +kernel
theorem dX7_rowsEnding_81 : decode cX7_rowsEnding 81 = .ok (.getfield 9, 3) := by decide +kernel
theorem dX7_rowsEnding_84 : decode cX7_rowsEnding 84 = .ok (.iload_n 3, 1) := by decide +kernel
theorem dX7_rowsEnding_85 : decode cX7_rowsEnding 85 = .ok (.bipush 7, 2) := by decide +kernel
theorem dX7_rowsEnding_87 : decode cX7_rowsEnding 87 = .ok (.imul, 1) := by decide +kernel
theorem dX7_rowsEnding_88 : decode cX7_rowsEnding 88 = .ok (.iload 6, 2) := by decide +kernel
theorem dX7_rowsEnding_90 : decode cX7_rowsEnding 90 = .ok (.iadd, 1) := by decide +kernel
theorem dX7_rowsEnding_91 : decode cX7_rowsEnding 91 = .ok (.iaload, 1) := by decide +kernel
theorem dX7_rowsEnding_92 : decode cX7_rowsEnding 92 = .ok (.iadd, 1) := by decide +kernel
theorem dX7_rowsEnding_93 : decode cX7_rowsEnding 93 = .ok (.istore 5, 2) := by decide +kernel
theorem dX7_rowsEnding_95 : decode cX7_rowsEnding 95 = .ok (.iinc 6 1, 3) := by decide +kernel
theorem dX7_rowsEnding_98 : decode cX7_rowsEnding 98 = .ok (.goto (-43), 3) := by decide +kernel
theorem dX7_rowsEnding_101 : decode cX7_rowsEnding 101 = .ok (.iload 5, 2) := by decide +kernel
theorem dX7_rowsEnding_103 : decode cX7_rowsEnding 103 = .ok (.ireturn, 1) := by decide +kernel
theorem dX8_init_0 : decode cX8_init 0 = .ok (.aload_n 0, 1) := by decide +kernel
theorem dX8_init_1 : decode cX8_init 1 = .ok (.invokespecial 1, 3) := by decide +kernel
theorem dX8_init_4 : decode cX8_init 4 = .ok (.return_, 1) := by decide +kernel
theorem dX8_copied_0 : decode cX8_copied 0 = .ok (.aload_n 0, 1) := by decide +kernel
theorem dX8_copied_1 : decode cX8_copied 1 = .ok (.iload_n 1, 1) := by decide +kernel
theorem dX8_copied_2 : decode cX8_copied 2 = .ok (.iload_n 2, 1) := by decide +kernel
theorem dX8_copied_3 : decode cX8_copied 3 = .ok (.invokespecial 7, 3) := by decide +kernel
theorem dX8_copied_6 : decode cX8_copied 6 = .ok (.invokestatic 11, 3) := by decide +kernel
theorem dX8_copied_9 : decode cX8_copied 9 = .ok (.ireturn, 1) := by decide +kernel
theorem dX8_lasts_0 : decode cX8_lasts 0 = .ok (.iconst 2, 1) := by decide +kernel
theorem dX8_lasts_1 : decode cX8_lasts 1 = .ok (.aload_n 0, 1) := by decide +kernel
theorem dX8_lasts_2 : decode cX8_lasts 2 = .ok (.iload_n 1, 1) := by decide +kernel
theorem dX8_lasts_3 : decode cX8_lasts 3 = .ok (.invokespecial 17, 3) := by decide +kernel
theorem dX8_lasts_6 : decode cX8_lasts 6 = .ok (.imul, 1) := by decide +kernel
theorem dX8_lasts_7 : decode cX8_lasts 7 = .ok (.ireturn, 1) := by decide +kernel
theorem dX9_init_0 : decode cX9_init 0 = .ok (.aload_n 0, 1) := by decide +kernel
theorem dX9_init_1 : decode cX9_init 1 = .ok (.invokespecial 3, 3) := by decide +kernel
theorem dX9_init_4 : decode cX9_init 4 = .ok (.aload_n 0, 1) := by decide +kernel
theorem dX9_init_5 : decode cX9_init 5 = .ok (.aload_n 1, 1) := by decide +kernel
theorem dX9_init_6 : decode cX9_init 6 = .ok (.putfield 9, 3) := by decide +kernel
theorem dX9_init_9 : decode cX9_init 9 = .ok (.aload_n 0, 1) := by decide +kernel
theorem dX9_init_10 : decode cX9_init 10 = .ok (.aload_n 2, 1) := by decide +kernel
theorem dX9_init_11 : decode cX9_init 11 = .ok (.putfield 15, 3) := by decide +kernel
theorem dX9_init_14 : decode cX9_init 14 = .ok (.return_, 1) := by decide +kernel
theorem dX9_readAll_0 : decode cX9_readAll 0 = .ok (.aload_n 0, 1) := by decide +kernel
theorem dX9_readAll_1 : decode cX9_readAll 1 = .ok (.iload_n 1, 1) := by decide +kernel
theorem dX9_readAll_2 : decode cX9_readAll 2 = .ok (.aload_n 0, 1) := by decide +kernel
theorem dX9_readAll_3 : decode cX9_readAll 3 = .ok (.getfield 9, 3) := by decide +kernel
theorem dX9_readAll_6 : decode cX9_readAll 6 = .ok (.arraylength, 1) := by decide +kernel
theorem dX9_readAll_7 : decode cX9_readAll 7 = .ok (.invokestatic 19, 3) := by decide +kernel
theorem dX9_readAll_10 : decode cX9_readAll 10 = .ok (.putfield 25, 3) := by decide +kernel
theorem dX9_readAll_13 : decode cX9_readAll 13 = .ok (.aload_n 0, 1) := by decide +kernel
theorem dX9_readAll_14 : decode cX9_readAll 14 = .ok (.iconst 0, 1) := by decide +kernel
theorem dX9_readAll_15 : decode cX9_readAll 15 = .ok (.putfield 29, 3) := by decide +kernel
theorem dX9_readAll_18 : decode cX9_readAll 18 = .ok (.aload_n 0, 1) := by decide +kernel
theorem dX9_readAll_19 : decode cX9_readAll 19 = .ok (.iconst 0, 1) := by decide +kernel
theorem dX9_readAll_20 : decode cX9_readAll 20 = .ok (.putfield 32, 3) := by decide +kernel
theorem dX9_readAll_23 : decode cX9_readAll 23 = .ok (.aload_n 0, 1) := by decide +kernel
theorem dX9_readAll_24 : decode cX9_readAll 24 = .ok (.getfield 15, 3) := by decide +kernel
theorem dX9_readAll_27 : decode cX9_readAll 27 = .ok (.iconst 0, 1) := by decide +kernel
theorem dX9_readAll_28 : decode cX9_readAll 28 = .ok (.invokevirtual 35, 3) := by decide +kernel
theorem dX9_readAll_31 : decode cX9_readAll 31 = .ok (.iconst 0, 1) := by decide +kernel
theorem dX9_readAll_32 : decode cX9_readAll 32 = .ok (.istore_n 2, 1) := by decide +kernel
theorem dX9_readAll_33 : decode cX9_readAll 33 = .ok (.iload_n 2, 1) := by decide +kernel
theorem dX9_readAll_34 : decode cX9_readAll 34 = .ok (.aload_n 0, 1) := by decide +kernel
theorem dX9_readAll_35 : decode cX9_readAll 35 = .ok (.getfield 25, 3) := by decide +kernel
theorem dX9_readAll_38 : decode cX9_readAll 38 = .ok (.if_icmp .gt 52, 3) := by decide +kernel
theorem dX9_readAll_41 : decode cX9_readAll 41 = .ok (.aload_n 0, 1) := by decide +kernel
theorem dX9_readAll_42 : decode cX9_readAll 42 = .ok (.invokevirtual 41, 3) := by decide +kernel
theorem dX9_readAll_45 : decode cX9_readAll 45 = .ok (.aload_n 0, 1) := by decide +kernel
theorem dX9_readAll_46 : decode cX9_readAll 46 = .ok (.getfield 44, 3) := by decide +kernel
theorem dX9_readAll_49 : decode cX9_readAll 49 = .ok (.ifCond .ne 15, 3) := by decide +kernel
theorem dX9_readAll_52 : decode cX9_readAll 52 = .ok (.aload_n 0, 1) := by decide +kernel
theorem dX9_readAll_53 : decode cX9_readAll 53 = .ok (.getfield 32, 3) := by decide +kernel
theorem dX9_readAll_56 : decode cX9_readAll 56 = .ok (.ifCond .le 8, 3) := by decide +kernel
theorem dX9_readAll_59 : decode cX9_readAll 59 = .ok (.aload_n 0, 1) := by decide +kernel
theorem dX9_readAll_60 : decode cX9_readAll 60 = .ok (.getfield 32, 3) := by decide +kernel
theorem dX9_readAll_63 : decode cX9_readAll 63 = .ok (.ireturn, 1) := by decide +kernel
theorem dX9_readAll_64 : decode cX9_readAll 64 = .ok (.aload_n 0, 1) := by decide +kernel
theorem dX9_readAll_65 : decode cX9_readAll 65 = .ok (.invokevirtual 47, 3) := by decide +kernel
theorem dX9_readAll_68 : decode cX9_readAll 68 = .ok (.ifCond .ne 6, 3) := by decide +kernel
theorem dX9_readAll_71 : decode cX9_readAll 71 = .ok (.goto 19, 3) := by decide +kernel
theorem dX9_readAll_74 : decode cX9_readAll 74 = .ok (.aload_n 0, 1) := by decide +kernel
theorem dX9_readAll_75 : decode cX9_readAll 75 = .ok (.dup, 1) := by decide +kernel
theorem dX9_readAll_76 : decode cX9_readAll 76 = .ok (.getfield 32, 3) := by decide +kernel
theorem dX9_readAll_79 : decode cX9_readAll 79 = .ok (.iconst 1, 1) := by decide +kernel
theorem dX9_readAll_80 : decode cX9_readAll 80 = .ok (.iadd, 1) := by decide +kernel
theorem dX9_readAll_81 : decode cX9_readAll 81 = .ok (.putfield 32, 3) := by decide +kernel
theorem dX9_readAll_84 : decode cX9_readAll 84 = .ok (.iinc 2 1, 3) := by decide +kernel
theorem dX9_readAll_87 : decode cX9_readAll 87 = .ok (.goto (-54), 3) := by decide +kernel
theorem dX9_readAll_90 : decode cX9_readAll 90 = .ok (.bipush (-10), 2) := by decide +kernel
theorem dX9_readAll_92 : decode cX9_readAll 92 = .ok (.aload_n 0, 1) := by decide +kernel
theorem dX9_readAll_93 : decode cX9_readAll 93 = .ok (.getfield 51, 3) := by decide +kernel
theorem dX9_readAll_96 : decode cX9_readAll 96 = .ok (.isub, 1) := by decide +kernel
theorem dX9_readAll_97 : decode cX9_readAll 97 = .ok (.ireturn, 1) := by decide +kernel
theorem dX9_takesItem_0 : decode cX9_takesItem 0 = .ok (.aload_n 0, 1) := by decide +kernel
theorem dX9_takesItem_1 : decode cX9_takesItem 1 = .ok (.getfield 44, 3) := by decide +kernel
theorem dX9_takesItem_4 : decode cX9_takesItem 4 = .ok (.iconst 1, 1) := by decide +kernel
theorem dX9_takesItem_5 : decode cX9_takesItem 5 = .ok (.if_icmp .eq 5, 3) := by decide +kernel
theorem dX9_takesItem_8 : decode cX9_takesItem 8 = .ok (.iconst 0, 1) := by decide +kernel
theorem dX9_takesItem_9 : decode cX9_takesItem 9 = .ok (.ireturn, 1) := by decide +kernel
theorem dX9_takesItem_10 : decode cX9_takesItem 10 = .ok (.aload_n 0, 1) := by decide +kernel
theorem dX9_takesItem_11 : decode cX9_takesItem 11 = .ok (.ldc 54, 2) := by decide +kernel
theorem dX9_takesItem_13 : decode cX9_takesItem 13 = .ok (.invokevirtual 56, 3) := by decide +kernel
theorem dX9_takesItem_16 : decode cX9_takesItem 16 = .ok (.ifCond .eq 26, 3) := by decide +kernel
theorem dX9_takesItem_19 : decode cX9_takesItem 19 = .ok (.aload_n 0, 1) := by decide +kernel
theorem dX9_takesItem_20 : decode cX9_takesItem 20 = .ok (.getfield 32, 3) := by decide +kernel
theorem dX9_takesItem_23 : decode cX9_takesItem 23 = .ok (.ifCond .ne 14, 3) := by decide +kernel
theorem dX9_takesItem_26 : decode cX9_takesItem 26 = .ok (.aload_n 0, 1) := by decide +kernel
theorem dX9_takesItem_27 : decode cX9_takesItem 27 = .ok (.invokevirtual 60, 3) := by decide +kernel
theorem dX9_takesItem_30 : decode cX9_takesItem 30 = .ok (.ifCond .eq 7, 3) := by decide +kernel
theorem dX9_takesItem_33 : decode cX9_takesItem 33 = .ok (.iconst 1, 1) := by decide +kernel
theorem dX9_takesItem_34 : decode cX9_takesItem 34 = .ok (.goto 4, 3) := by decide +kernel
theorem dX9_takesItem_37 : decode cX9_takesItem 37 = .ok (.iconst 0, 1) := by decide +kernel
theorem dX9_takesItem_38 : decode cX9_takesItem 38 = .ok (.istore_n 1, 1) := by decide +kernel
theorem dX9_takesItem_39 : decode cX9_takesItem 39 = .ok (.goto 91, 3) := by decide +kernel
theorem dX9_takesItem_42 : decode cX9_takesItem 42 = .ok (.aload_n 0, 1) := by decide +kernel
theorem dX9_takesItem_43 : decode cX9_takesItem 43 = .ok (.getfield 32, 3) := by decide +kernel
theorem dX9_takesItem_46 : decode cX9_takesItem 46 = .ok (.ifCond .ne 8, 3) := by decide +kernel
theorem dX9_takesItem_49 : decode cX9_takesItem 49 = .ok (.iconst 0, 1) := by decide +kernel
theorem dX9_takesItem_50 : decode cX9_takesItem 50 = .ok (.istore_n 1, 1) := by decide +kernel
theorem dX9_takesItem_51 : decode cX9_takesItem 51 = .ok (.goto 79, 3) := by decide +kernel
theorem dX9_takesItem_54 : decode cX9_takesItem 54 = .ok (.aload_n 0, 1) := by decide +kernel
theorem dX9_takesItem_55 : decode cX9_takesItem 55 = .ok (.ldc 63, 2) := by decide +kernel
theorem dX9_takesItem_57 : decode cX9_takesItem 57 = .ok (.invokevirtual 56, 3) := by decide +kernel
theorem dX9_takesItem_60 : decode cX9_takesItem 60 = .ok (.ifCond .eq 31, 3) := by decide +kernel
theorem dX9_takesItem_63 : decode cX9_takesItem 63 = .ok (.aload_n 0, 1) := by decide +kernel
theorem dX9_takesItem_64 : decode cX9_takesItem 64 = .ok (.getfield 15, 3) := by decide +kernel
theorem dX9_takesItem_67 : decode cX9_takesItem 67 = .ok (.getfield 65, 3) := by decide +kernel
theorem dX9_takesItem_70 : decode cX9_takesItem 70 = .ok (.bipush 7, 2) := by decide +kernel
theorem dX9_takesItem_72 : decode cX9_takesItem 72 = .ok (.if_icmp .ge 14, 3) := by decide +kernel
theorem dX9_takesItem_75 : decode cX9_takesItem 75 = .ok (.aload_n 0, 1) := by decide +kernel
theorem dX9_takesItem_76 : decode cX9_takesItem 76 = .ok (.invokevirtual 68, 3) := by decide +kernel
theorem dX9_takesItem_79 : decode cX9_takesItem 79 = .ok (.ifCond .eq 7, 3) := by decide +kernel
theorem dX9_takesItem_82 : decode cX9_takesItem 82 = .ok (.iconst 1, 1) := by decide +kernel
theorem dX9_takesItem_83 : decode cX9_takesItem 83 = .ok (.goto 4, 3) := by decide +kernel
theorem dX9_takesItem_86 : decode cX9_takesItem 86 = .ok (.iconst 0, 1) := by decide +kernel
theorem dX9_takesItem_87 : decode cX9_takesItem 87 = .ok (.istore_n 1, 1) := by decide +kernel
theorem dX9_takesItem_88 : decode cX9_takesItem 88 = .ok (.goto 42, 3) := by decide +kernel
theorem dX9_takesItem_91 : decode cX9_takesItem 91 = .ok (.aload_n 0, 1) := by decide +kernel
theorem dX9_takesItem_92 : decode cX9_takesItem 92 = .ok (.ldc 71, 2) := by decide +kernel
theorem dX9_takesItem_94 : decode cX9_takesItem 94 = .ok (.invokevirtual 56, 3) := by decide +kernel
theorem dX9_takesItem_97 : decode cX9_takesItem 97 = .ok (.ifCond .eq 11, 3) := by decide +kernel
theorem dX9_takesItem_100 : decode cX9_takesItem 100 = .ok (.aload_n 0, 1) := by decide +kernel
theorem dX9_takesItem_101 : decode cX9_takesItem 101 = .ok (.invokevirtual 73, 3) := by decide +kernel
theorem dX9_takesItem_104 : decode cX9_takesItem 104 = .ok (.istore_n 1, 1) := by decide +kernel
theorem dX9_takesItem_105 : decode cX9_takesItem 105 = .ok (.goto 25, 3) := by decide +kernel
theorem dX9_takesItem_108 : decode cX9_takesItem 108 = .ok (.aload_n 0, 1) := by decide +kernel
theorem dX9_takesItem_109 : decode cX9_takesItem 109 = .ok (.ldc 76, 2) := by decide +kernel
theorem dX9_takesItem_111 : decode cX9_takesItem 111 = .ok (.invokevirtual 56, 3) := by decide +kernel
theorem dX9_takesItem_114 : decode cX9_takesItem 114 = .ok (.ifCond .eq 14, 3) := by decide +kernel
theorem dX9_takesItem_117 : decode cX9_takesItem 117 = .ok (.aload_n 0, 1) := by decide +kernel
theorem dX9_takesItem_118 : decode cX9_takesItem 118 = .ok (.invokevirtual 78, 3) := by decide +kernel
theorem dX9_takesItem_121 : decode cX9_takesItem 121 = .ok (.ifCond .eq 7, 3) := by decide +kernel
theorem dX9_takesItem_124 : decode cX9_takesItem 124 = .ok (.iconst 1, 1) := by decide +kernel
theorem dX9_takesItem_125 : decode cX9_takesItem 125 = .ok (.goto 4, 3) := by decide +kernel
theorem dX9_takesItem_128 : decode cX9_takesItem 128 = .ok (.iconst 0, 1) := by decide +kernel
theorem dX9_takesItem_129 : decode cX9_takesItem 129 = .ok (.istore_n 1, 1) := by decide +kernel
theorem dX9_takesItem_130 : decode cX9_takesItem 130 = .ok (.iload_n 1, 1) := by decide +kernel
theorem dX9_takesItem_131 : decode cX9_takesItem 131 = .ok (.ifCond .eq 14, 3) := by decide +kernel
theorem dX9_takesItem_134 : decode cX9_takesItem 134 = .ok (.aload_n 0, 1) := by decide +kernel
theorem dX9_takesItem_135 : decode cX9_takesItem 135 = .ok (.invokevirtual 81, 3) := by decide +kernel
theorem dX9_takesItem_138 : decode cX9_takesItem 138 = .ok (.ifCond .eq 7, 3) := by decide +kernel
theorem dX9_takesItem_141 : decode cX9_takesItem 141 = .ok (.iconst 1, 1) := by decide +kernel
theorem dX9_takesItem_142 : decode cX9_takesItem 142 = .ok (.goto 4, 3) := by decide +kernel
theorem dX9_takesItem_145 : decode cX9_takesItem 145 = .ok (.iconst 0, 1) := by decide +kernel
theorem dX9_takesItem_146 : decode cX9_takesItem 146 = .ok (.ireturn, 1) := by decide +kernel
theorem dX9_takesWood_0 : decode cX9_takesWood 0 = .ok (.aload_n 0, 1) := by decide +kernel
theorem dX9_takesWood_1 : decode cX9_takesWood 1 = .ok (.bipush 99, 2) := by decide +kernel
theorem dX9_takesWood_3 : decode cX9_takesWood 3 = .ok (.invokevirtual 84, 3) := by decide +kernel
theorem dX9_takesWood_6 : decode cX9_takesWood 6 = .ok (.ifCond .ne 5, 3) := by decide +kernel
theorem dX9_takesWood_9 : decode cX9_takesWood 9 = .ok (.iconst 0, 1) := by decide +kernel
theorem dX9_takesWood_10 : decode cX9_takesWood 10 = .ok (.ireturn, 1) := by decide +kernel
theorem dX9_takesWood_11 : decode cX9_takesWood 11 = .ok (.aload_n 0, 1) := by decide +kernel
theorem dX9_takesWood_12 : decode cX9_takesWood 12 = .ok (.getfield 15, 3) := by decide +kernel
theorem dX9_takesWood_15 : decode cX9_takesWood 15 = .ok (.aload_n 0, 1) := by decide +kernel
theorem dX9_takesWood_16 : decode cX9_takesWood 16 = .ok (.getfield 88, 3) := by decide +kernel
theorem dX9_takesWood_19 : decode cX9_takesWood 19 = .ok (.invokevirtual 35, 3) := by decide +kernel
theorem dX9_takesWood_22 : decode cX9_takesWood 22 = .ok (.iconst 1, 1) := by decide +kernel
theorem dX9_takesWood_23 : decode cX9_takesWood 23 = .ok (.ireturn, 1) := by decide +kernel
theorem dX9_takesTree_0 : decode cX9_takesTree 0 = .ok (.aload_n 0, 1) := by decide +kernel
theorem dX9_takesTree_1 : decode cX9_takesTree 1 = .ok (.iconst 5, 1) := by decide +kernel
theorem dX9_takesTree_2 : decode cX9_takesTree 2 = .ok (.invokevirtual 84, 3) := by decide +kernel
theorem dX9_takesTree_5 : decode cX9_takesTree 5 = .ok (.ifCond .ne 5, 3) := by decide +kernel
theorem dX9_takesTree_8 : decode cX9_takesTree 8 = .ok (.iconst 0, 1) := by decide +kernel
theorem dX9_takesTree_9 : decode cX9_takesTree 9 = .ok (.ireturn, 1) := by decide +kernel
theorem dX9_takesTree_10 : decode cX9_takesTree 10 = .ok (.aload_n 0, 1) := by decide +kernel
theorem dX9_takesTree_11 : decode cX9_takesTree 11 = .ok (.getfield 15, 3) := by decide +kernel
theorem dX9_takesTree_14 : decode cX9_takesTree 14 = .ok (.aload_n 0, 1) := by decide +kernel
theorem dX9_takesTree_15 : decode cX9_takesTree 15 = .ok (.getfield 88, 3) := by decide +kernel
theorem dX9_takesTree_18 : decode cX9_takesTree 18 = .ok (.invokevirtual 91, 3) := by decide +kernel
theorem dX9_takesTree_21 : decode cX9_takesTree 21 = .ok (.iconst 1, 1) := by decide +kernel
theorem dX9_takesTree_22 : decode cX9_takesTree 22 = .ok (.ireturn, 1) := by decide +kernel
theorem dX9_takesTouch_0 : decode cX9_takesTouch 0 = .ok (.aload_n 0, 1) := by decide +kernel
theorem dX9_takesTouch_1 : decode cX9_takesTouch 1 = .ok (.aload_n 0, 1) := by decide +kernel
theorem dX9_takesTouch_2 : decode cX9_takesTouch 2 = .ok (.getfield 15, 3) := by decide +kernel
theorem dX9_takesTouch_5 : decode cX9_takesTouch 5 = .ok (.getfield 65, 3) := by decide +kernel
theorem dX9_takesTouch_8 : decode cX9_takesTouch 8 = .ok (.iconst 1, 1) := by decide +kernel
theorem dX9_takesTouch_9 : decode cX9_takesTouch 9 = .ok (.isub, 1) := by decide +kernel
theorem dX9_takesTouch_10 : decode cX9_takesTouch 10 = .ok (.invokevirtual 84, 3) := by decide +kernel
theorem dX9_takesTouch_13 : decode cX9_takesTouch 13 = .ok (.ifCond .ne 5, 3) := by decide +kernel
theorem dX9_takesTouch_16 : decode cX9_takesTouch 16 = .ok (.iconst 0, 1) := by decide +kernel
theorem dX9_takesTouch_17 : decode cX9_takesTouch 17 = .ok (.ireturn, 1) := by decide +kernel
theorem dX9_takesTouch_18 : decode cX9_takesTouch 18 = .ok (.aload_n 0, 1) := by decide +kernel
theorem dX9_takesTouch_19 : decode cX9_takesTouch 19 = .ok (.getfield 88, 3) := by decide +kernel
theorem dX9_takesTouch_22 : decode cX9_takesTouch 22 = .ok (.istore_n 1, 1) := by decide +kernel
theorem dX9_takesTouch_23 : decode cX9_takesTouch 23 = .ok (.aload_n 0, 1) := by decide +kernel
theorem dX9_takesTouch_24 : decode cX9_takesTouch 24 = .ok (.aload_n 0, 1) := by decide +kernel
theorem dX9_takesTouch_25 : decode cX9_takesTouch 25 = .ok (.getfield 15, 3) := by decide +kernel
theorem dX9_takesTouch_28 : decode cX9_takesTouch 28 = .ok (.getfield 65, 3) := by decide +kernel
theorem dX9_takesTouch_31 : decode cX9_takesTouch 31 = .ok (.iconst 1, 1) := by decide +kernel
theorem dX9_takesTouch_32 : decode cX9_takesTouch 32 = .ok (.isub, 1) := by decide +kernel
theorem dX9_takesTouch_33 : decode cX9_takesTouch 33 = .ok (.invokevirtual 84, 3) := by decide +kernel
theorem dX9_takesTouch_36 : decode cX9_takesTouch 36 = .ok (.ifCond .eq 11, 3) := by decide +kernel
theorem dX9_takesTouch_39 : decode cX9_takesTouch 39 = .ok (.aload_n 0, 1) := by decide +kernel
theorem dX9_takesTouch_40 : decode cX9_takesTouch 40 = .ok (.getfield 88, 3) := by decide +kernel
theorem dX9_takesTouch_43 : decode cX9_takesTouch 43 = .ok (.iload_n 1, 1) := by decide +kernel
theorem dX9_takesTouch_44 : decode cX9_takesTouch 44 = .ok (.if_icmp .ne 5, 3) := by decide +kernel
theorem dX9_takesTouch_47 : decode cX9_takesTouch 47 = .ok (.iconst 0, 1) := by decide +kernel
theorem dX9_takesTouch_48 : decode cX9_takesTouch 48 = .ok (.ireturn, 1) := by decide +kernel
theorem dX9_takesTouch_49 : decode cX9_takesTouch 49 = .ok (.aload_n 0, 1) := by decide +kernel
theorem dX9_takesTouch_50 : decode cX9_takesTouch 50 = .ok (.getfield 15, 3) := by decide +kernel
theorem dX9_takesTouch_53 : decode cX9_takesTouch 53 = .ok (.iload_n 1, 1) := by decide +kernel
theorem dX9_takesTouch_54 : decode cX9_takesTouch 54 = .ok (.aload_n 0, 1) := by decide +kernel
theorem dX9_takesTouch_55 : decode cX9_takesTouch 55 = .ok (.getfield 88, 3) := by decide +kernel
theorem dX9_takesTouch_58 : decode cX9_takesTouch 58 = .ok (.iconst 1, 1) := by decide +kernel
theorem dX9_takesTouch_59 : decode cX9_takesTouch 59 = .ok (.invokevirtual 94, 3) := by decide +kernel
theorem dX9_takesTouch_62 : decode cX9_takesTouch 62 = .ok (.iconst 1, 1) := by decide +kernel
theorem dX9_takesTouch_63 : decode cX9_takesTouch 63 = .ok (.ireturn, 1) := by decide +kernel
theorem dX9_takesFelled_0 : decode cX9_takesFelled 0 = .ok (.aload_n 0, 1) := by decide +kernel
theorem dX9_takesFelled_1 : decode cX9_takesFelled 1 = .ok (.aload_n 0, 1) := by decide +kernel
theorem dX9_takesFelled_2 : decode cX9_takesFelled 2 = .ok (.getfield 15, 3) := by decide +kernel
theorem dX9_takesFelled_5 : decode cX9_takesFelled 5 = .ok (.getfield 65, 3) := by decide +kernel
theorem dX9_takesFelled_8 : decode cX9_takesFelled 8 = .ok (.iconst 1, 1) := by decide +kernel
theorem dX9_takesFelled_9 : decode cX9_takesFelled 9 = .ok (.isub, 1) := by decide +kernel
theorem dX9_takesFelled_10 : decode cX9_takesFelled 10 = .ok (.invokevirtual 84, 3) := by decide +kernel
theorem dX9_takesFelled_13 : decode cX9_takesFelled 13 = .ok (.ifCond .ne 5, 3) := by decide +kernel
theorem dX9_takesFelled_16 : decode cX9_takesFelled 16 = .ok (.iconst 0, 1) := by decide +kernel
theorem dX9_takesFelled_17 : decode cX9_takesFelled 17 = .ok (.ireturn, 1) := by decide +kernel
theorem dX9_takesFelled_18 : decode cX9_takesFelled 18 = .ok (.aload_n 0, 1) := by decide +kernel
theorem dX9_takesFelled_19 : decode cX9_takesFelled 19 = .ok (.getfield 15, 3) := by decide +kernel
theorem dX9_takesFelled_22 : decode cX9_takesFelled 22 = .ok (.aload_n 0, 1) := by decide +kernel
theorem dX9_takesFelled_23 : decode cX9_takesFelled 23 = .ok (.getfield 88, 3) := by decide +kernel
theorem dX9_takesFelled_26 : decode cX9_takesFelled 26 = .ok (.iconst 1, 1) := by decide +kernel
theorem dX9_takesFelled_27 : decode cX9_takesFelled 27 = .ok (.invokevirtual 98, 3) := by decide +kernel
theorem dX9_takesFelled_30 : decode cX9_takesFelled 30 = .ok (.iconst 1, 1) := by decide +kernel
theorem dX9_takesFelled_31 : decode cX9_takesFelled 31 = .ok (.ireturn, 1) := by decide +kernel
theorem dX9_takesNumber_0 : decode cX9_takesNumber 0 = .ok (.aload_n 0, 1) := by decide +kernel
theorem dX9_takesNumber_1 : decode cX9_takesNumber 1 = .ok (.invokevirtual 41, 3) := by decide +kernel
theorem dX9_takesNumber_4 : decode cX9_takesNumber 4 = .ok (.aload_n 0, 1) := by decide +kernel
theorem dX9_takesNumber_5 : decode cX9_takesNumber 5 = .ok (.getfield 44, 3) := by decide +kernel
theorem dX9_takesNumber_8 : decode cX9_takesNumber 8 = .ok (.iconst 2, 1) := by decide +kernel
theorem dX9_takesNumber_9 : decode cX9_takesNumber 9 = .ok (.if_icmp .ne 15, 3) := by decide +kernel
theorem dX9_takesNumber_12 : decode cX9_takesNumber 12 = .ok (.aload_n 0, 1) := by decide +kernel
theorem dX9_takesNumber_13 : decode cX9_takesNumber 13 = .ok (.getfield 88, 3) := by decide +kernel
theorem dX9_takesNumber_16 : decode cX9_takesNumber 16 = .ok (.iload_n 1, 1) := by decide +kernel
theorem dX9_takesNumber_17 : decode cX9_takesNumber 17 = .ok (.if_icmp .gt 7, 3) := by decide +kernel
theorem dX9_takesNumber_20 : decode cX9_takesNumber 20 = .ok (.iconst 1, 1) := by decide +kernel
theorem dX9_takesNumber_21 : decode cX9_takesNumber 21 = .ok (.goto 4, 3) := by decide +kernel
theorem dX9_takesNumber_24 : decode cX9_takesNumber 24 = .ok (.iconst 0, 1) := by decide +kernel
theorem dX9_takesNumber_25 : decode cX9_takesNumber 25 = .ok (.ireturn, 1) := by decide +kernel
theorem dX9_takesSemicolon_0 : decode cX9_takesSemicolon 0 = .ok (.aload_n 0, 1) := by decide +kernel
theorem dX9_takesSemicolon_1 : decode cX9_takesSemicolon 1 = .ok (.invokevirtual 41, 3) := by decide +kernel
theorem dX9_takesSemicolon_4 : decode cX9_takesSemicolon 4 = .ok (.aload_n 0, 1) := by decide +kernel
theorem dX9_takesSemicolon_5 : decode cX9_takesSemicolon 5 = .ok (.getfield 44, 3) := by decide +kernel
theorem dX9_takesSemicolon_8 : decode cX9_takesSemicolon 8 = .ok (.iconst 3, 1) := by decide +kernel
theorem dX9_takesSemicolon_9 : decode cX9_takesSemicolon 9 = .ok (.if_icmp .ne 7, 3) := by decide +kernel
theorem dX9_takesSemicolon_12 : decode cX9_takesSemicolon 12 = .ok (.iconst 1, 1) := by decide +kernel
theorem dX9_takesSemicolon_13 : decode cX9_takesSemicolon 13 = .ok (.goto 4, 3) := by decide +kernel
theorem dX9_takesSemicolon_16 : decode cX9_takesSemicolon 16 = .ok (.iconst 0, 1) := by decide +kernel
theorem dX9_takesSemicolon_17 : decode cX9_takesSemicolon 17 = .ok (.ireturn, 1) := by decide +kernel
theorem dX9_advance_0 : decode cX9_advance 0 = .ok (.aload_n 0, 1) := by decide +kernel
theorem dX9_advance_1 : decode cX9_advance 1 = .ok (.aload_n 0, 1) := by decide +kernel
theorem dX9_advance_2 : decode cX9_advance 2 = .ok (.aload_n 0, 1) := by decide +kernel
theorem dX9_advance_3 : decode cX9_advance 3 = .ok (.getfield 29, 3) := by decide +kernel
theorem dX9_advance_6 : decode cX9_advance 6 = .ok (.bipush 32, 2) := by decide +kernel
theorem dX9_advance_8 : decode cX9_advance 8 = .ok (.bipush 32, 2) := by decide +kernel
theorem dX9_advance_10 : decode cX9_advance 10 = .ok (.invokevirtual 102, 3) := by decide +kernel
theorem dX9_advance_13 : decode cX9_advance 13 = .ok (.putfield 29, 3) := by decide +kernel
theorem dX9_advance_16 : decode cX9_advance 16 = .ok (.aload_n 0, 1) := by decide +kernel
theorem dX9_advance_17 : decode cX9_advance 17 = .ok (.aload_n 0, 1) := by decide +kernel
theorem dX9_advance_18 : decode cX9_advance 18 = .ok (.getfield 29, 3) := by decide +kernel
theorem dX9_advance_21 : decode cX9_advance 21 = .ok (.putfield 51, 3) := by decide +kernel
theorem dX9_advance_24 : decode cX9_advance 24 = .ok (.aload_n 0, 1) := by decide +kernel
theorem dX9_advance_25 : decode cX9_advance 25 = .ok (.getfield 29, 3) := by decide +kernel
theorem dX9_advance_28 : decode cX9_advance 28 = .ok (.aload_n 0, 1) := by decide +kernel
theorem dX9_advance_29 : decode cX9_advance 29 = .ok (.getfield 25, 3) := by decide +kernel
theorem dX9_advance_32 : decode cX9_advance 32 = .ok (.if_icmp .lt 11, 3) := by decide +kernel
theorem dX9_advance_35 : decode cX9_advance 35 = .ok (.aload_n 0, 1) := by decide +kernel
theorem dX9_advance_36 : decode cX9_advance 36 = .ok (.iconst 0, 1) := by decide +kernel
theorem dX9_advance_37 : decode cX9_advance 37 = .ok (.putfield 44, 3) := by decide +kernel
theorem dX9_advance_40 : decode cX9_advance 40 = .ok (.goto 159, 3) := by decide +kernel
theorem dX9_advance_43 : decode cX9_advance 43 = .ok (.aload_n 0, 1) := by decide +kernel
theorem dX9_advance_44 : decode cX9_advance 44 = .ok (.getfield 9, 3) := by decide +kernel
theorem dX9_advance_47 : decode cX9_advance 47 = .ok (.aload_n 0, 1) := by decide +kernel
theorem dX9_advance_48 : decode cX9_advance 48 = .ok (.getfield 29, 3) := by decide +kernel
theorem dX9_advance_51 : decode cX9_advance 51 = .ok (.baload, 1) := by decide +kernel
theorem dX9_advance_52 : decode cX9_advance 52 = .ok (.bipush 97, 2) := by decide +kernel
theorem dX9_advance_54 : decode cX9_advance 54 = .ok (.bipush 122, 2) := by decide +kernel
theorem dX9_advance_56 : decode cX9_advance 56 = .ok (.invokestatic 106, 3) := by decide +kernel
theorem dX9_advance_59 : decode cX9_advance 59 = .ok (.ifCond .eq 27, 3) := by decide +kernel
theorem dX9_advance_62 : decode cX9_advance 62 = .ok (.aload_n 0, 1) := by decide +kernel
theorem dX9_advance_63 : decode cX9_advance 63 = .ok (.iconst 1, 1) := by decide +kernel
theorem dX9_advance_64 : decode cX9_advance 64 = .ok (.putfield 44, 3) := by decide +kernel
theorem dX9_advance_67 : decode cX9_advance 67 = .ok (.aload_n 0, 1) := by decide +kernel
theorem dX9_advance_68 : decode cX9_advance 68 = .ok (.aload_n 0, 1) := by decide +kernel
theorem dX9_advance_69 : decode cX9_advance 69 = .ok (.aload_n 0, 1) := by decide +kernel
theorem dX9_advance_70 : decode cX9_advance 70 = .ok (.getfield 29, 3) := by decide +kernel
theorem dX9_advance_73 : decode cX9_advance 73 = .ok (.bipush 97, 2) := by decide +kernel
theorem dX9_advance_75 : decode cX9_advance 75 = .ok (.bipush 122, 2) := by decide +kernel
theorem dX9_advance_77 : decode cX9_advance 77 = .ok (.invokevirtual 102, 3) := by decide +kernel
theorem dX9_advance_80 : decode cX9_advance 80 = .ok (.putfield 29, 3) := by decide +kernel
theorem dX9_advance_83 : decode cX9_advance 83 = .ok (.goto 116, 3) := by decide +kernel
theorem dX9_advance_86 : decode cX9_advance 86 = .ok (.aload_n 0, 1) := by decide +kernel
theorem dX9_advance_87 : decode cX9_advance 87 = .ok (.getfield 9, 3) := by decide +kernel
theorem dX9_advance_90 : decode cX9_advance 90 = .ok (.aload_n 0, 1) := by decide +kernel
theorem dX9_advance_91 : decode cX9_advance 91 = .ok (.getfield 29, 3) := by decide +kernel
theorem dX9_advance_94 : decode cX9_advance 94 = .ok (.baload, 1) := by decide +kernel
theorem dX9_advance_95 : decode cX9_advance 95 = .ok (.bipush 48, 2) := by decide +kernel
theorem dX9_advance_97 : decode cX9_advance 97 = .ok (.bipush 57, 2) := by decide +kernel
theorem dX9_advance_99 : decode cX9_advance 99 = .ok (.invokestatic 106, 3) := by decide +kernel
theorem dX9_advance_102 : decode cX9_advance 102 = .ok (.ifCond .eq 64, 3) := by decide +kernel
theorem dX9_advance_105 : decode cX9_advance 105 = .ok (.aload_n 0, 1) := by decide +kernel
theorem dX9_advance_106 : decode cX9_advance 106 = .ok (.aload_n 0, 1) := by decide +kernel
theorem dX9_advance_107 : decode cX9_advance 107 = .ok (.aload_n 0, 1) := by decide +kernel
theorem dX9_advance_108 : decode cX9_advance 108 = .ok (.getfield 29, 3) := by decide +kernel
theorem dX9_advance_111 : decode cX9_advance 111 = .ok (.bipush 48, 2) := by decide +kernel
theorem dX9_advance_113 : decode cX9_advance 113 = .ok (.bipush 57, 2) := by decide +kernel
theorem dX9_advance_115 : decode cX9_advance 115 = .ok (.invokevirtual 102, 3) := by decide +kernel
theorem dX9_advance_118 : decode cX9_advance 118 = .ok (.putfield 29, 3) := by decide +kernel
theorem dX9_advance_121 : decode cX9_advance 121 = .ok (.aload_n 0, 1) := by decide +kernel
theorem dX9_advance_122 : decode cX9_advance 122 = .ok (.aload_n 0, 1) := by decide +kernel
theorem dX9_advance_123 : decode cX9_advance 123 = .ok (.getfield 29, 3) := by decide +kernel
theorem dX9_advance_126 : decode cX9_advance 126 = .ok (.aload_n 0, 1) := by decide +kernel
theorem dX9_advance_127 : decode cX9_advance 127 = .ok (.getfield 51, 3) := by decide +kernel
theorem dX9_advance_130 : decode cX9_advance 130 = .ok (.isub, 1) := by decide +kernel
theorem dX9_advance_131 : decode cX9_advance 131 = .ok (.iconst 2, 1) := by decide +kernel
theorem dX9_advance_132 : decode cX9_advance 132 = .ok (.if_icmp .le 7, 3) := by decide +kernel
theorem dX9_advance_135 : decode cX9_advance 135 = .ok (.iconst 4, 1) := by decide +kernel
theorem dX9_advance_136 : decode cX9_advance 136 = .ok (.goto 4, 3) := by decide +kernel
theorem dX9_advance_139 : decode cX9_advance 139 = .ok (.iconst 2, 1) := by decide +kernel
theorem dX9_advance_140 : decode cX9_advance 140 = .ok (.putfield 44, 3) := by decide +kernel
theorem dX9_advance_143 : decode cX9_advance 143 = .ok (.aload_n 0, 1) := by decide +kernel
theorem dX9_advance_144 : decode cX9_advance 144 = .ok (.aload_n 0, 1) := by decide +kernel
theorem dX9_advance_145 : decode cX9_advance 145 = .ok (.getfield 44, 3) := by decide +kernel
theorem dX9_advance_148 : decode cX9_advance 148 = .ok (.iconst 2, 1) := by decide +kernel
theorem dX9_advance_149 : decode cX9_advance 149 = .ok (.if_icmp .ne 10, 3) := by decide +kernel
theorem dX9_advance_152 : decode cX9_advance 152 = .ok (.aload_n 0, 1) := by decide +kernel
theorem dX9_advance_153 : decode cX9_advance 153 = .ok (.invokevirtual 110, 3) := by decide +kernel
theorem dX9_advance_156 : decode cX9_advance 156 = .ok (.goto 4, 3) := by decide +kernel
theorem dX9_advance_159 : decode cX9_advance 159 = .ok (.iconst 0, 1) := by decide +kernel
theorem dX9_advance_160 : decode cX9_advance 160 = .ok (.putfield 88, 3) := by decide +kernel
theorem dX9_advance_163 : decode cX9_advance 163 = .ok (.goto 36, 3) := by decide +kernel
theorem dX9_advance_166 : decode cX9_advance 166 = .ok (.aload_n 0, 1) := by decide +kernel
theorem dX9_advance_167 : decode cX9_advance 167 = .ok (.aload_n 0, 1) := by decide +kernel
theorem dX9_advance_168 : decode cX9_advance 168 = .ok (.getfield 9, 3) := by decide +kernel
theorem dX9_advance_171 : decode cX9_advance 171 = .ok (.aload_n 0, 1) := by decide +kernel
theorem dX9_advance_172 : decode cX9_advance 172 = .ok (.getfield 29, 3) := by decide +kernel
theorem dX9_advance_175 : decode cX9_advance 175 = .ok (.baload, 1) := by decide +kernel
theorem dX9_advance_176 : decode cX9_advance 176 = .ok (.bipush 59, 2) := by decide +kernel
theorem dX9_advance_178 : decode cX9_advance 178 = .ok (.if_icmp .ne 7, 3) := by decide +kernel
theorem dX9_advance_181 : decode cX9_advance 181 = .ok (.iconst 3, 1) := by decide +kernel
theorem dX9_advance_182 : decode cX9_advance 182 = .ok (.goto 4, 3) := by decide +kernel
theorem dX9_advance_185 : decode cX9_advance 185 = .ok (.iconst 4, 1) := by decide +kernel
theorem dX9_advance_186 : decode cX9_advance 186 = .ok (.putfield 44, 3) := by decide +kernel
theorem dX9_advance_189 : decode cX9_advance 189 = .ok (.aload_n 0, 1) := by decide +kernel
theorem dX9_advance_190 : decode cX9_advance 190 = .ok (.dup, 1) := by decide +kernel
theorem dX9_advance_191 : decode cX9_advance 191 = .ok (.getfield 29, 3) := by decide +kernel
theorem dX9_advance_194 : decode cX9_advance 194 = .ok (.iconst 1, 1) := by decide +kernel
theorem dX9_advance_195 : decode cX9_advance 195 = .ok (.iadd, 1) := by decide +kernel
theorem dX9_advance_196 : decode cX9_advance 196 = .ok (.putfield 29, 3) := by decide +kernel
theorem dX9_advance_199 : decode cX9_advance 199 = .ok (.return_, 1) := by decide +kernel
theorem dX9_behindRun_0 : decode cX9_behindRun 0 = .ok (.iload_n 1, 1) := by decide +kernel
theorem dX9_behindRun_1 : decode cX9_behindRun 1 = .ok (.istore 4, 2) := by decide +kernel
theorem dX9_behindRun_3 : decode cX9_behindRun 3 = .ok (.iload 4, 2) := by decide +kernel
theorem dX9_behindRun_5 : decode cX9_behindRun 5 = .ok (.aload_n 0, 1) := by decide +kernel
theorem dX9_behindRun_6 : decode cX9_behindRun 6 = .ok (.getfield 25, 3) := by decide +kernel
theorem dX9_behindRun_9 : decode cX9_behindRun 9 = .ok (.if_icmp .ge 31, 3) := by decide +kernel
theorem dX9_behindRun_12 : decode cX9_behindRun 12 = .ok (.aload_n 0, 1) := by decide +kernel
theorem dX9_behindRun_13 : decode cX9_behindRun 13 = .ok (.getfield 9, 3) := by decide +kernel
theorem dX9_behindRun_16 : decode cX9_behindRun 16 = .ok (.iload 4, 2) := by decide +kernel
theorem dX9_behindRun_18 : decode cX9_behindRun 18 = .ok (.baload, 1) := by decide +kernel
theorem dX9_behindRun_19 : decode cX9_behindRun 19 = .ok (.iload_n 2, 1) := by decide +kernel
theorem dX9_behindRun_20 : decode cX9_behindRun 20 = .ok (.if_icmp .lt 20, 3) := by decide +kernel
theorem dX9_behindRun_23 : decode cX9_behindRun 23 = .ok (.aload_n 0, 1) := by decide +kernel
theorem dX9_behindRun_24 : decode cX9_behindRun 24 = .ok (.getfield 9, 3) := by decide +kernel
theorem dX9_behindRun_27 : decode cX9_behindRun 27 = .ok (.iload 4, 2) := by decide +kernel
theorem dX9_behindRun_29 : decode cX9_behindRun 29 = .ok (.baload, 1) := by decide +kernel
theorem dX9_behindRun_30 : decode cX9_behindRun 30 = .ok (.iload_n 3, 1) := by decide +kernel
theorem dX9_behindRun_31 : decode cX9_behindRun 31 = .ok (.if_icmp .gt 9, 3) := by decide +kernel
theorem dX9_behindRun_34 : decode cX9_behindRun 34 = .ok (.iinc 4 1, 3) := by decide +kernel
theorem dX9_behindRun_37 : decode cX9_behindRun 37 = .ok (.goto (-34), 3) := by decide +kernel
theorem dX9_behindRun_40 : decode cX9_behindRun 40 = .ok (.iload 4, 2) := by decide +kernel
theorem dX9_behindRun_42 : decode cX9_behindRun 42 = .ok (.ireturn, 1) := by decide +kernel
