theorem dX0_init_0 : decode cX0_init 0 = .ok (.aload_n 0, 1) := by decide +kernel
theorem dX0_init_1 : decode cX0_init 1 = .ok (.invokespecial 3, 3) := by decide +kernel
theorem dX0_init_4 : decode cX0_init 4 = .ok (.aload_n 0, 1) := by decide +kernel
theorem dX0_init_5 : decode cX0_init 5 = .ok (.iconst 0, 1) := by decide +kernel
theorem dX0_init_6 : decode cX0_init 6 = .ok (.putfield 9, 3) := by decide +kernel
theorem dX0_init_9 : decode cX0_init 9 = .ok (.aload_n 0, 1) := by decide +kernel
theorem dX0_init_10 : decode cX0_init 10 = .ok (.bipush 30, 2) := by decide +kernel
theorem dX0_init_12 : decode cX0_init 12 = .ok (.newarray .int, 2) := by decide +kernel
theorem dX0_init_14 : decode cX0_init 14 = .ok (.putfield 15, 3) := by decide +kernel
theorem dX0_init_17 : decode cX0_init 17 = .ok (.aload_n 0, 1) := by decide +kernel
theorem dX0_init_18 : decode cX0_init 18 = .ok (.bipush 30, 2) := by decide +kernel
theorem dX0_init_20 : decode cX0_init 20 = .ok (.newarray .int, 2) := by decide +kernel
theorem dX0_init_22 : decode cX0_init 22 = .ok (.putfield 19, 3) := by decide +kernel
theorem dX0_init_25 : decode cX0_init 25 = .ok (.aload_n 0, 1) := by decide +kernel
theorem dX0_init_26 : decode cX0_init 26 = .ok (.bipush 30, 2) := by decide +kernel
theorem dX0_init_28 : decode cX0_init 28 = .ok (.newarray .int, 2) := by decide +kernel
theorem dX0_init_30 : decode cX0_init 30 = .ok (.putfield 22, 3) := by decide +kernel
theorem dX0_init_33 : decode cX0_init 33 = .ok (.return_, 1) := by decide +kernel
theorem dX0_addPlank_0 : decode cX0_addPlank 0 = .ok (.aload_n 0, 1) := by decide +kernel
theorem dX0_addPlank_1 : decode cX0_addPlank 1 = .ok (.iload_n 1, 1) := by decide +kernel
theorem dX0_addPlank_2 : decode cX0_addPlank 2 = .ok (.iload_n 2, 1) := by decide +kernel
theorem dX0_addPlank_3 : decode cX0_addPlank 3 = .ok (.iconst 0, 1) := by decide +kernel
theorem dX0_addPlank_4 : decode cX0_addPlank 4 = .ok (.invokevirtual 25, 3) := by decide +kernel
theorem dX0_addPlank_7 : decode cX0_addPlank 7 = .ok (.ireturn, 1) := by decide +kernel
theorem dX0_addDredging_0 : decode cX0_addDredging 0 = .ok (.aload_n 0, 1) := by decide +kernel
theorem dX0_addDredging_1 : decode cX0_addDredging 1 = .ok (.iload_n 1, 1) := by decide +kernel
theorem dX0_addDredging_2 : decode cX0_addDredging 2 = .ok (.iconst 0, 1) := by decide +kernel
theorem dX0_addDredging_3 : decode cX0_addDredging 3 = .ok (.iload_n 2, 1) := by decide +kernel
theorem dX0_addDredging_4 : decode cX0_addDredging 4 = .ok (.invokevirtual 25, 3) := by decide +kernel
theorem dX0_addDredging_7 : decode cX0_addDredging 7 = .ok (.ireturn, 1) := by decide +kernel
theorem dX0_add_0 : decode cX0_add 0 = .ok (.aload_n 0, 1) := by decide +kernel
theorem dX0_add_1 : decode cX0_add 1 = .ok (.getfield 9, 3) := by decide +kernel
theorem dX0_add_4 : decode cX0_add 4 = .ok (.bipush 30, 2) := by decide +kernel
theorem dX0_add_6 : decode cX0_add 6 = .ok (.if_icmp .lt 5, 3) := by decide +kernel
theorem dX0_add_9 : decode cX0_add 9 = .ok (.iconst 0, 1) := by decide +kernel
theorem dX0_add_10 : decode cX0_add 10 = .ok (.ireturn, 1) := by decide +kernel
theorem dX0_add_11 : decode cX0_add 11 = .ok (.aload_n 0, 1) := by decide +kernel
theorem dX0_add_12 : decode cX0_add 12 = .ok (.getfield 15, 3) := by decide +kernel
theorem dX0_add_15 : decode cX0_add 15 = .ok (.aload_n 0, 1) := by decide +kernel
theorem dX0_add_16 : decode cX0_add 16 = .ok (.getfield 9, 3) := by decide +kernel
theorem dX0_add_19 : decode cX0_add 19 = .ok (.iload_n 1, 1) := by decide +kernel
theorem dX0_add_20 : decode cX0_add 20 = .ok (.iastore, 1) := by decide +kernel
theorem dX0_add_21 : decode cX0_add 21 = .ok (.aload_n 0, 1) := by decide +kernel
theorem dX0_add_22 : decode cX0_add 22 = .ok (.getfield 19, 3) := by decide +kernel
theorem dX0_add_25 : decode cX0_add 25 = .ok (.aload_n 0, 1) := by decide +kernel
theorem dX0_add_26 : decode cX0_add 26 = .ok (.getfield 9, 3) := by decide +kernel
theorem dX0_add_29 : decode cX0_add 29 = .ok (.iload_n 2, 1) := by decide +kernel
theorem dX0_add_30 : decode cX0_add 30 = .ok (.iastore, 1) := by decide +kernel
theorem dX0_add_31 : decode cX0_add 31 = .ok (.aload_n 0, 1) := by decide +kernel
theorem dX0_add_32 : decode cX0_add 32 = .ok (.getfield 22, 3) := by decide +kernel
theorem dX0_add_35 : decode cX0_add 35 = .ok (.aload_n 0, 1) := by decide +kernel
theorem dX0_add_36 : decode cX0_add 36 = .ok (.getfield 9, 3) := by decide +kernel
theorem dX0_add_39 : decode cX0_add 39 = .ok (.iload_n 3, 1) := by decide +kernel
theorem dX0_add_40 : decode cX0_add 40 = .ok (.iastore, 1) := by decide +kernel
theorem dX0_add_41 : decode cX0_add 41 = .ok (.aload_n 0, 1) := by decide +kernel
theorem dX0_add_42 : decode cX0_add 42 = .ok (.dup, 1) := by decide +kernel
theorem dX0_add_43 : decode cX0_add 43 = .ok (.getfield 9, 3) := by decide +kernel
theorem dX0_add_46 : decode cX0_add 46 = .ok (.iconst 1, 1) := by decide +kernel
theorem dX0_add_47 : decode cX0_add 47 = .ok (.iadd, 1) := by decide +kernel
theorem dX0_add_48 : decode cX0_add 48 = .ok (.putfield 9, 3) := by decide +kernel
theorem dX0_add_51 : decode cX0_add 51 = .ok (.iconst 1, 1) := by decide +kernel
theorem dX0_add_52 : decode cX0_add 52 = .ok (.ireturn, 1) := by decide +kernel
theorem dX0_copy_0 : decode cX0_copy 0 = .ok (.aload_n 0, 1) := by decide +kernel
theorem dX0_copy_1 : decode cX0_copy 1 = .ok (.aload_n 1, 1) := by decide +kernel
theorem dX0_copy_2 : decode cX0_copy 2 = .ok (.getfield 9, 3) := by decide +kernel
theorem dX0_copy_5 : decode cX0_copy 5 = .ok (.putfield 9, 3) := by decide +kernel
theorem dX0_copy_8 : decode cX0_copy 8 = .ok (.aload_n 1, 1) := by decide +kernel
theorem dX0_copy_9 : decode cX0_copy 9 = .ok (.getfield 15, 3) := by decide +kernel
theorem dX0_copy_12 : decode cX0_copy 12 = .ok (.iconst 0, 1) := by decide +kernel
theorem dX0_copy_13 : decode cX0_copy 13 = .ok (.aload_n 0, 1) := by decide +kernel
theorem dX0_copy_14 : decode cX0_copy 14 = .ok (.getfield 15, 3) := by decide +kernel
theorem dX0_copy_17 : decode cX0_copy 17 = .ok (.iconst 0, 1) := by decide +kernel
theorem dX0_copy_18 : decode cX0_copy 18 = .ok (.bipush 30, 2) := by decide +kernel
theorem dX0_copy_20 : decode cX0_copy 20 = .ok (.invokestatic 29, 3) := by decide +kernel
theorem dX0_copy_23 : decode cX0_copy 23 = .ok (.aload_n 1, 1) := by decide +kernel
theorem dX0_copy_24 : decode cX0_copy 24 = .ok (.getfield 19, 3) := by decide +kernel
theorem dX0_copy_27 : decode cX0_copy 27 = .ok (.iconst 0, 1) := by decide +kernel
theorem dX0_copy_28 : decode cX0_copy 28 = .ok (.aload_n 0, 1) := by decide +kernel
theorem dX0_copy_29 : decode cX0_copy 29 = .ok (.getfield 19, 3) := by decide +kernel
theorem dX0_copy_32 : decode cX0_copy 32 = .ok (.iconst 0, 1) := by decide +kernel
theorem dX0_copy_33 : decode cX0_copy 33 = .ok (.bipush 30, 2) := by decide +kernel
theorem dX0_copy_35 : decode cX0_copy 35 = .ok (.invokestatic 29, 3) := by decide +kernel
theorem dX0_copy_38 : decode cX0_copy 38 = .ok (.aload_n 1, 1) := by decide +kernel
theorem dX0_copy_39 : decode cX0_copy 39 = .ok (.getfield 22, 3) := by decide +kernel
theorem dX0_copy_42 : decode cX0_copy 42 = .ok (.iconst 0, 1) := by decide +kernel
theorem dX0_copy_43 : decode cX0_copy 43 = .ok (.aload_n 0, 1) := by decide +kernel
theorem dX0_copy_44 : decode cX0_copy 44 = .ok (.getfield 22, 3) := by decide +kernel
theorem dX0_copy_47 : decode cX0_copy 47 = .ok (.iconst 0, 1) := by decide +kernel
theorem dX0_copy_48 : decode cX0_copy 48 = .ok (.bipush 30, 2) := by decide +kernel
theorem dX0_copy_50 : decode cX0_copy 50 = .ok (.invokestatic 29, 3) := by decide +kernel
theorem dX0_copy_53 : decode cX0_copy 53 = .ok (.return_, 1) := by decide +kernel
theorem dX1_init_0 : decode cX1_init 0 = .ok (.aload_n 0, 1) := by decide +kernel
theorem dX1_init_1 : decode cX1_init 1 = .ok (.invokespecial 3, 3) := by decide +kernel
theorem dX1_init_4 : decode cX1_init 4 = .ok (.aload_n 0, 1) := by decide +kernel
theorem dX1_init_5 : decode cX1_init 5 = .ok (.iconst 0, 1) := by decide +kernel
theorem dX1_init_6 : decode cX1_init 6 = .ok (.putfield 9, 3) := by decide +kernel
theorem dX1_init_9 : decode cX1_init 9 = .ok (.aload_n 0, 1) := by decide +kernel
theorem dX1_init_10 : decode cX1_init 10 = .ok (.iconst 0, 1) := by decide +kernel
theorem dX1_init_11 : decode cX1_init 11 = .ok (.putfield 15, 3) := by decide +kernel
theorem dX1_init_14 : decode cX1_init 14 = .ok (.aload_n 0, 1) := by decide +kernel
theorem dX1_init_15 : decode cX1_init 15 = .ok (.iconst 0, 1) := by decide +kernel
theorem dX1_init_16 : decode cX1_init 16 = .ok (.putfield 18, 3) := by decide +kernel
theorem dX1_init_19 : decode cX1_init 19 = .ok (.aload_n 0, 1) := by decide +kernel
theorem dX1_init_20 : decode cX1_init 20 = .ok (.bipush 6, 2) := by decide +kernel
theorem dX1_init_22 : decode cX1_init 22 = .ok (.newarray .int, 2) := by decide +kernel
theorem dX1_init_24 : decode cX1_init 24 = .ok (.putfield 21, 3) := by decide +kernel
theorem dX1_init_27 : decode cX1_init 27 = .ok (.aload_n 0, 1) := by decide +kernel
theorem dX1_init_28 : decode cX1_init 28 = .ok (.bipush 6, 2) := by decide +kernel
theorem dX1_init_30 : decode cX1_init 30 = .ok (.newarray .int, 2) := by decide +kernel
theorem dX1_init_32 : decode cX1_init 32 = .ok (.putfield 25, 3) := by decide +kernel
theorem dX1_init_35 : decode cX1_init 35 = .ok (.aload_n 0, 1) := by decide +kernel
theorem dX1_init_36 : decode cX1_init 36 = .ok (.bipush 16, 2) := by decide +kernel
theorem dX1_init_38 : decode cX1_init 38 = .ok (.newarray .int, 2) := by decide +kernel
theorem dX1_init_40 : decode cX1_init 40 = .ok (.putfield 28, 3) := by decide +kernel
theorem dX1_init_43 : decode cX1_init 43 = .ok (.aload_n 0, 1) := by decide +kernel
theorem dX1_init_44 : decode cX1_init 44 = .ok (.bipush 96, 2) := by decide +kernel
theorem dX1_init_46 : decode cX1_init 46 = .ok (.newarray .int, 2) := by decide +kernel
theorem dX1_init_48 : decode cX1_init 48 = .ok (.putfield 31, 3) := by decide +kernel
theorem dX1_init_51 : decode cX1_init 51 = .ok (.aload_n 0, 1) := by decide +kernel
theorem dX1_init_52 : decode cX1_init 52 = .ok (.bipush 96, 2) := by decide +kernel
theorem dX1_init_54 : decode cX1_init 54 = .ok (.newarray .int, 2) := by decide +kernel
theorem dX1_init_56 : decode cX1_init 56 = .ok (.putfield 34, 3) := by decide +kernel
theorem dX1_init_59 : decode cX1_init 59 = .ok (.aload_n 0, 1) := by decide +kernel
theorem dX1_init_60 : decode cX1_init 60 = .ok (.bipush 96, 2) := by decide +kernel
theorem dX1_init_62 : decode cX1_init 62 = .ok (.newarray .int, 2) := by decide +kernel
theorem dX1_init_64 : decode cX1_init 64 = .ok (.putfield 37, 3) := by decide +kernel
theorem dX1_init_67 : decode cX1_init 67 = .ok (.aload_n 0, 1) := by decide +kernel
theorem dX1_init_68 : decode cX1_init 68 = .ok (.bipush 16, 2) := by decide +kernel
theorem dX1_init_70 : decode cX1_init 70 = .ok (.newarray .int, 2) := by decide +kernel
theorem dX1_init_72 : decode cX1_init 72 = .ok (.putfield 40, 3) := by decide +kernel
theorem dX1_init_75 : decode cX1_init 75 = .ok (.aload_n 0, 1) := by decide +kernel
theorem dX1_init_76 : decode cX1_init 76 = .ok (.bipush 8, 2) := by decide +kernel
theorem dX1_init_78 : decode cX1_init 78 = .ok (.newarray .int, 2) := by decide +kernel
theorem dX1_init_80 : decode cX1_init 80 = .ok (.putfield 43, 3) := by decide +kernel
theorem dX1_init_83 : decode cX1_init 83 = .ok (.aload_n 0, 1) := by decide +kernel
theorem dX1_init_84 : decode cX1_init 84 = .ok (.aload_n 1, 1) := by decide +kernel
theorem dX1_init_85 : decode cX1_init 85 = .ok (.putfield 46, 3) := by decide +kernel
theorem dX1_init_88 : decode cX1_init 88 = .ok (.return_, 1) := by decide +kernel
theorem dX1_take_0 : decode cX1_take 0 = .ok (.aload_n 0, 1) := by decide +kernel
theorem dX1_take_1 : decode cX1_take 1 = .ok (.aload_n 1, 1) := by decide +kernel
theorem dX1_take_2 : decode cX1_take 2 = .ok (.putfield 46, 3) := by decide +kernel
theorem dX1_take_5 : decode cX1_take 5 = .ok (.aload_n 0, 1) := by decide +kernel
theorem dX1_take_6 : decode cX1_take 6 = .ok (.aload_n 1, 1) := by decide +kernel
theorem dX1_take_7 : decode cX1_take 7 = .ok (.getfield 50, 3) := by decide +kernel
theorem dX1_take_10 : decode cX1_take 10 = .ok (.putfield 9, 3) := by decide +kernel
theorem dX1_take_13 : decode cX1_take 13 = .ok (.aload_n 0, 1) := by decide +kernel
theorem dX1_take_14 : decode cX1_take 14 = .ok (.aload_n 1, 1) := by decide +kernel
theorem dX1_take_15 : decode cX1_take 15 = .ok (.getfield 53, 3) := by decide +kernel
theorem dX1_take_18 : decode cX1_take 18 = .ok (.iconst 1, 1) := by decide +kernel
theorem dX1_take_19 : decode cX1_take 19 = .ok (.aload_n 1, 1) := by decide +kernel
theorem dX1_take_20 : decode cX1_take 20 = .ok (.getfield 56, 3) := by decide +kernel
theorem dX1_take_23 : decode cX1_take 23 = .ok (.ishl, 1) := by decide +kernel
theorem dX1_take_24 : decode cX1_take 24 = .ok (.iconst 1, 1) := by decide +kernel
theorem dX1_take_25 : decode cX1_take 25 = .ok (.isub, 1) := by decide +kernel
theorem dX1_take_26 : decode cX1_take 26 = .ok (.iand, 1) := by decide +kernel
theorem dX1_take_27 : decode cX1_take 27 = .ok (.putfield 15, 3) := by decide +kernel
theorem dX1_take_30 : decode cX1_take 30 = .ok (.aload_n 0, 1) := by decide +kernel
theorem dX1_take_31 : decode cX1_take 31 = .ok (.aload_n 1, 1) := by decide +kernel
theorem dX1_take_32 : decode cX1_take 32 = .ok (.iconst (-1), 1) := by decide +kernel
theorem dX1_take_33 : decode cX1_take 33 = .ok (.invokevirtual 59, 3) := by decide +kernel
theorem dX1_take_36 : decode cX1_take 36 = .ok (.aload_n 1, 1) := by decide +kernel
theorem dX1_take_37 : decode cX1_take 37 = .ok (.invokevirtual 63, 3) := by decide +kernel
theorem dX1_take_40 : decode cX1_take 40 = .ok (.ior, 1) := by decide +kernel
theorem dX1_take_41 : decode cX1_take 41 = .ok (.putfield 18, 3) := by decide +kernel
theorem dX1_take_44 : decode cX1_take 44 = .ok (.aload_n 1, 1) := by decide +kernel
theorem dX1_take_45 : decode cX1_take 45 = .ok (.getfield 67, 3) := by decide +kernel
theorem dX1_take_48 : decode cX1_take 48 = .ok (.iconst 0, 1) := by decide +kernel
theorem dX1_take_49 : decode cX1_take 49 = .ok (.aload_n 0, 1) := by decide +kernel
theorem dX1_take_50 : decode cX1_take 50 = .ok (.getfield 21, 3) := by decide +kernel
theorem dX1_take_53 : decode cX1_take 53 = .ok (.iconst 0, 1) := by decide +kernel
theorem dX1_take_54 : decode cX1_take 54 = .ok (.bipush 6, 2) := by decide +kernel
theorem dX1_take_56 : decode cX1_take 56 = .ok (.invokestatic 68, 3) := by decide +kernel
theorem dX1_take_59 : decode cX1_take 59 = .ok (.aload_n 1, 1) := by decide +kernel
theorem dX1_take_60 : decode cX1_take 60 = .ok (.getfield 74, 3) := by decide +kernel
theorem dX1_take_63 : decode cX1_take 63 = .ok (.iconst 0, 1) := by decide +kernel
theorem dX1_take_64 : decode cX1_take 64 = .ok (.aload_n 0, 1) := by decide +kernel
theorem dX1_take_65 : decode cX1_take 65 = .ok (.getfield 25, 3) := by decide +kernel
theorem dX1_take_68 : decode cX1_take 68 = .ok (.iconst 0, 1) := by decide +kernel
theorem dX1_take_69 : decode cX1_take 69 = .ok (.bipush 6, 2) := by decide +kernel
theorem dX1_take_71 : decode cX1_take 71 = .ok (.invokestatic 68, 3) := by decide +kernel
theorem dX1_take_74 : decode cX1_take 74 = .ok (.aload_n 0, 1) := by decide +kernel
theorem dX1_take_75 : decode cX1_take 75 = .ok (.getfield 28, 3) := by decide +kernel
theorem dX1_take_78 : decode cX1_take 78 = .ok (.iconst 0, 1) := by decide +kernel
theorem dX1_take_79 : decode cX1_take 79 = .ok (.invokestatic 75, 3) := by decide +kernel
theorem dX1_take_82 : decode cX1_take 82 = .ok (.iconst 0, 1) := by decide +kernel
theorem dX1_take_83 : decode cX1_take 83 = .ok (.istore_n 2, 1) := by decide +kernel
theorem dX1_take_84 : decode cX1_take 84 = .ok (.iload_n 2, 1) := by decide +kernel
theorem dX1_take_85 : decode cX1_take 85 = .ok (.aload_n 1, 1) := by decide +kernel
theorem dX1_take_86 : decode cX1_take 86 = .ok (.getfield 81, 3) := by decide +kernel
theorem dX1_take_89 : decode cX1_take 89 = .ok (.getfield 85, 3) := by decide +kernel
theorem dX1_take_92 : decode cX1_take 92 = .ok (.if_icmp .ge 49, 3) := by decide +kernel
theorem dX1_take_95 : decode cX1_take 95 = .ok (.aload_n 1, 1) := by decide +kernel
theorem dX1_take_96 : decode cX1_take 96 = .ok (.getfield 81, 3) := by decide +kernel
theorem dX1_take_99 : decode cX1_take 99 = .ok (.getfield 90, 3) := by decide +kernel
theorem dX1_take_102 : decode cX1_take 102 = .ok (.iload_n 2, 1) := by decide +kernel
theorem dX1_take_103 : decode cX1_take 103 = .ok (.iaload, 1) := by decide +kernel
theorem dX1_take_104 : decode cX1_take 104 = .ok (.ifCond .ne 31, 3) := by decide +kernel
theorem dX1_take_107 : decode cX1_take 107 = .ok (.aload_n 0, 1) := by decide +kernel
theorem dX1_take_108 : decode cX1_take 108 = .ok (.getfield 28, 3) := by decide +kernel
theorem dX1_take_111 : decode cX1_take 111 = .ok (.aload_n 1, 1) := by decide +kernel
theorem dX1_take_112 : decode cX1_take 112 = .ok (.getfield 81, 3) := by decide +kernel
theorem dX1_take_115 : decode cX1_take 115 = .ok (.getfield 93, 3) := by decide +kernel
theorem dX1_take_118 : decode cX1_take 118 = .ok (.iload_n 2, 1) := by decide +kernel
theorem dX1_take_119 : decode cX1_take 119 = .ok (.iaload, 1) := by decide +kernel
theorem dX1_take_120 : decode cX1_take 120 = .ok (.dup2, 1) := by decide +kernel
theorem dX1_take_121 : decode cX1_take 121 = .ok (.iaload, 1) := by decide +kernel
theorem dX1_take_122 : decode cX1_take 122 = .ok (.iconst 1, 1) := by decide +kernel
theorem dX1_take_123 : decode cX1_take 123 = .ok (.aload_n 1, 1) := by decide +kernel
theorem dX1_take_124 : decode cX1_take 124 = .ok (.getfield 81, 3) := by decide +kernel
theorem dX1_take_127 : decode cX1_take 127 = .ok (.getfield 96, 3) := by decide +kernel
theorem dX1_take_130 : decode cX1_take 130 = .ok (.iload_n 2, 1) := by decide +kernel
theorem dX1_take_131 : decode cX1_take 131 = .ok (.iaload, 1) := by decide +kernel
theorem dX1_take_132 : decode cX1_take 132 = .ok (.ishl, 1) := by decide +kernel
theorem dX1_take_133 : decode cX1_take 133 = .ok (.ior, 1) := by decide +kernel
theorem dX1_take_134 : decode cX1_take 134 = .ok (.iastore, 1) := by decide +kernel
theorem dX1_take_135 : decode cX1_take 135 = .ok (.iinc 2 1, 3) := by decide +kernel
theorem dX1_take_138 : decode cX1_take 138 = .ok (.goto (-54), 3) := by decide +kernel
theorem dX1_take_141 : decode cX1_take 141 = .ok (.return_, 1) := by decide +kernel
theorem dX1_run_0 : decode cX1_run 0 = .ok (.iconst 0, 1) := by decide +kernel
theorem dX1_run_1 : decode cX1_run 1 = .ok (.istore_n 2, 1) := by decide +kernel
theorem dX1_run_2 : decode cX1_run 2 = .ok (.iload_n 2, 1) := by decide +kernel
theorem dX1_run_3 : decode cX1_run 3 = .ok (.iload_n 1, 1) := by decide +kernel
theorem dX1_run_4 : decode cX1_run 4 = .ok (.if_icmp .ge 39, 3) := by decide +kernel
theorem dX1_run_7 : decode cX1_run 7 = .ok (.iload_n 2, 1) := by decide +kernel
theorem dX1_run_8 : decode cX1_run 8 = .ok (.bipush 16, 2) := by decide +kernel
theorem dX1_run_10 : decode cX1_run 10 = .ok (.if_icmp .ge 33, 3) := by decide +kernel
theorem dX1_run_13 : decode cX1_run 13 = .ok (.aload_n 0, 1) := by decide +kernel
theorem dX1_run_14 : decode cX1_run 14 = .ok (.iload_n 2, 1) := by decide +kernel
theorem dX1_run_15 : decode cX1_run 15 = .ok (.invokevirtual 99, 3) := by decide +kernel
theorem dX1_run_18 : decode cX1_run 18 = .ok (.aload_n 0, 1) := by decide +kernel
theorem dX1_run_19 : decode cX1_run 19 = .ok (.iload_n 2, 1) := by decide +kernel
theorem dX1_run_20 : decode cX1_run 20 = .ok (.invokevirtual 103, 3) := by decide +kernel
theorem dX1_run_23 : decode cX1_run 23 = .ok (.aload_n 0, 1) := by decide +kernel
theorem dX1_run_24 : decode cX1_run 24 = .ok (.getfield 28, 3) := by decide +kernel
theorem dX1_run_27 : decode cX1_run 27 = .ok (.iload_n 2, 1) := by decide +kernel
theorem dX1_run_28 : decode cX1_run 28 = .ok (.iaload, 1) := by decide +kernel
theorem dX1_run_29 : decode cX1_run 29 = .ok (.ifCond .eq 8, 3) := by decide +kernel
theorem dX1_run_32 : decode cX1_run 32 = .ok (.aload_n 0, 1) := by decide +kernel
theorem dX1_run_33 : decode cX1_run 33 = .ok (.iload_n 2, 1) := by decide +kernel
theorem dX1_run_34 : decode cX1_run 34 = .ok (.invokevirtual 106, 3) := by decide +kernel
theorem dX1_run_37 : decode cX1_run 37 = .ok (.iinc 2 1, 3) := by decide +kernel
theorem dX1_run_40 : decode cX1_run 40 = .ok (.goto (-38), 3) := by decide +kernel
theorem dX1_run_43 : decode cX1_run 43 = .ok (.return_, 1) := by decide +kernel
theorem dX1_runAll_0 : decode cX1_runAll 0 = .ok (.aload_n 0, 1) := by decide +kernel
theorem dX1_runAll_1 : decode cX1_runAll 1 = .ok (.aload_n 0, 1) := by decide +kernel
theorem dX1_runAll_2 : decode cX1_runAll 2 = .ok (.getfield 46, 3) := by decide +kernel
theorem dX1_runAll_5 : decode cX1_runAll 5 = .ok (.getfield 56, 3) := by decide +kernel
theorem dX1_runAll_8 : decode cX1_runAll 8 = .ok (.invokevirtual 109, 3) := by decide +kernel
theorem dX1_runAll_11 : decode cX1_runAll 11 = .ok (.iconst 0, 1) := by decide +kernel
theorem dX1_runAll_12 : decode cX1_runAll 12 = .ok (.istore_n 1, 1) := by decide +kernel
theorem dX1_runAll_13 : decode cX1_runAll 13 = .ok (.iload_n 1, 1) := by decide +kernel
theorem dX1_runAll_14 : decode cX1_runAll 14 = .ok (.aload_n 0, 1) := by decide +kernel
theorem dX1_runAll_15 : decode cX1_runAll 15 = .ok (.getfield 46, 3) := by decide +kernel
theorem dX1_runAll_18 : decode cX1_runAll 18 = .ok (.getfield 112, 3) := by decide +kernel
theorem dX1_runAll_21 : decode cX1_runAll 21 = .ok (.getfield 116, 3) := by decide +kernel
theorem dX1_runAll_24 : decode cX1_runAll 24 = .ok (.if_icmp .ge 20, 3) := by decide +kernel
theorem dX1_runAll_27 : decode cX1_runAll 27 = .ok (.aload_n 0, 1) := by decide +kernel
theorem dX1_runAll_28 : decode cX1_runAll 28 = .ok (.getfield 43, 3) := by decide +kernel
theorem dX1_runAll_31 : decode cX1_runAll 31 = .ok (.iload_n 1, 1) := by decide +kernel
theorem dX1_runAll_32 : decode cX1_runAll 32 = .ok (.aload_n 0, 1) := by decide +kernel
theorem dX1_runAll_33 : decode cX1_runAll 33 = .ok (.iload_n 1, 1) := by decide +kernel
theorem dX1_runAll_34 : decode cX1_runAll 34 = .ok (.invokevirtual 119, 3) := by decide +kernel
theorem dX1_runAll_37 : decode cX1_runAll 37 = .ok (.iastore, 1) := by decide +kernel
theorem dX1_runAll_38 : decode cX1_runAll 38 = .ok (.iinc 1 1, 3) := by decide +kernel
theorem dX1_runAll_41 : decode cX1_runAll 41 = .ok (.goto (-28), 3) := by decide +kernel
theorem dX1_runAll_44 : decode cX1_runAll 44 = .ok (.return_, 1) := by decide +kernel
theorem dX1_rainAndDrain_0 : decode cX1_rainAndDrain 0 = .ok (.aload_n 0, 1) := by decide +kernel
theorem dX1_rainAndDrain_1 : decode cX1_rainAndDrain 1 = .ok (.iload_n 1, 1) := by decide +kernel
theorem dX1_rainAndDrain_2 : decode cX1_rainAndDrain 2 = .ok (.invokevirtual 122, 3) := by decide +kernel
theorem dX1_rainAndDrain_5 : decode cX1_rainAndDrain 5 = .ok (.istore_n 2, 1) := by decide +kernel
theorem dX1_rainAndDrain_6 : decode cX1_rainAndDrain 6 = .ok (.aload_n 0, 1) := by decide +kernel
theorem dX1_rainAndDrain_7 : decode cX1_rainAndDrain 7 = .ok (.getfield 46, 3) := by decide +kernel
theorem dX1_rainAndDrain_10 : decode cX1_rainAndDrain 10 = .ok (.getfield 126, 3) := by decide +kernel
theorem dX1_rainAndDrain_13 : decode cX1_rainAndDrain 13 = .ok (.iload_n 1, 1) := by decide +kernel
theorem dX1_rainAndDrain_14 : decode cX1_rainAndDrain 14 = .ok (.iaload, 1) := by decide +kernel
theorem dX1_rainAndDrain_15 : decode cX1_rainAndDrain 15 = .ok (.istore_n 3, 1) := by decide +kernel
theorem dX1_rainAndDrain_16 : decode cX1_rainAndDrain 16 = .ok (.iconst 0, 1) := by decide +kernel
theorem dX1_rainAndDrain_17 : decode cX1_rainAndDrain 17 = .ok (.istore 4, 2) := by decide +kernel
theorem dX1_rainAndDrain_19 : decode cX1_rainAndDrain 19 = .ok (.iload 4, 2) := by decide +kernel
theorem dX1_rainAndDrain_21 : decode cX1_rainAndDrain 21 = .ok (.aload_n 0, 1) := by decide +kernel
theorem dX1_rainAndDrain_22 : decode cX1_rainAndDrain 22 = .ok (.getfield 46, 3) := by decide +kernel
theorem dX1_rainAndDrain_25 : decode cX1_rainAndDrain 25 = .ok (.getfield 129, 3) := by decide +kernel
theorem dX1_rainAndDrain_28 : decode cX1_rainAndDrain 28 = .ok (.if_icmp .ge 91, 3) := by decide +kernel
theorem dX1_rainAndDrain_31 : decode cX1_rainAndDrain 31 = .ok (.iload 4, 2) := by decide +kernel
theorem dX1_rainAndDrain_33 : decode cX1_rainAndDrain 33 = .ok (.iload_n 1, 1) := by decide +kernel
theorem dX1_rainAndDrain_34 : decode cX1_rainAndDrain 34 = .ok (.invokestatic 132, 3) := by decide +kernel
theorem dX1_rainAndDrain_37 : decode cX1_rainAndDrain 37 = .ok (.istore 5, 2) := by decide +kernel
theorem dX1_rainAndDrain_39 : decode cX1_rainAndDrain 39 = .ok (.iload_n 1, 1) := by decide +kernel
theorem dX1_rainAndDrain_40 : decode cX1_rainAndDrain 40 = .ok (.ifCond .ne 13, 3) := by decide +kernel
theorem dX1_rainAndDrain_43 : decode cX1_rainAndDrain 43 = .ok (.aload_n 0, 1) := by decide +kernel
theorem dX1_rainAndDrain_44 : decode cX1_rainAndDrain 44 = .ok (.getfield 21, 3) := by decide +kernel
theorem dX1_rainAndDrain_47 : decode cX1_rainAndDrain 47 = .ok (.iload 4, 2) := by decide +kernel
theorem dX1_rainAndDrain_49 : decode cX1_rainAndDrain 49 = .ok (.iaload, 1) := by decide +kernel
theorem dX1_rainAndDrain_50 : decode cX1_rainAndDrain 50 = .ok (.goto 13, 3) := by decide +kernel
theorem dX1_rainAndDrain_53 : decode cX1_rainAndDrain 53 = .ok (.aload_n 0, 1) := by decide +kernel
theorem dX1_rainAndDrain_54 : decode cX1_rainAndDrain 54 = .ok (.getfield 31, 3) := by decide +kernel
theorem dX1_rainAndDrain_57 : decode cX1_rainAndDrain 57 = .ok (.iload 5, 2) := by decide +kernel
theorem dX1_rainAndDrain_59 : decode cX1_rainAndDrain 59 = .ok (.bipush 6, 2) := by decide +kernel
theorem dX1_rainAndDrain_61 : decode cX1_rainAndDrain 61 = .ok (.isub, 1) := by decide +kernel
theorem dX1_rainAndDrain_62 : decode cX1_rainAndDrain 62 = .ok (.iaload, 1) := by decide +kernel
theorem dX1_rainAndDrain_63 : decode cX1_rainAndDrain 63 = .ok (.istore 6, 2) := by decide +kernel
theorem dX1_rainAndDrain_65 : decode cX1_rainAndDrain 65 = .ok (.iconst 0, 1) := by decide +kernel
theorem dX1_rainAndDrain_66 : decode cX1_rainAndDrain 66 = .ok (.istore 7, 2) := by decide +kernel
theorem dX1_rainAndDrain_68 : decode cX1_rainAndDrain 68 = .ok (.iload_n 2, 1) := by decide +kernel
theorem dX1_rainAndDrain_69 : decode cX1_rainAndDrain 69 = .ok (.ifCond .ne 23, 3) := by decide +kernel
theorem dX1_rainAndDrain_72 : decode cX1_rainAndDrain 72 = .ok (.iload 6, 2) := by decide +kernel
theorem dX1_rainAndDrain_74 : decode cX1_rainAndDrain 74 = .ok (.iload_n 3, 1) := by decide +kernel
theorem dX1_rainAndDrain_75 : decode cX1_rainAndDrain 75 = .ok (.iadd, 1) := by decide +kernel
theorem dX1_rainAndDrain_76 : decode cX1_rainAndDrain 76 = .ok (.istore 6, 2) := by decide +kernel
theorem dX1_rainAndDrain_78 : decode cX1_rainAndDrain 78 = .ok (.iload 6, 2) := by decide +kernel
theorem dX1_rainAndDrain_80 : decode cX1_rainAndDrain 80 = .ok (.aload_n 0, 1) := by decide +kernel
theorem dX1_rainAndDrain_81 : decode cX1_rainAndDrain 81 = .ok (.getfield 25, 3) := by decide +kernel
theorem dX1_rainAndDrain_84 : decode cX1_rainAndDrain 84 = .ok (.iload 4, 2) := by decide +kernel
theorem dX1_rainAndDrain_86 : decode cX1_rainAndDrain 86 = .ok (.iaload, 1) := by decide +kernel
theorem dX1_rainAndDrain_87 : decode cX1_rainAndDrain 87 = .ok (.invokestatic 136, 3) := by decide +kernel
theorem dX1_rainAndDrain_90 : decode cX1_rainAndDrain 90 = .ok (.istore 7, 2) := by decide +kernel
theorem dX1_rainAndDrain_92 : decode cX1_rainAndDrain 92 = .ok (.aload_n 0, 1) := by decide +kernel
theorem dX1_rainAndDrain_93 : decode cX1_rainAndDrain 93 = .ok (.getfield 37, 3) := by decide +kernel
theorem dX1_rainAndDrain_96 : decode cX1_rainAndDrain 96 = .ok (.iload 5, 2) := by decide +kernel
theorem dX1_rainAndDrain_98 : decode cX1_rainAndDrain 98 = .ok (.iload 7, 2) := by decide +kernel
theorem dX1_rainAndDrain_100 : decode cX1_rainAndDrain 100 = .ok (.iastore, 1) := by decide +kernel
theorem dX1_rainAndDrain_101 : decode cX1_rainAndDrain 101 = .ok (.aload_n 0, 1) := by decide +kernel
theorem dX1_rainAndDrain_102 : decode cX1_rainAndDrain 102 = .ok (.getfield 31, 3) := by decide +kernel
theorem dX1_rainAndDrain_105 : decode cX1_rainAndDrain 105 = .ok (.iload 5, 2) := by decide +kernel
theorem dX1_rainAndDrain_107 : decode cX1_rainAndDrain 107 = .ok (.iload 6, 2) := by decide +kernel
theorem dX1_rainAndDrain_109 : decode cX1_rainAndDrain 109 = .ok (.iload 7, 2) := by decide +kernel
theorem dX1_rainAndDrain_111 : decode cX1_rainAndDrain 111 = .ok (.isub, 1) := by decide +kernel
theorem dX1_rainAndDrain_112 : decode cX1_rainAndDrain 112 = .ok (.iastore, 1) := by decide +kernel
theorem dX1_rainAndDrain_113 : decode cX1_rainAndDrain 113 = .ok (.iinc 4 1, 3) := by decide +kernel
theorem dX1_rainAndDrain_116 : decode cX1_rainAndDrain 116 = .ok (.goto (-97), 3) := by decide +kernel
theorem dX1_rainAndDrain_119 : decode cX1_rainAndDrain 119 = .ok (.return_, 1) := by decide +kernel
theorem dX1_runOver_0 : decode cX1_runOver 0 = .ok (.aload_n 0, 1) := by decide +kernel
theorem dX1_runOver_1 : decode cX1_runOver 1 = .ok (.getfield 46, 3) := by decide +kernel
theorem dX1_runOver_4 : decode cX1_runOver 4 = .ok (.getfield 129, 3) := by decide +kernel
theorem dX1_runOver_7 : decode cX1_runOver 7 = .ok (.istore_n 2, 1) := by decide +kernel
theorem dX1_runOver_8 : decode cX1_runOver 8 = .ok (.aload_n 0, 1) := by decide +kernel
theorem dX1_runOver_9 : decode cX1_runOver 9 = .ok (.getfield 9, 3) := by decide +kernel
theorem dX1_runOver_12 : decode cX1_runOver 12 = .ok (.iconst 2, 1) := by decide +kernel
theorem dX1_runOver_13 : decode cX1_runOver 13 = .ok (.if_icmp .ne 7, 3) := by decide +kernel
theorem dX1_runOver_16 : decode cX1_runOver 16 = .ok (.iconst (-1), 1) := by decide +kernel
theorem dX1_runOver_17 : decode cX1_runOver 17 = .ok (.goto 4, 3) := by decide +kernel
theorem dX1_runOver_20 : decode cX1_runOver 20 = .ok (.iconst 1, 1) := by decide +kernel
theorem dX1_runOver_21 : decode cX1_runOver 21 = .ok (.istore_n 3, 1) := by decide +kernel
theorem dX1_runOver_22 : decode cX1_runOver 22 = .ok (.aload_n 0, 1) := by decide +kernel
theorem dX1_runOver_23 : decode cX1_runOver 23 = .ok (.getfield 9, 3) := by decide +kernel
theorem dX1_runOver_26 : decode cX1_runOver 26 = .ok (.iconst 1, 1) := by decide +kernel
theorem dX1_runOver_27 : decode cX1_runOver 27 = .ok (.if_icmp .eq 11, 3) := by decide +kernel
theorem dX1_runOver_30 : decode cX1_runOver 30 = .ok (.aload_n 0, 1) := by decide +kernel
theorem dX1_runOver_31 : decode cX1_runOver 31 = .ok (.getfield 9, 3) := by decide +kernel
theorem dX1_runOver_34 : decode cX1_runOver 34 = .ok (.iconst 2, 1) := by decide +kernel
theorem dX1_runOver_35 : decode cX1_runOver 35 = .ok (.if_icmp .ne 7, 3) := by decide +kernel
theorem dX1_runOver_38 : decode cX1_runOver 38 = .ok (.iconst 1, 1) := by decide +kernel
theorem dX1_runOver_39 : decode cX1_runOver 39 = .ok (.goto 4, 3) := by decide +kernel
theorem dX1_runOver_42 : decode cX1_runOver 42 = .ok (.iconst 0, 1) := by decide +kernel
theorem dX1_runOver_43 : decode cX1_runOver 43 = .ok (.istore 4, 2) := by decide +kernel
theorem dX1_runOver_45 : decode cX1_runOver 45 = .ok (.aload_n 0, 1) := by decide +kernel
theorem dX1_runOver_46 : decode cX1_runOver 46 = .ok (.getfield 9, 3) := by decide +kernel
theorem dX1_runOver_49 : decode cX1_runOver 49 = .ok (.iconst 2, 1) := by decide +kernel
theorem dX1_runOver_50 : decode cX1_runOver 50 = .ok (.if_icmp .ne 9, 3) := by decide +kernel
theorem dX1_runOver_53 : decode cX1_runOver 53 = .ok (.iload_n 2, 1) := by decide +kernel
theorem dX1_runOver_54 : decode cX1_runOver 54 = .ok (.iconst 1, 1) := by decide +kernel
theorem dX1_runOver_55 : decode cX1_runOver 55 = .ok (.isub, 1) := by decide +kernel
theorem dX1_runOver_56 : decode cX1_runOver 56 = .ok (.goto 4, 3) := by decide +kernel
theorem dX1_runOver_59 : decode cX1_runOver 59 = .ok (.iconst 0, 1) := by decide +kernel
theorem dX1_runOver_60 : decode cX1_runOver 60 = .ok (.istore 5, 2) := by decide +kernel
theorem dX1_runOver_62 : decode cX1_runOver 62 = .ok (.aload_n 0, 1) := by decide +kernel
theorem dX1_runOver_63 : decode cX1_runOver 63 = .ok (.getfield 40, 3) := by decide +kernel
theorem dX1_runOver_66 : decode cX1_runOver 66 = .ok (.iload_n 1, 1) := by decide +kernel
theorem dX1_runOver_67 : decode cX1_runOver 67 = .ok (.iconst 0, 1) := by decide +kernel
theorem dX1_runOver_68 : decode cX1_runOver 68 = .ok (.iastore, 1) := by decide +kernel
theorem dX1_runOver_69 : decode cX1_runOver 69 = .ok (.iconst 0, 1) := by decide +kernel
theorem dX1_runOver_70 : decode cX1_runOver 70 = .ok (.istore 6, 2) := by decide +kernel
theorem dX1_runOver_72 : decode cX1_runOver 72 = .ok (.iload 6, 2) := by decide +kernel
theorem dX1_runOver_74 : decode cX1_runOver 74 = .ok (.iload_n 2, 1) := by decide +kernel
theorem dX1_runOver_75 : decode cX1_runOver 75 = .ok (.if_icmp .ge 127, 3) := by decide +kernel
theorem dX1_runOver_78 : decode cX1_runOver 78 = .ok (.iload 5, 2) := by decide +kernel
theorem dX1_runOver_80 : decode cX1_runOver 80 = .ok (.iload_n 1, 1) := by decide +kernel
theorem dX1_runOver_81 : decode cX1_runOver 81 = .ok (.invokestatic 132, 3) := by decide +kernel
theorem dX1_runOver_84 : decode cX1_runOver 84 = .ok (.istore 7, 2) := by decide +kernel
theorem dX1_runOver_86 : decode cX1_runOver 86 = .ok (.aload_n 0, 1) := by decide +kernel
theorem dX1_runOver_87 : decode cX1_runOver 87 = .ok (.getfield 9, 3) := by decide +kernel
theorem dX1_runOver_90 : decode cX1_runOver 90 = .ok (.ifCond .ne 8, 3) := by decide +kernel
theorem dX1_runOver_93 : decode cX1_runOver 93 = .ok (.bipush 99, 2) := by decide +kernel
theorem dX1_runOver_95 : decode cX1_runOver 95 = .ok (.goto 15, 3) := by decide +kernel
theorem dX1_runOver_98 : decode cX1_runOver 98 = .ok (.iconst 5, 1) := by decide +kernel
theorem dX1_runOver_99 : decode cX1_runOver 99 = .ok (.aload_n 0, 1) := by decide +kernel
theorem dX1_runOver_100 : decode cX1_runOver 100 = .ok (.getfield 46, 3) := by decide +kernel
theorem dX1_runOver_103 : decode cX1_runOver 103 = .ok (.getfield 141, 3) := by decide +kernel
theorem dX1_runOver_106 : decode cX1_runOver 106 = .ok (.iload 5, 2) := by decide +kernel
theorem dX1_runOver_108 : decode cX1_runOver 108 = .ok (.iaload, 1) := by decide +kernel
theorem dX1_runOver_109 : decode cX1_runOver 109 = .ok (.imul, 1) := by decide +kernel
theorem dX1_runOver_110 : decode cX1_runOver 110 = .ok (.istore 8, 2) := by decide +kernel
theorem dX1_runOver_112 : decode cX1_runOver 112 = .ok (.iconst 0, 1) := by decide +kernel
theorem dX1_runOver_113 : decode cX1_runOver 113 = .ok (.aload_n 0, 1) := by decide +kernel
theorem dX1_runOver_114 : decode cX1_runOver 114 = .ok (.getfield 31, 3) := by decide +kernel
theorem dX1_runOver_117 : decode cX1_runOver 117 = .ok (.iload 7, 2) := by decide +kernel
theorem dX1_runOver_119 : decode cX1_runOver 119 = .ok (.iaload, 1) := by decide +kernel
theorem dX1_runOver_120 : decode cX1_runOver 120 = .ok (.iload 8, 2) := by decide +kernel
theorem dX1_runOver_122 : decode cX1_runOver 122 = .ok (.isub, 1) := by decide +kernel
theorem dX1_runOver_123 : decode cX1_runOver 123 = .ok (.invokestatic 144, 3) := by decide +kernel
theorem dX1_runOver_126 : decode cX1_runOver 126 = .ok (.istore 9, 2) := by decide +kernel
theorem dX1_runOver_128 : decode cX1_runOver 128 = .ok (.aload_n 0, 1) := by decide +kernel
theorem dX1_runOver_129 : decode cX1_runOver 129 = .ok (.getfield 34, 3) := by decide +kernel
theorem dX1_runOver_132 : decode cX1_runOver 132 = .ok (.iload 7, 2) := by decide +kernel
theorem dX1_runOver_134 : decode cX1_runOver 134 = .ok (.iload 9, 2) := by decide +kernel
theorem dX1_runOver_136 : decode cX1_runOver 136 = .ok (.iastore, 1) := by decide +kernel
theorem dX1_runOver_137 : decode cX1_runOver 137 = .ok (.aload_n 0, 1) := by decide +kernel
theorem dX1_runOver_138 : decode cX1_runOver 138 = .ok (.getfield 31, 3) := by decide +kernel
theorem dX1_runOver_141 : decode cX1_runOver 141 = .ok (.iload 7, 2) := by decide +kernel
theorem dX1_runOver_143 : decode cX1_runOver 143 = .ok (.dup2, 1) := by decide +kernel
theorem dX1_runOver_144 : decode cX1_runOver 144 = .ok (.iaload, 1) := by decide +kernel
theorem dX1_runOver_145 : decode cX1_runOver 145 = .ok (.iload 9, 2) := by decide +kernel
theorem dX1_runOver_147 : decode cX1_runOver 147 = .ok (.isub, 1) := by decide +kernel
theorem dX1_runOver_148 : decode cX1_runOver 148 = .ok (.iastore, 1) := by decide +kernel
theorem dX1_runOver_149 : decode cX1_runOver 149 = .ok (.iload 4, 2) := by decide +kernel
theorem dX1_runOver_151 : decode cX1_runOver 151 = .ok (.ifCond .eq 28, 3) := by decide +kernel
theorem dX1_runOver_154 : decode cX1_runOver 154 = .ok (.iload 6, 2) := by decide +kernel
theorem dX1_runOver_156 : decode cX1_runOver 156 = .ok (.iload_n 2, 1) := by decide +kernel
theorem dX1_runOver_157 : decode cX1_runOver 157 = .ok (.iconst 1, 1) := by decide +kernel
theorem dX1_runOver_158 : decode cX1_runOver 158 = .ok (.isub, 1) := by decide +kernel
theorem dX1_runOver_159 : decode cX1_runOver 159 = .ok (.if_icmp .ge 20, 3) := by decide +kernel
theorem dX1_runOver_162 : decode cX1_runOver 162 = .ok (.aload_n 0, 1) := by decide +kernel
theorem dX1_runOver_163 : decode cX1_runOver 163 = .ok (.getfield 31, 3) := by decide +kernel
theorem dX1_runOver_166 : decode cX1_runOver 166 = .ok (.iload 7, 2) := by decide +kernel
theorem dX1_runOver_168 : decode cX1_runOver 168 = .ok (.iload_n 3, 1) := by decide +kernel
theorem dX1_runOver_169 : decode cX1_runOver 169 = .ok (.iadd, 1) := by decide +kernel
theorem dX1_runOver_170 : decode cX1_runOver 170 = .ok (.dup2, 1) := by decide +kernel
theorem dX1_runOver_171 : decode cX1_runOver 171 = .ok (.iaload, 1) := by decide +kernel
theorem dX1_runOver_172 : decode cX1_runOver 172 = .ok (.iload 9, 2) := by decide +kernel
theorem dX1_runOver_174 : decode cX1_runOver 174 = .ok (.iadd, 1) := by decide +kernel
theorem dX1_runOver_175 : decode cX1_runOver 175 = .ok (.iastore, 1) := by decide +kernel
theorem dX1_runOver_176 : decode cX1_runOver 176 = .ok (.goto 14, 3) := by decide +kernel
theorem dX1_runOver_179 : decode cX1_runOver 179 = .ok (.aload_n 0, 1) := by decide +kernel
theorem dX1_runOver_180 : decode cX1_runOver 180 = .ok (.getfield 40, 3) := by decide +kernel
theorem dX1_runOver_183 : decode cX1_runOver 183 = .ok (.iload_n 1, 1) := by decide +kernel
theorem dX1_runOver_184 : decode cX1_runOver 184 = .ok (.dup2, 1) := by decide +kernel
theorem dX1_runOver_185 : decode cX1_runOver 185 = .ok (.iaload, 1) := by decide +kernel
theorem dX1_runOver_186 : decode cX1_runOver 186 = .ok (.iload 9, 2) := by decide +kernel
theorem dX1_runOver_188 : decode cX1_runOver 188 = .ok (.iadd, 1) := by decide +kernel
theorem dX1_runOver_189 : decode cX1_runOver 189 = .ok (.iastore, 1) := by decide +kernel
theorem dX1_runOver_190 : decode cX1_runOver 190 = .ok (.iload 5, 2) := by decide +kernel
theorem dX1_runOver_192 : decode cX1_runOver 192 = .ok (.iload_n 3, 1) := by decide +kernel
theorem dX1_runOver_193 : decode cX1_runOver 193 = .ok (.iadd, 1) := by decide +kernel
theorem dX1_runOver_194 : decode cX1_runOver 194 = .ok (.istore 5, 2) := by decide +kernel
theorem dX1_runOver_196 : decode cX1_runOver 196 = .ok (.iinc 6 1, 3) := by decide +kernel
theorem dX1_runOver_199 : decode cX1_runOver 199 = .ok (.goto (-127), 3) := by decide +kernel
theorem dX1_runOver_202 : decode cX1_runOver 202 = .ok (.return_, 1) := by decide +kernel
theorem dX1_emptyDredged_0 : decode cX1_emptyDredged 0 = .ok (.iconst 0, 1) := by decide +kernel
theorem dX1_emptyDredged_1 : decode cX1_emptyDredged 1 = .ok (.istore_n 2, 1) := by decide +kernel
theorem dX1_emptyDredged_2 : decode cX1_emptyDredged 2 = .ok (.iload_n 2, 1) := by decide +kernel
theorem dX1_emptyDredged_3 : decode cX1_emptyDredged 3 = .ok (.aload_n 0, 1) := by decide +kernel
theorem dX1_emptyDredged_4 : decode cX1_emptyDredged 4 = .ok (.getfield 46, 3) := by decide +kernel
theorem dX1_emptyDredged_7 : decode cX1_emptyDredged 7 = .ok (.getfield 129, 3) := by decide +kernel
theorem dX1_emptyDredged_10 : decode cX1_emptyDredged 10 = .ok (.if_icmp .ge 33, 3) := by decide +kernel
theorem dX1_emptyDredged_13 : decode cX1_emptyDredged 13 = .ok (.aload_n 0, 1) := by decide +kernel
theorem dX1_emptyDredged_14 : decode cX1_emptyDredged 14 = .ok (.getfield 28, 3) := by decide +kernel
theorem dX1_emptyDredged_17 : decode cX1_emptyDredged 17 = .ok (.iload_n 1, 1) := by decide +kernel
theorem dX1_emptyDredged_18 : decode cX1_emptyDredged 18 = .ok (.iaload, 1) := by decide +kernel
theorem dX1_emptyDredged_19 : decode cX1_emptyDredged 19 = .ok (.iload_n 2, 1) := by decide +kernel
theorem dX1_emptyDredged_20 : decode cX1_emptyDredged 20 = .ok (.ishr, 1) := by decide +kernel
theorem dX1_emptyDredged_21 : decode cX1_emptyDredged 21 = .ok (.iconst 1, 1) := by decide +kernel
theorem dX1_emptyDredged_22 : decode cX1_emptyDredged 22 = .ok (.iand, 1) := by decide +kernel
theorem dX1_emptyDredged_23 : decode cX1_emptyDredged 23 = .ok (.ifCond .eq 14, 3) := by decide +kernel
theorem dX1_emptyDredged_26 : decode cX1_emptyDredged 26 = .ok (.aload_n 0, 1) := by decide +kernel
theorem dX1_emptyDredged_27 : decode cX1_emptyDredged 27 = .ok (.getfield 31, 3) := by decide +kernel
theorem dX1_emptyDredged_30 : decode cX1_emptyDredged 30 = .ok (.iload_n 2, 1) := by decide +kernel
theorem dX1_emptyDredged_31 : decode cX1_emptyDredged 31 = .ok (.iload_n 1, 1) := by decide +kernel
theorem dX1_emptyDredged_32 : decode cX1_emptyDredged 32 = .ok (.invokestatic 132, 3) := by decide +kernel
theorem dX1_emptyDredged_35 : decode cX1_emptyDredged 35 = .ok (.iconst 0, 1) := by decide +kernel
theorem dX1_emptyDredged_36 : decode cX1_emptyDredged 36 = .ok (.iastore, 1) := by decide +kernel
theorem dX1_emptyDredged_37 : decode cX1_emptyDredged 37 = .ok (.iinc 2 1, 3) := by decide +kernel
theorem dX1_emptyDredged_40 : decode cX1_emptyDredged 40 = .ok (.goto (-38), 3) := by decide +kernel
theorem dX1_emptyDredged_43 : decode cX1_emptyDredged 43 = .ok (.return_, 1) := by decide +kernel
theorem dX1_isFrost_0 : decode cX1_isFrost 0 = .ok (.aload_n 0, 1) := by decide +kernel
theorem dX1_isFrost_1 : decode cX1_isFrost 1 = .ok (.getfield 15, 3) := by decide +kernel
theorem dX1_isFrost_4 : decode cX1_isFrost 4 = .ok (.iload_n 1, 1) := by decide +kernel
theorem dX1_isFrost_5 : decode cX1_isFrost 5 = .ok (.ishr, 1) := by decide +kernel
theorem dX1_isFrost_6 : decode cX1_isFrost 6 = .ok (.iconst 1, 1) := by decide +kernel
theorem dX1_isFrost_7 : decode cX1_isFrost 7 = .ok (.iand, 1) := by decide +kernel
theorem dX1_isFrost_8 : decode cX1_isFrost 8 = .ok (.ifCond .eq 7, 3) := by decide +kernel
theorem dX1_isFrost_11 : decode cX1_isFrost 11 = .ok (.iconst 1, 1) := by decide +kernel
theorem dX1_isFrost_12 : decode cX1_isFrost 12 = .ok (.goto 4, 3) := by decide +kernel
theorem dX1_isFrost_15 : decode cX1_isFrost 15 = .ok (.iconst 0, 1) := by decide +kernel
theorem dX1_isFrost_16 : decode cX1_isFrost 16 = .ok (.ireturn, 1) := by decide +kernel
theorem dX1_swimsOver_0 : decode cX1_swimsOver 0 = .ok (.aload_n 0, 1) := by decide +kernel
theorem dX1_swimsOver_1 : decode cX1_swimsOver 1 = .ok (.getfield 31, 3) := by decide +kernel
theorem dX1_swimsOver_4 : decode cX1_swimsOver 4 = .ok (.iload_n 2, 1) := by decide +kernel
theorem dX1_swimsOver_5 : decode cX1_swimsOver 5 = .ok (.iload_n 3, 1) := by decide +kernel
theorem dX1_swimsOver_6 : decode cX1_swimsOver 6 = .ok (.invokestatic 132, 3) := by decide +kernel
theorem dX1_swimsOver_9 : decode cX1_swimsOver 9 = .ok (.iaload, 1) := by decide +kernel
theorem dX1_swimsOver_10 : decode cX1_swimsOver 10 = .ok (.aload_n 0, 1) := by decide +kernel
theorem dX1_swimsOver_11 : decode cX1_swimsOver 11 = .ok (.getfield 46, 3) := by decide +kernel
theorem dX1_swimsOver_14 : decode cX1_swimsOver 14 = .ok (.getfield 147, 3) := by decide +kernel
theorem dX1_swimsOver_17 : decode cX1_swimsOver 17 = .ok (.iload_n 1, 1) := by decide +kernel
theorem dX1_swimsOver_18 : decode cX1_swimsOver 18 = .ok (.iaload, 1) := by decide +kernel
theorem dX1_swimsOver_19 : decode cX1_swimsOver 19 = .ok (.if_icmp .gt 7, 3) := by decide +kernel
theorem dX1_swimsOver_22 : decode cX1_swimsOver 22 = .ok (.iconst 1, 1) := by decide +kernel
theorem dX1_swimsOver_23 : decode cX1_swimsOver 23 = .ok (.goto 4, 3) := by decide +kernel
theorem dX1_swimsOver_26 : decode cX1_swimsOver 26 = .ok (.iconst 0, 1) := by decide +kernel
theorem dX1_swimsOver_27 : decode cX1_swimsOver 27 = .ok (.ireturn, 1) := by decide +kernel
theorem dX1_crosses_0 : decode cX1_crosses 0 = .ok (.aload_n 0, 1) := by decide +kernel
theorem dX1_crosses_1 : decode cX1_crosses 1 = .ok (.iload_n 3, 1) := by decide +kernel
theorem dX1_crosses_2 : decode cX1_crosses 2 = .ok (.invokevirtual 122, 3) := by decide +kernel
theorem dX1_crosses_5 : decode cX1_crosses 5 = .ok (.ifCond .ne 24, 3) := by decide +kernel
theorem dX1_crosses_8 : decode cX1_crosses 8 = .ok (.aload_n 0, 1) := by decide +kernel
theorem dX1_crosses_9 : decode cX1_crosses 9 = .ok (.getfield 18, 3) := by decide +kernel
theorem dX1_crosses_12 : decode cX1_crosses 12 = .ok (.iload_n 2, 1) := by decide +kernel
theorem dX1_crosses_13 : decode cX1_crosses 13 = .ok (.ishr, 1) := by decide +kernel
theorem dX1_crosses_14 : decode cX1_crosses 14 = .ok (.iconst 1, 1) := by decide +kernel
theorem dX1_crosses_15 : decode cX1_crosses 15 = .ok (.iand, 1) := by decide +kernel
theorem dX1_crosses_16 : decode cX1_crosses 16 = .ok (.ifCond .ne 13, 3) := by decide +kernel
theorem dX1_crosses_19 : decode cX1_crosses 19 = .ok (.aload_n 0, 1) := by decide +kernel
theorem dX1_crosses_20 : decode cX1_crosses 20 = .ok (.iload_n 1, 1) := by decide +kernel
theorem dX1_crosses_21 : decode cX1_crosses 21 = .ok (.iload_n 2, 1) := by decide +kernel
theorem dX1_crosses_22 : decode cX1_crosses 22 = .ok (.iload_n 3, 1) := by decide +kernel
theorem dX1_crosses_23 : decode cX1_crosses 23 = .ok (.invokevirtual 150, 3) := by decide +kernel
theorem dX1_crosses_26 : decode cX1_crosses 26 = .ok (.ifCond .eq 7, 3) := by decide +kernel
theorem dX1_crosses_29 : decode cX1_crosses 29 = .ok (.iconst 1, 1) := by decide +kernel
theorem dX1_crosses_30 : decode cX1_crosses 30 = .ok (.goto 4, 3) := by decide +kernel
theorem dX1_crosses_33 : decode cX1_crosses 33 = .ok (.iconst 0, 1) := by decide +kernel
theorem dX1_crosses_34 : decode cX1_crosses 34 = .ok (.ireturn, 1) := by decide +kernel
theorem dX1_visits_0 : decode cX1_visits 0 = .ok (.iload_n 1, 1) := by decide +kernel
theorem dX1_visits_1 : decode cX1_visits 1 = .ok (.iload_n 2, 1) := by decide +kernel
theorem dX1_visits_2 : decode cX1_visits 2 = .ok (.if_icmp .eq 27, 3) := by decide +kernel
theorem dX1_visits_5 : decode cX1_visits 5 = .ok (.aload_n 0, 1) := by decide +kernel
theorem dX1_visits_6 : decode cX1_visits 6 = .ok (.iload_n 1, 1) := by decide +kernel
theorem dX1_visits_7 : decode cX1_visits 7 = .ok (.iload_n 1, 1) := by decide +kernel
theorem dX1_visits_8 : decode cX1_visits 8 = .ok (.iload_n 3, 1) := by decide +kernel
theorem dX1_visits_9 : decode cX1_visits 9 = .ok (.invokevirtual 154, 3) := by decide +kernel
theorem dX1_visits_12 : decode cX1_visits 12 = .ok (.ifCond .eq 17, 3) := by decide +kernel
theorem dX1_visits_15 : decode cX1_visits 15 = .ok (.aload_n 0, 1) := by decide +kernel
theorem dX1_visits_16 : decode cX1_visits 16 = .ok (.iload_n 1, 1) := by decide +kernel
theorem dX1_visits_17 : decode cX1_visits 17 = .ok (.iload_n 2, 1) := by decide +kernel
theorem dX1_visits_18 : decode cX1_visits 18 = .ok (.iload_n 3, 1) := by decide +kernel
theorem dX1_visits_19 : decode cX1_visits 19 = .ok (.invokevirtual 154, 3) := by decide +kernel
theorem dX1_visits_22 : decode cX1_visits 22 = .ok (.ifCond .eq 7, 3) := by decide +kernel
theorem dX1_visits_25 : decode cX1_visits 25 = .ok (.iconst 1, 1) := by decide +kernel
theorem dX1_visits_26 : decode cX1_visits 26 = .ok (.goto 4, 3) := by decide +kernel
theorem dX1_visits_29 : decode cX1_visits 29 = .ok (.iconst 0, 1) := by decide +kernel
theorem dX1_visits_30 : decode cX1_visits 30 = .ok (.ireturn, 1) := by decide +kernel
theorem dX1_visitedBy_0 : decode cX1_visitedBy 0 = .ok (.iconst 0, 1) := by decide +kernel
theorem dX1_visitedBy_1 : decode cX1_visitedBy 1 = .ok (.istore_n 3, 1) := by decide +kernel
theorem dX1_visitedBy_2 : decode cX1_visitedBy 2 = .ok (.iconst 0, 1) := by decide +kernel
theorem dX1_visitedBy_3 : decode cX1_visitedBy 3 = .ok (.istore 4, 2) := by decide +kernel
theorem dX1_visitedBy_5 : decode cX1_visitedBy 5 = .ok (.iload 4, 2) := by decide +kernel
theorem dX1_visitedBy_7 : decode cX1_visitedBy 7 = .ok (.aload_n 0, 1) := by decide +kernel
theorem dX1_visitedBy_8 : decode cX1_visitedBy 8 = .ok (.getfield 46, 3) := by decide +kernel
theorem dX1_visitedBy_11 : decode cX1_visitedBy 11 = .ok (.getfield 129, 3) := by decide +kernel
theorem dX1_visitedBy_14 : decode cX1_visitedBy 14 = .ok (.if_icmp .ge 27, 3) := by decide +kernel
theorem dX1_visitedBy_17 : decode cX1_visitedBy 17 = .ok (.aload_n 0, 1) := by decide +kernel
theorem dX1_visitedBy_18 : decode cX1_visitedBy 18 = .ok (.iload_n 1, 1) := by decide +kernel
theorem dX1_visitedBy_19 : decode cX1_visitedBy 19 = .ok (.iload 4, 2) := by decide +kernel
theorem dX1_visitedBy_21 : decode cX1_visitedBy 21 = .ok (.iload_n 2, 1) := by decide +kernel
theorem dX1_visitedBy_22 : decode cX1_visitedBy 22 = .ok (.invokevirtual 157, 3) := by decide +kernel
theorem dX1_visitedBy_25 : decode cX1_visitedBy 25 = .ok (.ifCond .eq 10, 3) := by decide +kernel
theorem dX1_visitedBy_28 : decode cX1_visitedBy 28 = .ok (.iload_n 3, 1) := by decide +kernel
theorem dX1_visitedBy_29 : decode cX1_visitedBy 29 = .ok (.iconst 1, 1) := by decide +kernel
theorem dX1_visitedBy_30 : decode cX1_visitedBy 30 = .ok (.iload 4, 2) := by decide +kernel
theorem dX1_visitedBy_32 : decode cX1_visitedBy 32 = .ok (.ishl, 1) := by decide +kernel
theorem dX1_visitedBy_33 : decode cX1_visitedBy 33 = .ok (.ior, 1) := by decide +kernel
theorem dX1_visitedBy_34 : decode cX1_visitedBy 34 = .ok (.istore_n 3, 1) := by decide +kernel
theorem dX1_visitedBy_35 : decode cX1_visitedBy 35 = .ok (.iinc 4 1, 3) := by decide +kernel
theorem dX1_visitedBy_38 : decode cX1_visitedBy 38 = .ok (.goto (-33), 3) := by decide +kernel
theorem dX1_visitedBy_41 : decode cX1_visitedBy 41 = .ok (.iload_n 3, 1) := by decide +kernel
theorem dX1_visitedBy_42 : decode cX1_visitedBy 42 = .ok (.ireturn, 1) := by decide +kernel
theorem dX1_spread_0 : decode cX1_spread 0 = .ok (.iload_n 1, 1) := by decide +kernel
theorem dX1_spread_1 : decode cX1_spread 1 = .ok (.istore_n 3, 1) := by decide +kernel
theorem dX1_spread_2 : decode cX1_spread 2 = .ok (.iconst 0, 1) := by decide +kernel
theorem dX1_spread_3 : decode cX1_spread 3 = .ok (.istore 4, 2) := by decide +kernel
theorem dX1_spread_5 : decode cX1_spread 5 = .ok (.iload 4, 2) := by decide +kernel
theorem dX1_spread_7 : decode cX1_spread 7 = .ok (.aload_n 0, 1) := by decide +kernel
theorem dX1_spread_8 : decode cX1_spread 8 = .ok (.getfield 46, 3) := by decide +kernel
theorem dX1_spread_11 : decode cX1_spread 11 = .ok (.getfield 129, 3) := by decide +kernel
theorem dX1_spread_14 : decode cX1_spread 14 = .ok (.if_icmp .ge 28, 3) := by decide +kernel
theorem dX1_spread_17 : decode cX1_spread 17 = .ok (.iload_n 1, 1) := by decide +kernel
theorem dX1_spread_18 : decode cX1_spread 18 = .ok (.iload 4, 2) := by decide +kernel
theorem dX1_spread_20 : decode cX1_spread 20 = .ok (.ishr, 1) := by decide +kernel
theorem dX1_spread_21 : decode cX1_spread 21 = .ok (.iconst 1, 1) := by decide +kernel
theorem dX1_spread_22 : decode cX1_spread 22 = .ok (.iand, 1) := by decide +kernel
theorem dX1_spread_23 : decode cX1_spread 23 = .ok (.ifCond .eq 13, 3) := by decide +kernel
theorem dX1_spread_26 : decode cX1_spread 26 = .ok (.iload_n 3, 1) := by decide +kernel
theorem dX1_spread_27 : decode cX1_spread 27 = .ok (.aload_n 0, 1) := by decide +kernel
theorem dX1_spread_28 : decode cX1_spread 28 = .ok (.iload 4, 2) := by decide +kernel
theorem dX1_spread_30 : decode cX1_spread 30 = .ok (.iload_n 2, 1) := by decide +kernel
theorem dX1_spread_31 : decode cX1_spread 31 = .ok (.invokevirtual 160, 3) := by decide +kernel
theorem dX1_spread_34 : decode cX1_spread 34 = .ok (.ior, 1) := by decide +kernel
theorem dX1_spread_35 : decode cX1_spread 35 = .ok (.istore_n 3, 1) := by decide +kernel
theorem dX1_spread_36 : decode cX1_spread 36 = .ok (.iinc 4 1, 3) := by decide +kernel
theorem dX1_spread_39 : decode cX1_spread 39 = .ok (.goto (-34), 3) := by decide +kernel
theorem dX1_spread_42 : decode cX1_spread 42 = .ok (.iload_n 3, 1) := by decide +kernel
theorem dX1_spread_43 : decode cX1_spread 43 = .ok (.ireturn, 1) := by decide +kernel
theorem dX1_farthest_0 : decode cX1_farthest 0 = .ok (.iconst 1, 1) := by decide +kernel
theorem dX1_farthest_1 : decode cX1_farthest 1 = .ok (.iload_n 1, 1) := by decide +kernel
theorem dX1_farthest_2 : decode cX1_farthest 2 = .ok (.ishl, 1) := by decide +kernel
theorem dX1_farthest_3 : decode cX1_farthest 3 = .ok (.istore_n 3, 1) := by decide +kernel
theorem dX1_farthest_4 : decode cX1_farthest 4 = .ok (.iconst 0, 1) := by decide +kernel
theorem dX1_farthest_5 : decode cX1_farthest 5 = .ok (.istore 4, 2) := by decide +kernel
theorem dX1_farthest_7 : decode cX1_farthest 7 = .ok (.iconst 0, 1) := by decide +kernel
theorem dX1_farthest_8 : decode cX1_farthest 8 = .ok (.istore 5, 2) := by decide +kernel
theorem dX1_farthest_10 : decode cX1_farthest 10 = .ok (.iload 5, 2) := by decide +kernel
theorem dX1_farthest_12 : decode cX1_farthest 12 = .ok (.aload_n 0, 1) := by decide +kernel
theorem dX1_farthest_13 : decode cX1_farthest 13 = .ok (.getfield 46, 3) := by decide +kernel
theorem dX1_farthest_16 : decode cX1_farthest 16 = .ok (.getfield 129, 3) := by decide +kernel
theorem dX1_farthest_19 : decode cX1_farthest 19 = .ok (.if_icmp .ge 29, 3) := by decide +kernel
theorem dX1_farthest_22 : decode cX1_farthest 22 = .ok (.aload_n 0, 1) := by decide +kernel
theorem dX1_farthest_23 : decode cX1_farthest 23 = .ok (.iload_n 3, 1) := by decide +kernel
theorem dX1_farthest_24 : decode cX1_farthest 24 = .ok (.iload_n 2, 1) := by decide +kernel
theorem dX1_farthest_25 : decode cX1_farthest 25 = .ok (.invokevirtual 163, 3) := by decide +kernel
theorem dX1_farthest_28 : decode cX1_farthest 28 = .ok (.istore 6, 2) := by decide +kernel
theorem dX1_farthest_30 : decode cX1_farthest 30 = .ok (.iload 6, 2) := by decide +kernel
theorem dX1_farthest_32 : decode cX1_farthest 32 = .ok (.iload_n 3, 1) := by decide +kernel
theorem dX1_farthest_33 : decode cX1_farthest 33 = .ok (.if_icmp .eq 6, 3) := by decide +kernel
theorem dX1_farthest_36 : decode cX1_farthest 36 = .ok (.iinc 4 1, 3) := by decide +kernel
theorem dX1_farthest_39 : decode cX1_farthest 39 = .ok (.iload 6, 2) := by decide +kernel
theorem dX1_farthest_41 : decode cX1_farthest 41 = .ok (.istore_n 3, 1) := by decide +kernel
theorem dX1_farthest_42 : decode cX1_farthest 42 = .ok (.iinc 5 1, 3) := by decide +kernel
theorem dX1_farthest_45 : decode cX1_farthest 45 = .ok (.goto (-35), 3) := by decide +kernel
theorem dX1_farthest_48 : decode cX1_farthest 48 = .ok (.iload 4, 2) := by decide +kernel
theorem dX1_farthest_50 : decode cX1_farthest 50 = .ok (.ireturn, 1) := by decide +kernel
theorem dX1_pairs_0 : decode cX1_pairs 0 = .ok (.iconst 0, 1) := by decide +kernel
theorem dX1_pairs_1 : decode cX1_pairs 1 = .ok (.istore_n 2, 1) := by decide +kernel
theorem dX1_pairs_2 : decode cX1_pairs 2 = .ok (.iconst 0, 1) := by decide +kernel
theorem dX1_pairs_3 : decode cX1_pairs 3 = .ok (.istore_n 3, 1) := by decide +kernel
theorem dX1_pairs_4 : decode cX1_pairs 4 = .ok (.iload_n 3, 1) := by decide +kernel
theorem dX1_pairs_5 : decode cX1_pairs 5 = .ok (.aload_n 0, 1) := by decide +kernel
theorem dX1_pairs_6 : decode cX1_pairs 6 = .ok (.getfield 46, 3) := by decide +kernel
theorem dX1_pairs_9 : decode cX1_pairs 9 = .ok (.getfield 129, 3) := by decide +kernel
theorem dX1_pairs_12 : decode cX1_pairs 12 = .ok (.if_icmp .ge 57, 3) := by decide +kernel
theorem dX1_pairs_15 : decode cX1_pairs 15 = .ok (.iload_n 3, 1) := by decide +kernel
theorem dX1_pairs_16 : decode cX1_pairs 16 = .ok (.iconst 1, 1) := by decide +kernel
theorem dX1_pairs_17 : decode cX1_pairs 17 = .ok (.iadd, 1) := by decide +kernel
theorem dX1_pairs_18 : decode cX1_pairs 18 = .ok (.istore 4, 2) := by decide +kernel
theorem dX1_pairs_20 : decode cX1_pairs 20 = .ok (.iload 4, 2) := by decide +kernel
theorem dX1_pairs_22 : decode cX1_pairs 22 = .ok (.aload_n 0, 1) := by decide +kernel
theorem dX1_pairs_23 : decode cX1_pairs 23 = .ok (.getfield 46, 3) := by decide +kernel
theorem dX1_pairs_26 : decode cX1_pairs 26 = .ok (.getfield 129, 3) := by decide +kernel
theorem dX1_pairs_29 : decode cX1_pairs 29 = .ok (.if_icmp .ge 34, 3) := by decide +kernel
theorem dX1_pairs_32 : decode cX1_pairs 32 = .ok (.aload_n 0, 1) := by decide +kernel
theorem dX1_pairs_33 : decode cX1_pairs 33 = .ok (.iload_n 3, 1) := by decide +kernel
theorem dX1_pairs_34 : decode cX1_pairs 34 = .ok (.iload 4, 2) := by decide +kernel
theorem dX1_pairs_36 : decode cX1_pairs 36 = .ok (.iload_n 1, 1) := by decide +kernel
theorem dX1_pairs_37 : decode cX1_pairs 37 = .ok (.invokevirtual 157, 3) := by decide +kernel
theorem dX1_pairs_40 : decode cX1_pairs 40 = .ok (.ifCond .eq 17, 3) := by decide +kernel
theorem dX1_pairs_43 : decode cX1_pairs 43 = .ok (.aload_n 0, 1) := by decide +kernel
theorem dX1_pairs_44 : decode cX1_pairs 44 = .ok (.iload 4, 2) := by decide +kernel
theorem dX1_pairs_46 : decode cX1_pairs 46 = .ok (.iload_n 3, 1) := by decide +kernel
theorem dX1_pairs_47 : decode cX1_pairs 47 = .ok (.iload_n 1, 1) := by decide +kernel
theorem dX1_pairs_48 : decode cX1_pairs 48 = .ok (.invokevirtual 157, 3) := by decide +kernel
theorem dX1_pairs_51 : decode cX1_pairs 51 = .ok (.ifCond .eq 6, 3) := by decide +kernel
theorem dX1_pairs_54 : decode cX1_pairs 54 = .ok (.iinc 2 1, 3) := by decide +kernel
theorem dX1_pairs_57 : decode cX1_pairs 57 = .ok (.iinc 4 1, 3) := by decide +kernel
theorem dX1_pairs_60 : decode cX1_pairs 60 = .ok (.goto (-40), 3) := by decide +kernel
theorem dX1_pairs_63 : decode cX1_pairs 63 = .ok (.iinc 3 1, 3) := by decide +kernel
theorem dX1_pairs_66 : decode cX1_pairs 66 = .ok (.goto (-62), 3) := by decide +kernel
theorem dX1_pairs_69 : decode cX1_pairs 69 = .ok (.iload_n 2, 1) := by decide +kernel
theorem dX1_pairs_70 : decode cX1_pairs 70 = .ok (.ireturn, 1) := by decide +kernel
theorem dX1_deepWaterFor_0 : decode cX1_deepWaterFor 0 = .ok (.aload_n 0, 1) := by decide +kernel
theorem dX1_deepWaterFor_1 : decode cX1_deepWaterFor 1 = .ok (.getfield 46, 3) := by decide +kernel
theorem dX1_deepWaterFor_4 : decode cX1_deepWaterFor 4 = .ok (.getfield 112, 3) := by decide +kernel
theorem dX1_deepWaterFor_7 : decode cX1_deepWaterFor 7 = .ok (.getfield 166, 3) := by decide +kernel
theorem dX1_deepWaterFor_10 : decode cX1_deepWaterFor 10 = .ok (.iload_n 1, 1) := by decide +kernel
theorem dX1_deepWaterFor_11 : decode cX1_deepWaterFor 11 = .ok (.iaload, 1) := by decide +kernel
theorem dX1_deepWaterFor_12 : decode cX1_deepWaterFor 12 = .ok (.istore_n 2, 1) := by decide +kernel
theorem dX1_deepWaterFor_13 : decode cX1_deepWaterFor 13 = .ok (.aload_n 0, 1) := by decide +kernel
theorem dX1_deepWaterFor_14 : decode cX1_deepWaterFor 14 = .ok (.getfield 46, 3) := by decide +kernel
theorem dX1_deepWaterFor_17 : decode cX1_deepWaterFor 17 = .ok (.iload_n 2, 1) := by decide +kernel
theorem dX1_deepWaterFor_18 : decode cX1_deepWaterFor 18 = .ok (.invokevirtual 167, 3) := by decide +kernel
theorem dX1_deepWaterFor_21 : decode cX1_deepWaterFor 21 = .ok (.ifCond .ne 5, 3) := by decide +kernel
theorem dX1_deepWaterFor_24 : decode cX1_deepWaterFor 24 = .ok (.iconst (-1), 1) := by decide +kernel
theorem dX1_deepWaterFor_25 : decode cX1_deepWaterFor 25 = .ok (.ireturn, 1) := by decide +kernel
theorem dX1_deepWaterFor_26 : decode cX1_deepWaterFor 26 = .ok (.aload_n 0, 1) := by decide +kernel
theorem dX1_deepWaterFor_27 : decode cX1_deepWaterFor 27 = .ok (.iload_n 2, 1) := by decide +kernel
theorem dX1_deepWaterFor_28 : decode cX1_deepWaterFor 28 = .ok (.invokevirtual 122, 3) := by decide +kernel
theorem dX1_deepWaterFor_31 : decode cX1_deepWaterFor 31 = .ok (.ifCond .eq 5, 3) := by decide +kernel
theorem dX1_deepWaterFor_34 : decode cX1_deepWaterFor 34 = .ok (.iconst 0, 1) := by decide +kernel
theorem dX1_deepWaterFor_35 : decode cX1_deepWaterFor 35 = .ok (.ireturn, 1) := by decide +kernel
theorem dX1_deepWaterFor_36 : decode cX1_deepWaterFor 36 = .ok (.aload_n 0, 1) := by decide +kernel
theorem dX1_deepWaterFor_37 : decode cX1_deepWaterFor 37 = .ok (.getfield 46, 3) := by decide +kernel
theorem dX1_deepWaterFor_40 : decode cX1_deepWaterFor 40 = .ok (.getfield 112, 3) := by decide +kernel
theorem dX1_deepWaterFor_43 : decode cX1_deepWaterFor 43 = .ok (.getfield 170, 3) := by decide +kernel
theorem dX1_deepWaterFor_46 : decode cX1_deepWaterFor 46 = .ok (.iload_n 1, 1) := by decide +kernel
theorem dX1_deepWaterFor_47 : decode cX1_deepWaterFor 47 = .ok (.iaload, 1) := by decide +kernel
theorem dX1_deepWaterFor_48 : decode cX1_deepWaterFor 48 = .ok (.istore_n 3, 1) := by decide +kernel
theorem dX1_deepWaterFor_49 : decode cX1_deepWaterFor 49 = .ok (.aload_n 0, 1) := by decide +kernel
theorem dX1_deepWaterFor_50 : decode cX1_deepWaterFor 50 = .ok (.getfield 46, 3) := by decide +kernel
theorem dX1_deepWaterFor_53 : decode cX1_deepWaterFor 53 = .ok (.getfield 112, 3) := by decide +kernel
theorem dX1_deepWaterFor_56 : decode cX1_deepWaterFor 56 = .ok (.getfield 173, 3) := by decide +kernel
theorem dX1_deepWaterFor_59 : decode cX1_deepWaterFor 59 = .ok (.iload_n 1, 1) := by decide +kernel
theorem dX1_deepWaterFor_60 : decode cX1_deepWaterFor 60 = .ok (.iaload, 1) := by decide +kernel
theorem dX1_deepWaterFor_61 : decode cX1_deepWaterFor 61 = .ok (.istore 4, 2) := by decide +kernel
theorem dX1_deepWaterFor_63 : decode cX1_deepWaterFor 63 = .ok (.aload_n 0, 1) := by decide +kernel
theorem dX1_deepWaterFor_64 : decode cX1_deepWaterFor 64 = .ok (.iload_n 3, 1) := by decide +kernel
theorem dX1_deepWaterFor_65 : decode cX1_deepWaterFor 65 = .ok (.iload_n 3, 1) := by decide +kernel
theorem dX1_deepWaterFor_66 : decode cX1_deepWaterFor 66 = .ok (.iload_n 2, 1) := by decide +kernel
theorem dX1_deepWaterFor_67 : decode cX1_deepWaterFor 67 = .ok (.invokevirtual 150, 3) := by decide +kernel
theorem dX1_deepWaterFor_70 : decode cX1_deepWaterFor 70 = .ok (.ifCond .eq 7, 3) := by decide +kernel
theorem dX1_deepWaterFor_73 : decode cX1_deepWaterFor 73 = .ok (.iconst 0, 1) := by decide +kernel
theorem dX1_deepWaterFor_74 : decode cX1_deepWaterFor 74 = .ok (.goto 6, 3) := by decide +kernel
theorem dX1_deepWaterFor_77 : decode cX1_deepWaterFor 77 = .ok (.iconst 1, 1) := by decide +kernel
theorem dX1_deepWaterFor_78 : decode cX1_deepWaterFor 78 = .ok (.iload_n 3, 1) := by decide +kernel
theorem dX1_deepWaterFor_79 : decode cX1_deepWaterFor 79 = .ok (.ishl, 1) := by decide +kernel
theorem dX1_deepWaterFor_80 : decode cX1_deepWaterFor 80 = .ok (.istore 5, 2) := by decide +kernel
theorem dX1_deepWaterFor_82 : decode cX1_deepWaterFor 82 = .ok (.aload_n 0, 1) := by decide +kernel
theorem dX1_deepWaterFor_83 : decode cX1_deepWaterFor 83 = .ok (.iload_n 3, 1) := by decide +kernel
theorem dX1_deepWaterFor_84 : decode cX1_deepWaterFor 84 = .ok (.iload 4, 2) := by decide +kernel
theorem dX1_deepWaterFor_86 : decode cX1_deepWaterFor 86 = .ok (.iload_n 2, 1) := by decide +kernel
theorem dX1_deepWaterFor_87 : decode cX1_deepWaterFor 87 = .ok (.invokevirtual 150, 3) := by decide +kernel
theorem dX1_deepWaterFor_90 : decode cX1_deepWaterFor 90 = .ok (.ifCond .eq 8, 3) := by decide +kernel
theorem dX1_deepWaterFor_93 : decode cX1_deepWaterFor 93 = .ok (.iload 5, 2) := by decide +kernel
theorem dX1_deepWaterFor_95 : decode cX1_deepWaterFor 95 = .ok (.goto 10, 3) := by decide +kernel
theorem dX1_deepWaterFor_98 : decode cX1_deepWaterFor 98 = .ok (.iload 5, 2) := by decide +kernel
theorem dX1_deepWaterFor_100 : decode cX1_deepWaterFor 100 = .ok (.iconst 1, 1) := by decide +kernel
theorem dX1_deepWaterFor_101 : decode cX1_deepWaterFor 101 = .ok (.iload 4, 2) := by decide +kernel
theorem dX1_deepWaterFor_103 : decode cX1_deepWaterFor 103 = .ok (.ishl, 1) := by decide +kernel
theorem dX1_deepWaterFor_104 : decode cX1_deepWaterFor 104 = .ok (.ior, 1) := by decide +kernel
theorem dX1_deepWaterFor_105 : decode cX1_deepWaterFor 105 = .ok (.ireturn, 1) := by decide +kernel
theorem dX1_isKept_0 : decode cX1_isKept 0 = .ok (.aload_n 0, 1) := by decide +kernel
theorem dX1_isKept_1 : decode cX1_isKept 1 = .ok (.getfield 43, 3) := by decide +kernel
theorem dX1_isKept_4 : decode cX1_isKept 4 = .ok (.iload_n 1, 1) := by decide +kernel
theorem dX1_isKept_5 : decode cX1_isKept 5 = .ok (.iaload, 1) := by decide +kernel
theorem dX1_isKept_6 : decode cX1_isKept 6 = .ok (.iconst (-1), 1) := by decide +kernel
theorem dX1_isKept_7 : decode cX1_isKept 7 = .ok (.if_icmp .eq 20, 3) := by decide +kernel
theorem dX1_isKept_10 : decode cX1_isKept 10 = .ok (.aload_n 0, 1) := by decide +kernel
theorem dX1_isKept_11 : decode cX1_isKept 11 = .ok (.getfield 43, 3) := by decide +kernel
theorem dX1_isKept_14 : decode cX1_isKept 14 = .ok (.iload_n 1, 1) := by decide +kernel
theorem dX1_isKept_15 : decode cX1_isKept 15 = .ok (.iaload, 1) := by decide +kernel
theorem dX1_isKept_16 : decode cX1_isKept 16 = .ok (.iload_n 2, 1) := by decide +kernel
theorem dX1_isKept_17 : decode cX1_isKept 17 = .ok (.iconst (-1), 1) := by decide +kernel
theorem dX1_isKept_18 : decode cX1_isKept 18 = .ok (.ixor, 1) := by decide +kernel
theorem dX1_isKept_19 : decode cX1_isKept 19 = .ok (.iand, 1) := by decide +kernel
theorem dX1_isKept_20 : decode cX1_isKept 20 = .ok (.ifCond .ne 7, 3) := by decide +kernel
theorem dX1_isKept_23 : decode cX1_isKept 23 = .ok (.iconst 1, 1) := by decide +kernel
theorem dX1_isKept_24 : decode cX1_isKept 24 = .ok (.goto 4, 3) := by decide +kernel
theorem dX1_isKept_27 : decode cX1_isKept 27 = .ok (.iconst 0, 1) := by decide +kernel
theorem dX1_isKept_28 : decode cX1_isKept 28 = .ok (.ireturn, 1) := by decide +kernel
theorem dX1_keptBits_0 : decode cX1_keptBits 0 = .ok (.iconst 0, 1) := by decide +kernel
theorem dX1_keptBits_1 : decode cX1_keptBits 1 = .ok (.istore_n 2, 1) := by decide +kernel
theorem dX1_keptBits_2 : decode cX1_keptBits 2 = .ok (.iconst 0, 1) := by decide +kernel
theorem dX1_keptBits_3 : decode cX1_keptBits 3 = .ok (.istore_n 3, 1) := by decide +kernel
theorem dX1_keptBits_4 : decode cX1_keptBits 4 = .ok (.iload_n 3, 1) := by decide +kernel
theorem dX1_keptBits_5 : decode cX1_keptBits 5 = .ok (.aload_n 0, 1) := by decide +kernel
theorem dX1_keptBits_6 : decode cX1_keptBits 6 = .ok (.getfield 46, 3) := by decide +kernel
theorem dX1_keptBits_9 : decode cX1_keptBits 9 = .ok (.getfield 112, 3) := by decide +kernel
theorem dX1_keptBits_12 : decode cX1_keptBits 12 = .ok (.getfield 116, 3) := by decide +kernel
theorem dX1_keptBits_15 : decode cX1_keptBits 15 = .ok (.if_icmp .ge 24, 3) := by decide +kernel
theorem dX1_keptBits_18 : decode cX1_keptBits 18 = .ok (.aload_n 0, 1) := by decide +kernel
theorem dX1_keptBits_19 : decode cX1_keptBits 19 = .ok (.iload_n 3, 1) := by decide +kernel
theorem dX1_keptBits_20 : decode cX1_keptBits 20 = .ok (.iload_n 1, 1) := by decide +kernel
theorem dX1_keptBits_21 : decode cX1_keptBits 21 = .ok (.invokevirtual 176, 3) := by decide +kernel
theorem dX1_keptBits_24 : decode cX1_keptBits 24 = .ok (.ifCond .eq 9, 3) := by decide +kernel
theorem dX1_keptBits_27 : decode cX1_keptBits 27 = .ok (.iload_n 2, 1) := by decide +kernel
theorem dX1_keptBits_28 : decode cX1_keptBits 28 = .ok (.iconst 1, 1) := by decide +kernel
theorem dX1_keptBits_29 : decode cX1_keptBits 29 = .ok (.iload_n 3, 1) := by decide +kernel
theorem dX1_keptBits_30 : decode cX1_keptBits 30 = .ok (.ishl, 1) := by decide +kernel
theorem dX1_keptBits_31 : decode cX1_keptBits 31 = .ok (.ior, 1) := by decide +kernel
theorem dX1_keptBits_32 : decode cX1_keptBits 32 = .ok (.istore_n 2, 1) := by decide +kernel
theorem dX1_keptBits_33 : decode cX1_keptBits 33 = .ok (.iinc 3 1, 3) := by decide +kernel
theorem dX1_keptBits_36 : decode cX1_keptBits 36 = .ok (.goto (-32), 3) := by decide +kernel
theorem dX1_keptBits_39 : decode cX1_keptBits 39 = .ok (.iload_n 2, 1) := by decide +kernel
theorem dX1_keptBits_40 : decode cX1_keptBits 40 = .ok (.ireturn, 1) := by decide +kernel
theorem dX1_keptSum_0 : decode cX1_keptSum 0 = .ok (.aload_n 0, 1) := by decide +kernel
theorem dX1_keptSum_1 : decode cX1_keptSum 1 = .ok (.iload_n 1, 1) := by decide +kernel
theorem dX1_keptSum_2 : decode cX1_keptSum 2 = .ok (.invokevirtual 180, 3) := by decide +kernel
theorem dX1_keptSum_5 : decode cX1_keptSum 5 = .ok (.invokestatic 183, 3) := by decide +kernel
theorem dX1_keptSum_8 : decode cX1_keptSum 8 = .ok (.ireturn, 1) := by decide +kernel
theorem dX1_hindrance_0 : decode cX1_hindrance 0 = .ok (.aload_n 0, 1) := by decide +kernel
theorem dX1_hindrance_1 : decode cX1_hindrance 1 = .ok (.getfield 43, 3) := by decide +kernel
theorem dX1_hindrance_4 : decode cX1_hindrance 4 = .ok (.iload_n 1, 1) := by decide +kernel
theorem dX1_hindrance_5 : decode cX1_hindrance 5 = .ok (.iaload, 1) := by decide +kernel
theorem dX1_hindrance_6 : decode cX1_hindrance 6 = .ok (.iconst (-1), 1) := by decide +kernel
theorem dX1_hindrance_7 : decode cX1_hindrance 7 = .ok (.if_icmp .ne 7, 3) := by decide +kernel
theorem dX1_hindrance_10 : decode cX1_hindrance 10 = .ok (.iconst 0, 1) := by decide +kernel
theorem dX1_hindrance_11 : decode cX1_hindrance 11 = .ok (.goto 16, 3) := by decide +kernel
theorem dX1_hindrance_14 : decode cX1_hindrance 14 = .ok (.aload_n 0, 1) := by decide +kernel
theorem dX1_hindrance_15 : decode cX1_hindrance 15 = .ok (.getfield 43, 3) := by decide +kernel
theorem dX1_hindrance_18 : decode cX1_hindrance 18 = .ok (.iload_n 1, 1) := by decide +kernel
theorem dX1_hindrance_19 : decode cX1_hindrance 19 = .ok (.iaload, 1) := by decide +kernel
theorem dX1_hindrance_20 : decode cX1_hindrance 20 = .ok (.aload_n 0, 1) := by decide +kernel
theorem dX1_hindrance_21 : decode cX1_hindrance 21 = .ok (.getfield 18, 3) := by decide +kernel
theorem dX1_hindrance_24 : decode cX1_hindrance 24 = .ok (.iconst (-1), 1) := by decide +kernel
theorem dX1_hindrance_25 : decode cX1_hindrance 25 = .ok (.ixor, 1) := by decide +kernel
theorem dX1_hindrance_26 : decode cX1_hindrance 26 = .ok (.iand, 1) := by decide +kernel
theorem dX1_hindrance_27 : decode cX1_hindrance 27 = .ok (.ireturn, 1) := by decide +kernel
theorem dX1_allHindrance_0 : decode cX1_allHindrance 0 = .ok (.iconst 0, 1) := by decide +kernel
theorem dX1_allHindrance_1 : decode cX1_allHindrance 1 = .ok (.istore_n 1, 1) := by decide +kernel
theorem dX1_allHindrance_2 : decode cX1_allHindrance 2 = .ok (.iconst 0, 1) := by decide +kernel
theorem dX1_allHindrance_3 : decode cX1_allHindrance 3 = .ok (.istore_n 2, 1) := by decide +kernel
theorem dX1_allHindrance_4 : decode cX1_allHindrance 4 = .ok (.iload_n 2, 1) := by decide +kernel
theorem dX1_allHindrance_5 : decode cX1_allHindrance 5 = .ok (.aload_n 0, 1) := by decide +kernel
theorem dX1_allHindrance_6 : decode cX1_allHindrance 6 = .ok (.getfield 46, 3) := by decide +kernel
theorem dX1_allHindrance_9 : decode cX1_allHindrance 9 = .ok (.getfield 112, 3) := by decide +kernel
theorem dX1_allHindrance_12 : decode cX1_allHindrance 12 = .ok (.getfield 116, 3) := by decide +kernel
theorem dX1_allHindrance_15 : decode cX1_allHindrance 15 = .ok (.if_icmp .ge 17, 3) := by decide +kernel
theorem dX1_allHindrance_18 : decode cX1_allHindrance 18 = .ok (.iload_n 1, 1) := by decide +kernel
theorem dX1_allHindrance_19 : decode cX1_allHindrance 19 = .ok (.aload_n 0, 1) := by decide +kernel
theorem dX1_allHindrance_20 : decode cX1_allHindrance 20 = .ok (.iload_n 2, 1) := by decide +kernel
theorem dX1_allHindrance_21 : decode cX1_allHindrance 21 = .ok (.invokevirtual 188, 3) := by decide +kernel
theorem dX1_allHindrance_24 : decode cX1_allHindrance 24 = .ok (.ior, 1) := by decide +kernel
theorem dX1_allHindrance_25 : decode cX1_allHindrance 25 = .ok (.istore_n 1, 1) := by decide +kernel
theorem dX1_allHindrance_26 : decode cX1_allHindrance 26 = .ok (.iinc 2 1, 3) := by decide +kernel
theorem dX1_allHindrance_29 : decode cX1_allHindrance 29 = .ok (.goto (-25), 3) := by decide +kernel
theorem dX1_allHindrance_32 : decode cX1_allHindrance 32 = .ok (.iload_n 1, 1) := by decide +kernel
theorem dX1_allHindrance_33 : decode cX1_allHindrance 33 = .ok (.ireturn, 1) := by decide +kernel
theorem dX1_deepestOnTheWay_0 : decode cX1_deepestOnTheWay 0 = .ok (.aload_n 0, 1) := by decide +kernel
theorem dX1_deepestOnTheWay_1 : decode cX1_deepestOnTheWay 1 = .ok (.getfield 46, 3) := by decide +kernel
theorem dX1_deepestOnTheWay_4 : decode cX1_deepestOnTheWay 4 = .ok (.getfield 112, 3) := by decide +kernel
theorem dX1_deepestOnTheWay_7 : decode cX1_deepestOnTheWay 7 = .ok (.getfield 166, 3) := by decide +kernel
theorem dX1_deepestOnTheWay_10 : decode cX1_deepestOnTheWay 10 = .ok (.iload_n 1, 1) := by decide +kernel
theorem dX1_deepestOnTheWay_11 : decode cX1_deepestOnTheWay 11 = .ok (.iaload, 1) := by decide +kernel
theorem dX1_deepestOnTheWay_12 : decode cX1_deepestOnTheWay 12 = .ok (.istore_n 2, 1) := by decide +kernel
theorem dX1_deepestOnTheWay_13 : decode cX1_deepestOnTheWay 13 = .ok (.aload_n 0, 1) := by decide +kernel
theorem dX1_deepestOnTheWay_14 : decode cX1_deepestOnTheWay 14 = .ok (.getfield 46, 3) := by decide +kernel
theorem dX1_deepestOnTheWay_17 : decode cX1_deepestOnTheWay 17 = .ok (.iload_n 2, 1) := by decide +kernel
theorem dX1_deepestOnTheWay_18 : decode cX1_deepestOnTheWay 18 = .ok (.invokevirtual 167, 3) := by decide +kernel
theorem dX1_deepestOnTheWay_21 : decode cX1_deepestOnTheWay 21 = .ok (.ifCond .eq 11, 3) := by decide +kernel
theorem dX1_deepestOnTheWay_24 : decode cX1_deepestOnTheWay 24 = .ok (.aload_n 0, 1) := by decide +kernel
theorem dX1_deepestOnTheWay_25 : decode cX1_deepestOnTheWay 25 = .ok (.iload_n 2, 1) := by decide +kernel
theorem dX1_deepestOnTheWay_26 : decode cX1_deepestOnTheWay 26 = .ok (.invokevirtual 122, 3) := by decide +kernel
theorem dX1_deepestOnTheWay_29 : decode cX1_deepestOnTheWay 29 = .ok (.ifCond .eq 5, 3) := by decide +kernel
theorem dX1_deepestOnTheWay_32 : decode cX1_deepestOnTheWay 32 = .ok (.iconst 0, 1) := by decide +kernel
theorem dX1_deepestOnTheWay_33 : decode cX1_deepestOnTheWay 33 = .ok (.ireturn, 1) := by decide +kernel
theorem dX1_deepestOnTheWay_34 : decode cX1_deepestOnTheWay 34 = .ok (.aload_n 0, 1) := by decide +kernel
theorem dX1_deepestOnTheWay_35 : decode cX1_deepestOnTheWay 35 = .ok (.aload_n 0, 1) := by decide +kernel
theorem dX1_deepestOnTheWay_36 : decode cX1_deepestOnTheWay 36 = .ok (.getfield 46, 3) := by decide +kernel
theorem dX1_deepestOnTheWay_39 : decode cX1_deepestOnTheWay 39 = .ok (.getfield 112, 3) := by decide +kernel
theorem dX1_deepestOnTheWay_42 : decode cX1_deepestOnTheWay 42 = .ok (.getfield 170, 3) := by decide +kernel
theorem dX1_deepestOnTheWay_45 : decode cX1_deepestOnTheWay 45 = .ok (.iload_n 1, 1) := by decide +kernel
theorem dX1_deepestOnTheWay_46 : decode cX1_deepestOnTheWay 46 = .ok (.iaload, 1) := by decide +kernel
theorem dX1_deepestOnTheWay_47 : decode cX1_deepestOnTheWay 47 = .ok (.iload_n 2, 1) := by decide +kernel
theorem dX1_deepestOnTheWay_48 : decode cX1_deepestOnTheWay 48 = .ok (.invokevirtual 191, 3) := by decide +kernel
theorem dX1_deepestOnTheWay_51 : decode cX1_deepestOnTheWay 51 = .ok (.aload_n 0, 1) := by decide +kernel
theorem dX1_deepestOnTheWay_52 : decode cX1_deepestOnTheWay 52 = .ok (.aload_n 0, 1) := by decide +kernel
theorem dX1_deepestOnTheWay_53 : decode cX1_deepestOnTheWay 53 = .ok (.getfield 46, 3) := by decide +kernel
theorem dX1_deepestOnTheWay_56 : decode cX1_deepestOnTheWay 56 = .ok (.getfield 112, 3) := by decide +kernel
theorem dX1_deepestOnTheWay_59 : decode cX1_deepestOnTheWay 59 = .ok (.getfield 173, 3) := by decide +kernel
theorem dX1_deepestOnTheWay_62 : decode cX1_deepestOnTheWay 62 = .ok (.iload_n 1, 1) := by decide +kernel
theorem dX1_deepestOnTheWay_63 : decode cX1_deepestOnTheWay 63 = .ok (.iaload, 1) := by decide +kernel
theorem dX1_deepestOnTheWay_64 : decode cX1_deepestOnTheWay 64 = .ok (.iload_n 2, 1) := by decide +kernel
theorem dX1_deepestOnTheWay_65 : decode cX1_deepestOnTheWay 65 = .ok (.invokevirtual 191, 3) := by decide +kernel
theorem dX1_deepestOnTheWay_68 : decode cX1_deepestOnTheWay 68 = .ok (.invokestatic 144, 3) := by decide +kernel
theorem dX1_deepestOnTheWay_71 : decode cX1_deepestOnTheWay 71 = .ok (.ireturn, 1) := by decide +kernel
theorem dX1_toSwim_0 : decode cX1_toSwim 0 = .ok (.aload_n 0, 1) := by decide +kernel
theorem dX1_toSwim_1 : decode cX1_toSwim 1 = .ok (.getfield 18, 3) := by decide +kernel
theorem dX1_toSwim_4 : decode cX1_toSwim 4 = .ok (.iload_n 1, 1) := by decide +kernel
theorem dX1_toSwim_5 : decode cX1_toSwim 5 = .ok (.ishr, 1) := by decide +kernel
theorem dX1_toSwim_6 : decode cX1_toSwim 6 = .ok (.iconst 1, 1) := by decide +kernel
theorem dX1_toSwim_7 : decode cX1_toSwim 7 = .ok (.iand, 1) := by decide +kernel
theorem dX1_toSwim_8 : decode cX1_toSwim 8 = .ok (.ifCond .eq 7, 3) := by decide +kernel
theorem dX1_toSwim_11 : decode cX1_toSwim 11 = .ok (.iconst 0, 1) := by decide +kernel
theorem dX1_toSwim_12 : decode cX1_toSwim 12 = .ok (.goto 13, 3) := by decide +kernel
theorem dX1_toSwim_15 : decode cX1_toSwim 15 = .ok (.aload_n 0, 1) := by decide +kernel
theorem dX1_toSwim_16 : decode cX1_toSwim 16 = .ok (.getfield 31, 3) := by decide +kernel
theorem dX1_toSwim_19 : decode cX1_toSwim 19 = .ok (.iload_n 1, 1) := by decide +kernel
theorem dX1_toSwim_20 : decode cX1_toSwim 20 = .ok (.iload_n 2, 1) := by decide +kernel
theorem dX1_toSwim_21 : decode cX1_toSwim 21 = .ok (.invokestatic 132, 3) := by decide +kernel
theorem dX1_toSwim_24 : decode cX1_toSwim 24 = .ok (.iaload, 1) := by decide +kernel
theorem dX1_toSwim_25 : decode cX1_toSwim 25 = .ok (.ireturn, 1) := by decide +kernel
theorem dX2_init_0 : decode cX2_init 0 = .ok (.aload_n 0, 1) := by decide +kernel
theorem dX2_init_1 : decode cX2_init 1 = .ok (.invokespecial 3, 3) := by decide +kernel
theorem dX2_init_4 : decode cX2_init 4 = .ok (.aload_n 0, 1) := by decide +kernel
theorem dX2_init_5 : decode cX2_init 5 = .ok (.iconst 0, 1) := by decide +kernel
theorem dX2_init_6 : decode cX2_init 6 = .ok (.putfield 9, 3) := by decide +kernel
theorem dX2_init_9 : decode cX2_init 9 = .ok (.aload_n 0, 1) := by decide +kernel
theorem dX2_init_10 : decode cX2_init 10 = .ok (.iconst (-1), 1) := by decide +kernel
theorem dX2_init_11 : decode cX2_init 11 = .ok (.putfield 15, 3) := by decide +kernel
theorem dX2_init_14 : decode cX2_init 14 = .ok (.aload_n 0, 1) := by decide +kernel
theorem dX2_init_15 : decode cX2_init 15 = .ok (.iconst (-1), 1) := by decide +kernel
theorem dX2_init_16 : decode cX2_init 16 = .ok (.putfield 18, 3) := by decide +kernel
theorem dX2_init_19 : decode cX2_init 19 = .ok (.aload_n 0, 1) := by decide +kernel
theorem dX2_init_20 : decode cX2_init 20 = .ok (.sipush 1600, 3) := by decide +kernel
theorem dX2_init_23 : decode cX2_init 23 = .ok (.newarray .int, 2) := by decide +kernel
theorem dX2_init_25 : decode cX2_init 25 = .ok (.putfield 21, 3) := by decide +kernel
theorem dX2_init_28 : decode cX2_init 28 = .ok (.return_, 1) := by decide +kernel
theorem dX2_clear_0 : decode cX2_clear 0 = .ok (.aload_n 0, 1) := by decide +kernel
theorem dX2_clear_1 : decode cX2_clear 1 = .ok (.iconst 0, 1) := by decide +kernel
theorem dX2_clear_2 : decode cX2_clear 2 = .ok (.putfield 9, 3) := by decide +kernel
theorem dX2_clear_5 : decode cX2_clear 5 = .ok (.aload_n 0, 1) := by decide +kernel
theorem dX2_clear_6 : decode cX2_clear 6 = .ok (.iconst (-1), 1) := by decide +kernel
theorem dX2_clear_7 : decode cX2_clear 7 = .ok (.putfield 15, 3) := by decide +kernel
theorem dX2_clear_10 : decode cX2_clear 10 = .ok (.aload_n 0, 1) := by decide +kernel
theorem dX2_clear_11 : decode cX2_clear 11 = .ok (.iconst (-1), 1) := by decide +kernel
theorem dX2_clear_12 : decode cX2_clear 12 = .ok (.putfield 18, 3) := by decide +kernel
theorem dX2_clear_15 : decode cX2_clear 15 = .ok (.aload_n 0, 1) := by decide +kernel
theorem dX2_clear_16 : decode cX2_clear 16 = .ok (.getfield 21, 3) := by decide +kernel
theorem dX2_clear_19 : decode cX2_clear 19 = .ok (.iconst 0, 1) := by decide +kernel
theorem dX2_clear_20 : decode cX2_clear 20 = .ok (.invokestatic 25, 3) := by decide +kernel
theorem dX2_clear_23 : decode cX2_clear 23 = .ok (.return_, 1) := by decide +kernel
theorem dX2_add_0 : decode cX2_add 0 = .ok (.aload_n 0, 1) := by decide +kernel
theorem dX2_add_1 : decode cX2_add 1 = .ok (.getfield 9, 3) := by decide +kernel
theorem dX2_add_4 : decode cX2_add 4 = .ok (.ifCond .ne 8, 3) := by decide +kernel
theorem dX2_add_7 : decode cX2_add 7 = .ok (.aload_n 0, 1) := by decide +kernel
theorem dX2_add_8 : decode cX2_add 8 = .ok (.iload_n 1, 1) := by decide +kernel
theorem dX2_add_9 : decode cX2_add 9 = .ok (.putfield 15, 3) := by decide +kernel
theorem dX2_add_12 : decode cX2_add 12 = .ok (.aload_n 0, 1) := by decide +kernel
theorem dX2_add_13 : decode cX2_add 13 = .ok (.iload_n 1, 1) := by decide +kernel
theorem dX2_add_14 : decode cX2_add 14 = .ok (.putfield 18, 3) := by decide +kernel
theorem dX2_add_17 : decode cX2_add 17 = .ok (.aload_n 0, 1) := by decide +kernel
theorem dX2_add_18 : decode cX2_add 18 = .ok (.dup, 1) := by decide +kernel
theorem dX2_add_19 : decode cX2_add 19 = .ok (.getfield 9, 3) := by decide +kernel
theorem dX2_add_22 : decode cX2_add 22 = .ok (.iconst 1, 1) := by decide +kernel
theorem dX2_add_23 : decode cX2_add 23 = .ok (.iadd, 1) := by decide +kernel
theorem dX2_add_24 : decode cX2_add 24 = .ok (.putfield 9, 3) := by decide +kernel
theorem dX2_add_27 : decode cX2_add 27 = .ok (.iconst 0, 1) := by decide +kernel
theorem dX2_add_28 : decode cX2_add 28 = .ok (.istore 4, 2) := by decide +kernel
theorem dX2_add_30 : decode cX2_add 30 = .ok (.iload 4, 2) := by decide +kernel
theorem dX2_add_32 : decode cX2_add 32 = .ok (.aload_n 2, 1) := by decide +kernel
theorem dX2_add_33 : decode cX2_add 33 = .ok (.getfield 31, 3) := by decide +kernel
theorem dX2_add_36 : decode cX2_add 36 = .ok (.getfield 37, 3) := by decide +kernel
theorem dX2_add_39 : decode cX2_add 39 = .ok (.if_icmp .ge 51, 3) := by decide +kernel
theorem dX2_add_42 : decode cX2_add 42 = .ok (.aload_n 2, 1) := by decide +kernel
theorem dX2_add_43 : decode cX2_add 43 = .ok (.getfield 42, 3) := by decide +kernel
theorem dX2_add_46 : decode cX2_add 46 = .ok (.iload_n 3, 1) := by decide +kernel
theorem dX2_add_47 : decode cX2_add 47 = .ok (.iload 4, 2) := by decide +kernel
theorem dX2_add_49 : decode cX2_add 49 = .ok (.invokestatic 45, 3) := by decide +kernel
theorem dX2_add_52 : decode cX2_add 52 = .ok (.iaload, 1) := by decide +kernel
theorem dX2_add_53 : decode cX2_add 53 = .ok (.istore 5, 2) := by decide +kernel
theorem dX2_add_55 : decode cX2_add 55 = .ok (.iload 5, 2) := by decide +kernel
theorem dX2_add_57 : decode cX2_add 57 = .ok (.ifCond .lt 27, 3) := by decide +kernel
theorem dX2_add_60 : decode cX2_add 60 = .ok (.iload 5, 2) := by decide +kernel
theorem dX2_add_62 : decode cX2_add 62 = .ok (.bipush 99, 2) := by decide +kernel
theorem dX2_add_64 : decode cX2_add 64 = .ok (.if_icmp .gt 20, 3) := by decide +kernel
theorem dX2_add_67 : decode cX2_add 67 = .ok (.aload_n 0, 1) := by decide +kernel
theorem dX2_add_68 : decode cX2_add 68 = .ok (.getfield 21, 3) := by decide +kernel
theorem dX2_add_71 : decode cX2_add 71 = .ok (.iload 4, 2) := by decide +kernel
theorem dX2_add_73 : decode cX2_add 73 = .ok (.bipush 100, 2) := by decide +kernel
theorem dX2_add_75 : decode cX2_add 75 = .ok (.imul, 1) := by decide +kernel
theorem dX2_add_76 : decode cX2_add 76 = .ok (.iload 5, 2) := by decide +kernel
theorem dX2_add_78 : decode cX2_add 78 = .ok (.iadd, 1) := by decide +kernel
theorem dX2_add_79 : decode cX2_add 79 = .ok (.dup2, 1) := by decide +kernel
theorem dX2_add_80 : decode cX2_add 80 = .ok (.iaload, 1) := by decide +kernel
theorem dX2_add_81 : decode cX2_add 81 = .ok (.iconst 1, 1) := by decide +kernel
theorem dX2_add_82 : decode cX2_add 82 = .ok (.iadd, 1) := by decide +kernel
theorem dX2_add_83 : decode cX2_add 83 = .ok (.iastore, 1) := by decide +kernel
theorem dX2_add_84 : decode cX2_add 84 = .ok (.iinc 4 1, 3) := by decide +kernel
theorem dX2_add_87 : decode cX2_add 87 = .ok (.goto (-57), 3) := by decide +kernel
theorem dX2_add_90 : decode cX2_add 90 = .ok (.return_, 1) := by decide +kernel
theorem dX2_atWorst_0 : decode cX2_atWorst 0 = .ok (.iconst 0, 1) := by decide +kernel
theorem dX2_atWorst_1 : decode cX2_atWorst 1 = .ok (.istore_n 2, 1) := by decide +kernel
theorem dX2_atWorst_2 : decode cX2_atWorst 2 = .ok (.iconst 0, 1) := by decide +kernel
theorem dX2_atWorst_3 : decode cX2_atWorst 3 = .ok (.istore_n 3, 1) := by decide +kernel
theorem dX2_atWorst_4 : decode cX2_atWorst 4 = .ok (.iload_n 3, 1) := by decide +kernel
theorem dX2_atWorst_5 : decode cX2_atWorst 5 = .ok (.bipush 99, 2) := by decide +kernel
theorem dX2_atWorst_7 : decode cX2_atWorst 7 = .ok (.if_icmp .gt 25, 3) := by decide +kernel
theorem dX2_atWorst_10 : decode cX2_atWorst 10 = .ok (.iload_n 2, 1) := by decide +kernel
theorem dX2_atWorst_11 : decode cX2_atWorst 11 = .ok (.aload_n 0, 1) := by decide +kernel
theorem dX2_atWorst_12 : decode cX2_atWorst 12 = .ok (.getfield 21, 3) := by decide +kernel
theorem dX2_atWorst_15 : decode cX2_atWorst 15 = .ok (.iload_n 1, 1) := by decide +kernel
theorem dX2_atWorst_16 : decode cX2_atWorst 16 = .ok (.bipush 100, 2) := by decide +kernel
theorem dX2_atWorst_18 : decode cX2_atWorst 18 = .ok (.imul, 1) := by decide +kernel
theorem dX2_atWorst_19 : decode cX2_atWorst 19 = .ok (.iload_n 3, 1) := by decide +kernel
theorem dX2_atWorst_20 : decode cX2_atWorst 20 = .ok (.iadd, 1) := by decide +kernel
theorem dX2_atWorst_21 : decode cX2_atWorst 21 = .ok (.iaload, 1) := by decide +kernel
theorem dX2_atWorst_22 : decode cX2_atWorst 22 = .ok (.invokestatic 49, 3) := by decide +kernel
theorem dX2_atWorst_25 : decode cX2_atWorst 25 = .ok (.istore_n 2, 1) := by decide +kernel
theorem dX2_atWorst_26 : decode cX2_atWorst 26 = .ok (.iinc 3 1, 3) := by decide +kernel
theorem dX2_atWorst_29 : decode cX2_atWorst 29 = .ok (.goto (-25), 3) := by decide +kernel
theorem dX2_atWorst_32 : decode cX2_atWorst 32 = .ok (.iload_n 2, 1) := by decide +kernel
theorem dX2_atWorst_33 : decode cX2_atWorst 33 = .ok (.ireturn, 1) := by decide +kernel
theorem dX2_yearToAsk_0 : decode cX2_yearToAsk 0 = .ok (.iconst (-1), 1) := by decide +kernel
theorem dX2_yearToAsk_1 : decode cX2_yearToAsk 1 = .ok (.istore_n 2, 1) := by decide +kernel
theorem dX2_yearToAsk_2 : decode cX2_yearToAsk 2 = .ok (.aload_n 0, 1) := by decide +kernel
theorem dX2_yearToAsk_3 : decode cX2_yearToAsk 3 = .ok (.getfield 9, 3) := by decide +kernel
theorem dX2_yearToAsk_6 : decode cX2_yearToAsk 6 = .ok (.istore_n 3, 1) := by decide +kernel
theorem dX2_yearToAsk_7 : decode cX2_yearToAsk 7 = .ok (.iconst 0, 1) := by decide +kernel
theorem dX2_yearToAsk_8 : decode cX2_yearToAsk 8 = .ok (.istore 4, 2) := by decide +kernel
theorem dX2_yearToAsk_10 : decode cX2_yearToAsk 10 = .ok (.iload 4, 2) := by decide +kernel
theorem dX2_yearToAsk_12 : decode cX2_yearToAsk 12 = .ok (.iload_n 1, 1) := by decide +kernel
theorem dX2_yearToAsk_13 : decode cX2_yearToAsk 13 = .ok (.if_icmp .ge 29, 3) := by decide +kernel
theorem dX2_yearToAsk_16 : decode cX2_yearToAsk 16 = .ok (.aload_n 0, 1) := by decide +kernel
theorem dX2_yearToAsk_17 : decode cX2_yearToAsk 17 = .ok (.iload 4, 2) := by decide +kernel
theorem dX2_yearToAsk_19 : decode cX2_yearToAsk 19 = .ok (.invokevirtual 54, 3) := by decide +kernel
theorem dX2_yearToAsk_22 : decode cX2_yearToAsk 22 = .ok (.istore 5, 2) := by decide +kernel
theorem dX2_yearToAsk_24 : decode cX2_yearToAsk 24 = .ok (.iload 5, 2) := by decide +kernel
theorem dX2_yearToAsk_26 : decode cX2_yearToAsk 26 = .ok (.iload_n 3, 1) := by decide +kernel
theorem dX2_yearToAsk_27 : decode cX2_yearToAsk 27 = .ok (.if_icmp .ge 9, 3) := by decide +kernel
theorem dX2_yearToAsk_30 : decode cX2_yearToAsk 30 = .ok (.iload 5, 2) := by decide +kernel
theorem dX2_yearToAsk_32 : decode cX2_yearToAsk 32 = .ok (.istore_n 3, 1) := by decide +kernel
theorem dX2_yearToAsk_33 : decode cX2_yearToAsk 33 = .ok (.iload 4, 2) := by decide +kernel
theorem dX2_yearToAsk_35 : decode cX2_yearToAsk 35 = .ok (.istore_n 2, 1) := by decide +kernel
theorem dX2_yearToAsk_36 : decode cX2_yearToAsk 36 = .ok (.iinc 4 1, 3) := by decide +kernel
theorem dX2_yearToAsk_39 : decode cX2_yearToAsk 39 = .ok (.goto (-29), 3) := by decide +kernel
theorem dX2_yearToAsk_42 : decode cX2_yearToAsk 42 = .ok (.iload_n 2, 1) := by decide +kernel
theorem dX2_yearToAsk_43 : decode cX2_yearToAsk 43 = .ok (.ireturn, 1) := by decide +kernel
theorem dX3_init_0 : decode cX3_init 0 = .ok (.aload_n 0, 1) := by decide +kernel
theorem dX3_init_1 : decode cX3_init 1 = .ok (.invokespecial 3, 3) := by decide +kernel
theorem dX3_init_4 : decode cX3_init 4 = .ok (.aload_n 0, 1) := by decide +kernel
theorem dX3_init_5 : decode cX3_init 5 = .ok (.iconst 0, 1) := by decide +kernel
theorem dX3_init_6 : decode cX3_init 6 = .ok (.putfield 9, 3) := by decide +kernel
theorem dX3_init_9 : decode cX3_init 9 = .ok (.aload_n 0, 1) := by decide +kernel
theorem dX3_init_10 : decode cX3_init 10 = .ok (.bipush 8, 2) := by decide +kernel
theorem dX3_init_12 : decode cX3_init 12 = .ok (.newarray .int, 2) := by decide +kernel
theorem dX3_init_14 : decode cX3_init 14 = .ok (.putfield 15, 3) := by decide +kernel
theorem dX3_init_17 : decode cX3_init 17 = .ok (.aload_n 0, 1) := by decide +kernel
theorem dX3_init_18 : decode cX3_init 18 = .ok (.bipush 8, 2) := by decide +kernel
theorem dX3_init_20 : decode cX3_init 20 = .ok (.newarray .int, 2) := by decide +kernel
theorem dX3_init_22 : decode cX3_init 22 = .ok (.putfield 19, 3) := by decide +kernel
theorem dX3_init_25 : decode cX3_init 25 = .ok (.aload_n 0, 1) := by decide +kernel
theorem dX3_init_26 : decode cX3_init 26 = .ok (.bipush 8, 2) := by decide +kernel
theorem dX3_init_28 : decode cX3_init 28 = .ok (.newarray .int, 2) := by decide +kernel
theorem dX3_init_30 : decode cX3_init 30 = .ok (.putfield 22, 3) := by decide +kernel
theorem dX3_init_33 : decode cX3_init 33 = .ok (.return_, 1) := by decide +kernel
theorem dX3_has_0 : decode cX3_has 0 = .ok (.iload_n 1, 1) := by decide +kernel
theorem dX3_has_1 : decode cX3_has 1 = .ok (.ifCond .lt 15, 3) := by decide +kernel
theorem dX3_has_4 : decode cX3_has 4 = .ok (.iload_n 1, 1) := by decide +kernel
theorem dX3_has_5 : decode cX3_has 5 = .ok (.aload_n 0, 1) := by decide +kernel
theorem dX3_has_6 : decode cX3_has 6 = .ok (.getfield 9, 3) := by decide +kernel
theorem dX3_has_9 : decode cX3_has 9 = .ok (.if_icmp .ge 7, 3) := by decide +kernel
theorem dX3_has_12 : decode cX3_has 12 = .ok (.iconst 1, 1) := by decide +kernel
theorem dX3_has_13 : decode cX3_has 13 = .ok (.goto 4, 3) := by decide +kernel
theorem dX3_has_16 : decode cX3_has 16 = .ok (.iconst 0, 1) := by decide +kernel
theorem dX3_has_17 : decode cX3_has 17 = .ok (.ireturn, 1) := by decide +kernel
theorem dX3_toWhom_0 : decode cX3_toWhom 0 = .ok (.iconst 0, 1) := by decide +kernel
theorem dX3_toWhom_1 : decode cX3_toWhom 1 = .ok (.istore_n 2, 1) := by decide +kernel
theorem dX3_toWhom_2 : decode cX3_toWhom 2 = .ok (.iconst 0, 1) := by decide +kernel
theorem dX3_toWhom_3 : decode cX3_toWhom 3 = .ok (.istore_n 3, 1) := by decide +kernel
theorem dX3_toWhom_4 : decode cX3_toWhom 4 = .ok (.iload_n 3, 1) := by decide +kernel
theorem dX3_toWhom_5 : decode cX3_toWhom 5 = .ok (.aload_n 0, 1) := by decide +kernel
theorem dX3_toWhom_6 : decode cX3_toWhom 6 = .ok (.getfield 9, 3) := by decide +kernel
theorem dX3_toWhom_9 : decode cX3_toWhom 9 = .ok (.if_icmp .ge 25, 3) := by decide +kernel
theorem dX3_toWhom_12 : decode cX3_toWhom 12 = .ok (.aload_n 0, 1) := by decide +kernel
theorem dX3_toWhom_13 : decode cX3_toWhom 13 = .ok (.getfield 19, 3) := by decide +kernel
theorem dX3_toWhom_16 : decode cX3_toWhom 16 = .ok (.iload_n 3, 1) := by decide +kernel
theorem dX3_toWhom_17 : decode cX3_toWhom 17 = .ok (.iaload, 1) := by decide +kernel
theorem dX3_toWhom_18 : decode cX3_toWhom 18 = .ok (.iload_n 1, 1) := by decide +kernel
theorem dX3_toWhom_19 : decode cX3_toWhom 19 = .ok (.if_icmp .ne 9, 3) := by decide +kernel
theorem dX3_toWhom_22 : decode cX3_toWhom 22 = .ok (.iload_n 2, 1) := by decide +kernel
theorem dX3_toWhom_23 : decode cX3_toWhom 23 = .ok (.iconst 1, 1) := by decide +kernel
theorem dX3_toWhom_24 : decode cX3_toWhom 24 = .ok (.iload_n 3, 1) := by decide +kernel
theorem dX3_toWhom_25 : decode cX3_toWhom 25 = .ok (.ishl, 1) := by decide +kernel
theorem dX3_toWhom_26 : decode cX3_toWhom 26 = .ok (.ior, 1) := by decide +kernel
theorem dX3_toWhom_27 : decode cX3_toWhom 27 = .ok (.istore_n 2, 1) := by decide +kernel
theorem dX3_toWhom_28 : decode cX3_toWhom 28 = .ok (.iinc 3 1, 3) := by decide +kernel
theorem dX3_toWhom_31 : decode cX3_toWhom 31 = .ok (.goto (-27), 3) := by decide +kernel
theorem dX3_toWhom_34 : decode cX3_toWhom 34 = .ok (.iload_n 2, 1) := by decide +kernel
theorem dX3_toWhom_35 : decode cX3_toWhom 35 = .ok (.ireturn, 1) := by decide +kernel
theorem dX3_ofWhom_0 : decode cX3_ofWhom 0 = .ok (.iconst 0, 1) := by decide +kernel
theorem dX3_ofWhom_1 : decode cX3_ofWhom 1 = .ok (.istore_n 2, 1) := by decide +kernel
theorem dX3_ofWhom_2 : decode cX3_ofWhom 2 = .ok (.iconst 0, 1) := by decide +kernel
theorem dX3_ofWhom_3 : decode cX3_ofWhom 3 = .ok (.istore_n 3, 1) := by decide +kernel
theorem dX3_ofWhom_4 : decode cX3_ofWhom 4 = .ok (.iload_n 3, 1) := by decide +kernel
theorem dX3_ofWhom_5 : decode cX3_ofWhom 5 = .ok (.aload_n 0, 1) := by decide +kernel
theorem dX3_ofWhom_6 : decode cX3_ofWhom 6 = .ok (.getfield 9, 3) := by decide +kernel
theorem dX3_ofWhom_9 : decode cX3_ofWhom 9 = .ok (.if_icmp .ge 25, 3) := by decide +kernel
theorem dX3_ofWhom_12 : decode cX3_ofWhom 12 = .ok (.aload_n 0, 1) := by decide +kernel
theorem dX3_ofWhom_13 : decode cX3_ofWhom 13 = .ok (.getfield 15, 3) := by decide +kernel
theorem dX3_ofWhom_16 : decode cX3_ofWhom 16 = .ok (.iload_n 3, 1) := by decide +kernel
theorem dX3_ofWhom_17 : decode cX3_ofWhom 17 = .ok (.iaload, 1) := by decide +kernel
theorem dX3_ofWhom_18 : decode cX3_ofWhom 18 = .ok (.iload_n 1, 1) := by decide +kernel
theorem dX3_ofWhom_19 : decode cX3_ofWhom 19 = .ok (.if_icmp .ne 9, 3) := by decide +kernel
theorem dX3_ofWhom_22 : decode cX3_ofWhom 22 = .ok (.iload_n 2, 1) := by decide +kernel
theorem dX3_ofWhom_23 : decode cX3_ofWhom 23 = .ok (.iconst 1, 1) := by decide +kernel
theorem dX3_ofWhom_24 : decode cX3_ofWhom 24 = .ok (.iload_n 3, 1) := by decide +kernel
theorem dX3_ofWhom_25 : decode cX3_ofWhom 25 = .ok (.ishl, 1) := by decide +kernel
theorem dX3_ofWhom_26 : decode cX3_ofWhom 26 = .ok (.ior, 1) := by decide +kernel
theorem dX3_ofWhom_27 : decode cX3_ofWhom 27 = .ok (.istore_n 2, 1) := by decide +kernel
theorem dX3_ofWhom_28 : decode cX3_ofWhom 28 = .ok (.iinc 3 1, 3) := by decide +kernel
theorem dX3_ofWhom_31 : decode cX3_ofWhom 31 = .ok (.goto (-27), 3) := by decide +kernel
theorem dX3_ofWhom_34 : decode cX3_ofWhom 34 = .ok (.iload_n 2, 1) := by decide +kernel
theorem dX3_ofWhom_35 : decode cX3_ofWhom 35 = .ok (.ireturn, 1) := by decide +kernel
theorem dX3_copy_0 : decode cX3_copy 0 = .ok (.aload_n 0, 1) := by decide +kernel
theorem dX3_copy_1 : decode cX3_copy 1 = .ok (.aload_n 1, 1) := by decide +kernel
theorem dX3_copy_2 : decode cX3_copy 2 = .ok (.getfield 9, 3) := by decide +kernel
theorem dX3_copy_5 : decode cX3_copy 5 = .ok (.putfield 9, 3) := by decide +kernel
theorem dX3_copy_8 : decode cX3_copy 8 = .ok (.aload_n 1, 1) := by decide +kernel
theorem dX3_copy_9 : decode cX3_copy 9 = .ok (.getfield 15, 3) := by decide +kernel
theorem dX3_copy_12 : decode cX3_copy 12 = .ok (.iconst 0, 1) := by decide +kernel
theorem dX3_copy_13 : decode cX3_copy 13 = .ok (.aload_n 0, 1) := by decide +kernel
theorem dX3_copy_14 : decode cX3_copy 14 = .ok (.getfield 15, 3) := by decide +kernel
theorem dX3_copy_17 : decode cX3_copy 17 = .ok (.iconst 0, 1) := by decide +kernel
theorem dX3_copy_18 : decode cX3_copy 18 = .ok (.bipush 8, 2) := by decide +kernel
theorem dX3_copy_20 : decode cX3_copy 20 = .ok (.invokestatic 25, 3) := by decide +kernel
theorem dX3_copy_23 : decode cX3_copy 23 = .ok (.aload_n 1, 1) := by decide +kernel
theorem dX3_copy_24 : decode cX3_copy 24 = .ok (.getfield 19, 3) := by decide +kernel
theorem dX3_copy_27 : decode cX3_copy 27 = .ok (.iconst 0, 1) := by decide +kernel
theorem dX3_copy_28 : decode cX3_copy 28 = .ok (.aload_n 0, 1) := by decide +kernel
theorem dX3_copy_29 : decode cX3_copy 29 = .ok (.getfield 19, 3) := by decide +kernel
theorem dX3_copy_32 : decode cX3_copy 32 = .ok (.iconst 0, 1) := by decide +kernel
theorem dX3_copy_33 : decode cX3_copy 33 = .ok (.bipush 8, 2) := by decide +kernel
theorem dX3_copy_35 : decode cX3_copy 35 = .ok (.invokestatic 25, 3) := by decide +kernel
theorem dX3_copy_38 : decode cX3_copy 38 = .ok (.aload_n 1, 1) := by decide +kernel
theorem dX3_copy_39 : decode cX3_copy 39 = .ok (.getfield 22, 3) := by decide +kernel
theorem dX3_copy_42 : decode cX3_copy 42 = .ok (.iconst 0, 1) := by decide +kernel
theorem dX3_copy_43 : decode cX3_copy 43 = .ok (.aload_n 0, 1) := by decide +kernel
theorem dX3_copy_44 : decode cX3_copy 44 = .ok (.getfield 22, 3) := by decide +kernel
theorem dX3_copy_47 : decode cX3_copy 47 = .ok (.iconst 0, 1) := by decide +kernel
theorem dX3_copy_48 : decode cX3_copy 48 = .ok (.bipush 8, 2) := by decide +kernel
theorem dX3_copy_50 : decode cX3_copy 50 = .ok (.invokestatic 25, 3) := by decide +kernel
theorem dX3_copy_53 : decode cX3_copy 53 = .ok (.return_, 1) := by decide +kernel
theorem dX4_init_0 : decode cX4_init 0 = .ok (.aload_n 0, 1) := by decide +kernel
theorem dX4_init_1 : decode cX4_init 1 = .ok (.invokespecial 3, 3) := by decide +kernel
theorem dX4_init_4 : decode cX4_init 4 = .ok (.aload_n 0, 1) := by decide +kernel
theorem dX4_init_5 : decode cX4_init 5 = .ok (.sipush 384, 3) := by decide +kernel
theorem dX4_init_8 : decode cX4_init 8 = .ok (.newarray .int, 2) := by decide +kernel
theorem dX4_init_10 : decode cX4_init 10 = .ok (.putfield 9, 3) := by decide +kernel
theorem dX4_init_13 : decode cX4_init 13 = .ok (.aload_n 0, 1) := by decide +kernel
theorem dX4_init_14 : decode cX4_init 14 = .ok (.sipush 384, 3) := by decide +kernel
theorem dX4_init_17 : decode cX4_init 17 = .ok (.newarray .int, 2) := by decide +kernel
theorem dX4_init_19 : decode cX4_init 19 = .ok (.putfield 15, 3) := by decide +kernel
theorem dX4_init_22 : decode cX4_init 22 = .ok (.aload_n 0, 1) := by decide +kernel
theorem dX4_init_23 : decode cX4_init 23 = .ok (.iconst 0, 1) := by decide +kernel
theorem dX4_init_24 : decode cX4_init 24 = .ok (.putfield 18, 3) := by decide +kernel
theorem dX4_init_27 : decode cX4_init 27 = .ok (.return_, 1) := by decide +kernel
theorem dX4_plan_0 : decode cX4_plan 0 = .ok (.aload_n 0, 1) := by decide +kernel
theorem dX4_plan_1 : decode cX4_plan 1 = .ok (.aload_n 1, 1) := by decide +kernel
theorem dX4_plan_2 : decode cX4_plan 2 = .ok (.invokevirtual 22, 3) := by decide +kernel
theorem dX4_plan_5 : decode cX4_plan 5 = .ok (.putfield 18, 3) := by decide +kernel
theorem dX4_plan_8 : decode cX4_plan 8 = .ok (.iconst 1, 1) := by decide +kernel
theorem dX4_plan_9 : decode cX4_plan 9 = .ok (.aload_n 1, 1) := by decide +kernel
theorem dX4_plan_10 : decode cX4_plan 10 = .ok (.getfield 28, 3) := by decide +kernel
theorem dX4_plan_13 : decode cX4_plan 13 = .ok (.ishl, 1) := by decide +kernel
theorem dX4_plan_14 : decode cX4_plan 14 = .ok (.istore_n 3, 1) := by decide +kernel
theorem dX4_plan_15 : decode cX4_plan 15 = .ok (.iconst 0, 1) := by decide +kernel
theorem dX4_plan_16 : decode cX4_plan 16 = .ok (.istore 4, 2) := by decide +kernel
theorem dX4_plan_18 : decode cX4_plan 18 = .ok (.iload 4, 2) := by decide +kernel
theorem dX4_plan_20 : decode cX4_plan 20 = .ok (.iload_n 3, 1) := by decide +kernel
theorem dX4_plan_21 : decode cX4_plan 21 = .ok (.if_icmp .ge 46, 3) := by decide +kernel
theorem dX4_plan_24 : decode cX4_plan 24 = .ok (.aload_n 0, 1) := by decide +kernel
theorem dX4_plan_25 : decode cX4_plan 25 = .ok (.getfield 9, 3) := by decide +kernel
theorem dX4_plan_28 : decode cX4_plan 28 = .ok (.aload_n 1, 1) := by decide +kernel
theorem dX4_plan_29 : decode cX4_plan 29 = .ok (.getfield 31, 3) := by decide +kernel
theorem dX4_plan_32 : decode cX4_plan 32 = .ok (.bipush 64, 2) := by decide +kernel
theorem dX4_plan_34 : decode cX4_plan 34 = .ok (.imul, 1) := by decide +kernel
theorem dX4_plan_35 : decode cX4_plan 35 = .ok (.iload 4, 2) := by decide +kernel
theorem dX4_plan_37 : decode cX4_plan 37 = .ok (.iadd, 1) := by decide +kernel
theorem dX4_plan_38 : decode cX4_plan 38 = .ok (.aload_n 2, 1) := by decide +kernel
theorem dX4_plan_39 : decode cX4_plan 39 = .ok (.iload 4, 2) := by decide +kernel
theorem dX4_plan_41 : decode cX4_plan 41 = .ok (.invokevirtual 34, 3) := by decide +kernel
theorem dX4_plan_44 : decode cX4_plan 44 = .ok (.iastore, 1) := by decide +kernel
theorem dX4_plan_45 : decode cX4_plan 45 = .ok (.aload_n 0, 1) := by decide +kernel
theorem dX4_plan_46 : decode cX4_plan 46 = .ok (.getfield 15, 3) := by decide +kernel
theorem dX4_plan_49 : decode cX4_plan 49 = .ok (.aload_n 1, 1) := by decide +kernel
theorem dX4_plan_50 : decode cX4_plan 50 = .ok (.getfield 31, 3) := by decide +kernel
theorem dX4_plan_53 : decode cX4_plan 53 = .ok (.bipush 64, 2) := by decide +kernel
theorem dX4_plan_55 : decode cX4_plan 55 = .ok (.imul, 1) := by decide +kernel
theorem dX4_plan_56 : decode cX4_plan 56 = .ok (.iload 4, 2) := by decide +kernel
theorem dX4_plan_58 : decode cX4_plan 58 = .ok (.iadd, 1) := by decide +kernel
theorem dX4_plan_59 : decode cX4_plan 59 = .ok (.iconst 1, 1) := by decide +kernel
theorem dX4_plan_60 : decode cX4_plan 60 = .ok (.iastore, 1) := by decide +kernel
theorem dX4_plan_61 : decode cX4_plan 61 = .ok (.iinc 4 1, 3) := by decide +kernel
theorem dX4_plan_64 : decode cX4_plan 64 = .ok (.goto (-46), 3) := by decide +kernel
theorem dX4_plan_67 : decode cX4_plan 67 = .ok (.aload_n 1, 1) := by decide +kernel
theorem dX4_plan_68 : decode cX4_plan 68 = .ok (.getfield 31, 3) := by decide +kernel
theorem dX4_plan_71 : decode cX4_plan 71 = .ok (.iconst 1, 1) := by decide +kernel
theorem dX4_plan_72 : decode cX4_plan 72 = .ok (.isub, 1) := by decide +kernel
theorem dX4_plan_73 : decode cX4_plan 73 = .ok (.istore 4, 2) := by decide +kernel
theorem dX4_plan_75 : decode cX4_plan 75 = .ok (.iload 4, 2) := by decide +kernel
theorem dX4_plan_77 : decode cX4_plan 77 = .ok (.ifCond .lt 33, 3) := by decide +kernel
theorem dX4_plan_80 : decode cX4_plan 80 = .ok (.iconst 0, 1) := by decide +kernel
theorem dX4_plan_81 : decode cX4_plan 81 = .ok (.istore 5, 2) := by decide +kernel
theorem dX4_plan_83 : decode cX4_plan 83 = .ok (.iload 5, 2) := by decide +kernel
theorem dX4_plan_85 : decode cX4_plan 85 = .ok (.iload_n 3, 1) := by decide +kernel
theorem dX4_plan_86 : decode cX4_plan 86 = .ok (.if_icmp .ge 18, 3) := by decide +kernel
theorem dX4_plan_89 : decode cX4_plan 89 = .ok (.aload_n 0, 1) := by decide +kernel
theorem dX4_plan_90 : decode cX4_plan 90 = .ok (.aload_n 1, 1) := by decide +kernel
theorem dX4_plan_91 : decode cX4_plan 91 = .ok (.iload 4, 2) := by decide +kernel
theorem dX4_plan_93 : decode cX4_plan 93 = .ok (.iload 5, 2) := by decide +kernel
theorem dX4_plan_95 : decode cX4_plan 95 = .ok (.invokevirtual 40, 3) := by decide +kernel
theorem dX4_plan_98 : decode cX4_plan 98 = .ok (.iinc 5 1, 3) := by decide +kernel
theorem dX4_plan_101 : decode cX4_plan 101 = .ok (.goto (-18), 3) := by decide +kernel
theorem dX4_plan_104 : decode cX4_plan 104 = .ok (.iinc 4 (-1), 3) := by decide +kernel
theorem dX4_plan_107 : decode cX4_plan 107 = .ok (.goto (-32), 3) := by decide +kernel
theorem dX4_plan_110 : decode cX4_plan 110 = .ok (.return_, 1) := by decide +kernel
theorem dX4_choose_0 : decode cX4_choose 0 = .ok (.iconst (-1), 1) := by decide +kernel
theorem dX4_choose_1 : decode cX4_choose 1 = .ok (.istore 4, 2) := by decide +kernel
theorem dX4_choose_3 : decode cX4_choose 3 = .ok (.iconst 0, 1) := by decide +kernel
theorem dX4_choose_4 : decode cX4_choose 4 = .ok (.istore 5, 2) := by decide +kernel
theorem dX4_choose_6 : decode cX4_choose 6 = .ok (.iconst (-1), 1) := by decide +kernel
theorem dX4_choose_7 : decode cX4_choose 7 = .ok (.istore 6, 2) := by decide +kernel
theorem dX4_choose_9 : decode cX4_choose 9 = .ok (.iload 6, 2) := by decide +kernel
theorem dX4_choose_11 : decode cX4_choose 11 = .ok (.aload_n 1, 1) := by decide +kernel
theorem dX4_choose_12 : decode cX4_choose 12 = .ok (.getfield 28, 3) := by decide +kernel
theorem dX4_choose_15 : decode cX4_choose 15 = .ok (.if_icmp .ge 68, 3) := by decide +kernel
theorem dX4_choose_18 : decode cX4_choose 18 = .ok (.aload_n 0, 1) := by decide +kernel
theorem dX4_choose_19 : decode cX4_choose 19 = .ok (.aload_n 1, 1) := by decide +kernel
theorem dX4_choose_20 : decode cX4_choose 20 = .ok (.iload_n 2, 1) := by decide +kernel
theorem dX4_choose_21 : decode cX4_choose 21 = .ok (.iload_n 3, 1) := by decide +kernel
theorem dX4_choose_22 : decode cX4_choose 22 = .ok (.iload 6, 2) := by decide +kernel
theorem dX4_choose_24 : decode cX4_choose 24 = .ok (.invokevirtual 44, 3) := by decide +kernel
theorem dX4_choose_27 : decode cX4_choose 27 = .ok (.istore 7, 2) := by decide +kernel
theorem dX4_choose_29 : decode cX4_choose 29 = .ok (.aload_n 0, 1) := by decide +kernel
theorem dX4_choose_30 : decode cX4_choose 30 = .ok (.getfield 9, 3) := by decide +kernel
theorem dX4_choose_33 : decode cX4_choose 33 = .ok (.iload 7, 2) := by decide +kernel
theorem dX4_choose_35 : decode cX4_choose 35 = .ok (.iaload, 1) := by decide +kernel
theorem dX4_choose_36 : decode cX4_choose 36 = .ok (.iload 4, 2) := by decide +kernel
theorem dX4_choose_38 : decode cX4_choose 38 = .ok (.if_icmp .le 15, 3) := by decide +kernel
theorem dX4_choose_41 : decode cX4_choose 41 = .ok (.aload_n 0, 1) := by decide +kernel
theorem dX4_choose_42 : decode cX4_choose 42 = .ok (.getfield 9, 3) := by decide +kernel
theorem dX4_choose_45 : decode cX4_choose 45 = .ok (.iload 7, 2) := by decide +kernel
theorem dX4_choose_47 : decode cX4_choose 47 = .ok (.iaload, 1) := by decide +kernel
theorem dX4_choose_48 : decode cX4_choose 48 = .ok (.istore 4, 2) := by decide +kernel
theorem dX4_choose_50 : decode cX4_choose 50 = .ok (.iconst 0, 1) := by decide +kernel
theorem dX4_choose_51 : decode cX4_choose 51 = .ok (.istore 5, 2) := by decide +kernel
theorem dX4_choose_53 : decode cX4_choose 53 = .ok (.aload_n 0, 1) := by decide +kernel
theorem dX4_choose_54 : decode cX4_choose 54 = .ok (.getfield 9, 3) := by decide +kernel
theorem dX4_choose_57 : decode cX4_choose 57 = .ok (.iload 7, 2) := by decide +kernel
theorem dX4_choose_59 : decode cX4_choose 59 = .ok (.iaload, 1) := by decide +kernel
theorem dX4_choose_60 : decode cX4_choose 60 = .ok (.iload 4, 2) := by decide +kernel
theorem dX4_choose_62 : decode cX4_choose 62 = .ok (.if_icmp .ne 15, 3) := by decide +kernel
theorem dX4_choose_65 : decode cX4_choose 65 = .ok (.iload 5, 2) := by decide +kernel
theorem dX4_choose_67 : decode cX4_choose 67 = .ok (.aload_n 0, 1) := by decide +kernel
theorem dX4_choose_68 : decode cX4_choose 68 = .ok (.getfield 15, 3) := by decide +kernel
theorem dX4_choose_71 : decode cX4_choose 71 = .ok (.iload 7, 2) := by decide +kernel
theorem dX4_choose_73 : decode cX4_choose 73 = .ok (.iaload, 1) := by decide +kernel
theorem dX4_choose_74 : decode cX4_choose 74 = .ok (.iadd, 1) := by decide +kernel
theorem dX4_choose_75 : decode cX4_choose 75 = .ok (.istore 5, 2) := by decide +kernel
theorem dX4_choose_77 : decode cX4_choose 77 = .ok (.iinc 6 1, 3) := by decide +kernel
theorem dX4_choose_80 : decode cX4_choose 80 = .ok (.goto (-71), 3) := by decide +kernel
theorem dX4_choose_83 : decode cX4_choose 83 = .ok (.aload_n 0, 1) := by decide +kernel
theorem dX4_choose_84 : decode cX4_choose 84 = .ok (.getfield 9, 3) := by decide +kernel
theorem dX4_choose_87 : decode cX4_choose 87 = .ok (.iload_n 2, 1) := by decide +kernel
theorem dX4_choose_88 : decode cX4_choose 88 = .ok (.bipush 64, 2) := by decide +kernel
theorem dX4_choose_90 : decode cX4_choose 90 = .ok (.imul, 1) := by decide +kernel
theorem dX4_choose_91 : decode cX4_choose 91 = .ok (.iload_n 3, 1) := by decide +kernel
theorem dX4_choose_92 : decode cX4_choose 92 = .ok (.iadd, 1) := by decide +kernel
theorem dX4_choose_93 : decode cX4_choose 93 = .ok (.iload 4, 2) := by decide +kernel
theorem dX4_choose_95 : decode cX4_choose 95 = .ok (.iastore, 1) := by decide +kernel
theorem dX4_choose_96 : decode cX4_choose 96 = .ok (.aload_n 0, 1) := by decide +kernel
theorem dX4_choose_97 : decode cX4_choose 97 = .ok (.getfield 15, 3) := by decide +kernel
theorem dX4_choose_100 : decode cX4_choose 100 = .ok (.iload_n 2, 1) := by decide +kernel
theorem dX4_choose_101 : decode cX4_choose 101 = .ok (.bipush 64, 2) := by decide +kernel
theorem dX4_choose_103 : decode cX4_choose 103 = .ok (.imul, 1) := by decide +kernel
theorem dX4_choose_104 : decode cX4_choose 104 = .ok (.iload_n 3, 1) := by decide +kernel
theorem dX4_choose_105 : decode cX4_choose 105 = .ok (.iadd, 1) := by decide +kernel
theorem dX4_choose_106 : decode cX4_choose 106 = .ok (.iload 5, 2) := by decide +kernel
theorem dX4_choose_108 : decode cX4_choose 108 = .ok (.iastore, 1) := by decide +kernel
theorem dX4_choose_109 : decode cX4_choose 109 = .ok (.return_, 1) := by decide +kernel
theorem dX4_behind_0 : decode cX4_behind 0 = .ok (.iload_n 2, 1) := by decide +kernel
theorem dX4_behind_1 : decode cX4_behind 1 = .ok (.iconst 1, 1) := by decide +kernel
theorem dX4_behind_2 : decode cX4_behind 2 = .ok (.iadd, 1) := by decide +kernel
theorem dX4_behind_3 : decode cX4_behind 3 = .ok (.bipush 64, 2) := by decide +kernel
theorem dX4_behind_5 : decode cX4_behind 5 = .ok (.imul, 1) := by decide +kernel
theorem dX4_behind_6 : decode cX4_behind 6 = .ok (.iload_n 3, 1) := by decide +kernel
theorem dX4_behind_7 : decode cX4_behind 7 = .ok (.aload_n 1, 1) := by decide +kernel
theorem dX4_behind_8 : decode cX4_behind 8 = .ok (.iload 4, 2) := by decide +kernel
theorem dX4_behind_10 : decode cX4_behind 10 = .ok (.aload_n 1, 1) := by decide +kernel
theorem dX4_behind_11 : decode cX4_behind 11 = .ok (.getfield 48, 3) := by decide +kernel
theorem dX4_behind_14 : decode cX4_behind 14 = .ok (.iload_n 2, 1) := by decide +kernel
theorem dX4_behind_15 : decode cX4_behind 15 = .ok (.iaload, 1) := by decide +kernel
theorem dX4_behind_16 : decode cX4_behind 16 = .ok (.invokevirtual 51, 3) := by decide +kernel
theorem dX4_behind_19 : decode cX4_behind 19 = .ok (.ior, 1) := by decide +kernel
theorem dX4_behind_20 : decode cX4_behind 20 = .ok (.iadd, 1) := by decide +kernel
theorem dX4_behind_21 : decode cX4_behind 21 = .ok (.ireturn, 1) := by decide +kernel
theorem dX4_mostKept_0 : decode cX4_mostKept 0 = .ok (.aload_n 0, 1) := by decide +kernel
theorem dX4_mostKept_1 : decode cX4_mostKept 1 = .ok (.getfield 9, 3) := by decide +kernel
theorem dX4_mostKept_4 : decode cX4_mostKept 4 = .ok (.aload_n 0, 1) := by decide +kernel
theorem dX4_mostKept_5 : decode cX4_mostKept 5 = .ok (.getfield 18, 3) := by decide +kernel
theorem dX4_mostKept_8 : decode cX4_mostKept 8 = .ok (.iaload, 1) := by decide +kernel
theorem dX4_mostKept_9 : decode cX4_mostKept 9 = .ok (.ireturn, 1) := by decide +kernel
theorem dX4_rowsOfBest_0 : decode cX4_rowsOfBest 0 = .ok (.aload_n 0, 1) := by decide +kernel
theorem dX4_rowsOfBest_1 : decode cX4_rowsOfBest 1 = .ok (.getfield 15, 3) := by decide +kernel
theorem dX4_rowsOfBest_4 : decode cX4_rowsOfBest 4 = .ok (.aload_n 0, 1) := by decide +kernel
theorem dX4_rowsOfBest_5 : decode cX4_rowsOfBest 5 = .ok (.getfield 18, 3) := by decide +kernel
theorem dX4_rowsOfBest_8 : decode cX4_rowsOfBest 8 = .ok (.iaload, 1) := by decide +kernel
theorem dX4_rowsOfBest_9 : decode cX4_rowsOfBest 9 = .ok (.ireturn, 1) := by decide +kernel
theorem dX4_place_0 : decode cX4_place 0 = .ok (.aload_n 0, 1) := by decide +kernel
theorem dX4_place_1 : decode cX4_place 1 = .ok (.getfield 18, 3) := by decide +kernel
theorem dX4_place_4 : decode cX4_place 4 = .ok (.istore_n 3, 1) := by decide +kernel
theorem dX4_place_5 : decode cX4_place 5 = .ok (.iconst (-1), 1) := by decide +kernel
theorem dX4_place_6 : decode cX4_place 6 = .ok (.istore 4, 2) := by decide +kernel
theorem dX4_place_8 : decode cX4_place 8 = .ok (.iconst 0, 1) := by decide +kernel
theorem dX4_place_9 : decode cX4_place 9 = .ok (.istore 5, 2) := by decide +kernel
theorem dX4_place_11 : decode cX4_place 11 = .ok (.iload 5, 2) := by decide +kernel
theorem dX4_place_13 : decode cX4_place 13 = .ok (.iload_n 2, 1) := by decide +kernel
theorem dX4_place_14 : decode cX4_place 14 = .ok (.if_icmp .gt 44, 3) := by decide +kernel
theorem dX4_place_17 : decode cX4_place 17 = .ok (.iload 5, 2) := by decide +kernel
theorem dX4_place_19 : decode cX4_place 19 = .ok (.aload_n 1, 1) := by decide +kernel
theorem dX4_place_20 : decode cX4_place 20 = .ok (.getfield 31, 3) := by decide +kernel
theorem dX4_place_23 : decode cX4_place 23 = .ok (.if_icmp .ge 35, 3) := by decide +kernel
theorem dX4_place_26 : decode cX4_place 26 = .ok (.aload_n 0, 1) := by decide +kernel
theorem dX4_place_27 : decode cX4_place 27 = .ok (.aload_n 1, 1) := by decide +kernel
theorem dX4_place_28 : decode cX4_place 28 = .ok (.iload 5, 2) := by decide +kernel
theorem dX4_place_30 : decode cX4_place 30 = .ok (.iload_n 3, 1) := by decide +kernel
theorem dX4_place_31 : decode cX4_place 31 = .ok (.invokevirtual 55, 3) := by decide +kernel
theorem dX4_place_34 : decode cX4_place 34 = .ok (.istore 4, 2) := by decide +kernel
theorem dX4_place_36 : decode cX4_place 36 = .ok (.iload_n 3, 1) := by decide +kernel
theorem dX4_place_37 : decode cX4_place 37 = .ok (.aload_n 1, 1) := by decide +kernel
theorem dX4_place_38 : decode cX4_place 38 = .ok (.iload 4, 2) := by decide +kernel
theorem dX4_place_40 : decode cX4_place 40 = .ok (.aload_n 1, 1) := by decide +kernel
theorem dX4_place_41 : decode cX4_place 41 = .ok (.getfield 48, 3) := by decide +kernel
theorem dX4_place_44 : decode cX4_place 44 = .ok (.iload 5, 2) := by decide +kernel
theorem dX4_place_46 : decode cX4_place 46 = .ok (.iaload, 1) := by decide +kernel
theorem dX4_place_47 : decode cX4_place 47 = .ok (.invokevirtual 51, 3) := by decide +kernel
theorem dX4_place_50 : decode cX4_place 50 = .ok (.ior, 1) := by decide +kernel
theorem dX4_place_51 : decode cX4_place 51 = .ok (.istore_n 3, 1) := by decide +kernel
theorem dX4_place_52 : decode cX4_place 52 = .ok (.iinc 5 1, 3) := by decide +kernel
theorem dX4_place_55 : decode cX4_place 55 = .ok (.goto (-44), 3) := by decide +kernel
theorem dX4_place_58 : decode cX4_place 58 = .ok (.iload 4, 2) := by decide +kernel
theorem dX4_place_60 : decode cX4_place 60 = .ok (.ireturn, 1) := by decide +kernel
theorem dX4_firstOfBest_0 : decode cX4_firstOfBest 0 = .ok (.iconst (-1), 1) := by decide +kernel
theorem dX4_firstOfBest_1 : decode cX4_firstOfBest 1 = .ok (.istore 4, 2) := by decide +kernel
theorem dX4_firstOfBest_3 : decode cX4_firstOfBest 3 = .ok (.iload 4, 2) := by decide +kernel
theorem dX4_firstOfBest_5 : decode cX4_firstOfBest 5 = .ok (.aload_n 1, 1) := by decide +kernel
theorem dX4_firstOfBest_6 : decode cX4_firstOfBest 6 = .ok (.getfield 28, 3) := by decide +kernel
theorem dX4_firstOfBest_9 : decode cX4_firstOfBest 9 = .ok (.if_icmp .ge 40, 3) := by decide +kernel
theorem dX4_firstOfBest_12 : decode cX4_firstOfBest 12 = .ok (.aload_n 0, 1) := by decide +kernel
theorem dX4_firstOfBest_13 : decode cX4_firstOfBest 13 = .ok (.getfield 9, 3) := by decide +kernel
theorem dX4_firstOfBest_16 : decode cX4_firstOfBest 16 = .ok (.aload_n 0, 1) := by decide +kernel
theorem dX4_firstOfBest_17 : decode cX4_firstOfBest 17 = .ok (.aload_n 1, 1) := by decide +kernel
theorem dX4_firstOfBest_18 : decode cX4_firstOfBest 18 = .ok (.iload_n 2, 1) := by decide +kernel
theorem dX4_firstOfBest_19 : decode cX4_firstOfBest 19 = .ok (.iload_n 3, 1) := by decide +kernel
theorem dX4_firstOfBest_20 : decode cX4_firstOfBest 20 = .ok (.iload 4, 2) := by decide +kernel
theorem dX4_firstOfBest_22 : decode cX4_firstOfBest 22 = .ok (.invokevirtual 44, 3) := by decide +kernel
theorem dX4_firstOfBest_25 : decode cX4_firstOfBest 25 = .ok (.iaload, 1) := by decide +kernel
theorem dX4_firstOfBest_26 : decode cX4_firstOfBest 26 = .ok (.aload_n 0, 1) := by decide +kernel
theorem dX4_firstOfBest_27 : decode cX4_firstOfBest 27 = .ok (.getfield 9, 3) := by decide +kernel
theorem dX4_firstOfBest_30 : decode cX4_firstOfBest 30 = .ok (.iload_n 2, 1) := by decide +kernel
theorem dX4_firstOfBest_31 : decode cX4_firstOfBest 31 = .ok (.bipush 64, 2) := by decide +kernel
theorem dX4_firstOfBest_33 : decode cX4_firstOfBest 33 = .ok (.imul, 1) := by decide +kernel
theorem dX4_firstOfBest_34 : decode cX4_firstOfBest 34 = .ok (.iload_n 3, 1) := by decide +kernel
theorem dX4_firstOfBest_35 : decode cX4_firstOfBest 35 = .ok (.iadd, 1) := by decide +kernel
theorem dX4_firstOfBest_36 : decode cX4_firstOfBest 36 = .ok (.iaload, 1) := by decide +kernel
theorem dX4_firstOfBest_37 : decode cX4_firstOfBest 37 = .ok (.if_icmp .ne 6, 3) := by decide +kernel
theorem dX4_firstOfBest_40 : decode cX4_firstOfBest 40 = .ok (.iload 4, 2) := by decide +kernel
theorem dX4_firstOfBest_42 : decode cX4_firstOfBest 42 = .ok (.ireturn, 1) := by decide +kernel
theorem dX4_firstOfBest_43 : decode cX4_firstOfBest 43 = .ok (.iinc 4 1, 3) := by decide +kernel
theorem dX4_firstOfBest_46 : decode cX4_firstOfBest 46 = .ok (.goto (-43), 3) := by decide +kernel
theorem dX4_firstOfBest_49 : decode cX4_firstOfBest 49 = .ok (.iconst (-1), 1) := by decide +kernel
theorem dX4_firstOfBest_50 : decode cX4_firstOfBest 50 = .ok (.ireturn, 1) := by decide +kernel
theorem dX5_init_0 : decode cX5_init 0 = .ok (.aload_n 0, 1) := by decide +kernel
theorem dX5_init_1 : decode cX5_init 1 = .ok (.invokespecial 3, 3) := by decide +kernel
theorem dX5_init_4 : decode cX5_init 4 = .ok (.aload_n 0, 1) := by decide +kernel
theorem dX5_init_5 : decode cX5_init 5 = .ok (.iconst 0, 1) := by decide +kernel
theorem dX5_init_6 : decode cX5_init 6 = .ok (.putfield 9, 3) := by decide +kernel
theorem dX5_init_9 : decode cX5_init 9 = .ok (.aload_n 0, 1) := by decide +kernel
theorem dX5_init_10 : decode cX5_init 10 = .ok (.iconst (-1), 1) := by decide +kernel
theorem dX5_init_11 : decode cX5_init 11 = .ok (.putfield 15, 3) := by decide +kernel
theorem dX5_init_14 : decode cX5_init 14 = .ok (.aload_n 0, 1) := by decide +kernel
theorem dX5_init_15 : decode cX5_init 15 = .ok (.iconst 0, 1) := by decide +kernel
theorem dX5_init_16 : decode cX5_init 16 = .ok (.putfield 18, 3) := by decide +kernel
theorem dX5_init_19 : decode cX5_init 19 = .ok (.aload_n 0, 1) := by decide +kernel
theorem dX5_init_20 : decode cX5_init 20 = .ok (.iconst 0, 1) := by decide +kernel
theorem dX5_init_21 : decode cX5_init 21 = .ok (.putfield 21, 3) := by decide +kernel
theorem dX5_init_24 : decode cX5_init 24 = .ok (.aload_n 0, 1) := by decide +kernel
theorem dX5_init_25 : decode cX5_init 25 = .ok (.iconst 0, 1) := by decide +kernel
theorem dX5_init_26 : decode cX5_init 26 = .ok (.putfield 24, 3) := by decide +kernel
theorem dX5_init_29 : decode cX5_init 29 = .ok (.aload_n 0, 1) := by decide +kernel
theorem dX5_init_30 : decode cX5_init 30 = .ok (.iconst 0, 1) := by decide +kernel
theorem dX5_init_31 : decode cX5_init 31 = .ok (.putfield 27, 3) := by decide +kernel
theorem dX5_init_34 : decode cX5_init 34 = .ok (.aload_n 0, 1) := by decide +kernel
theorem dX5_init_35 : decode cX5_init 35 = .ok (.aload_n 1, 1) := by decide +kernel
theorem dX5_init_36 : decode cX5_init 36 = .ok (.putfield 30, 3) := by decide +kernel
theorem dX5_init_39 : decode cX5_init 39 = .ok (.return_, 1) := by decide +kernel
theorem dX5_read_0 : decode cX5_read 0 = .ok (.aload_n 0, 1) := by decide +kernel
theorem dX5_read_1 : decode cX5_read 1 = .ok (.iconst 0, 1) := by decide +kernel
theorem dX5_read_2 : decode cX5_read 2 = .ok (.putfield 9, 3) := by decide +kernel
theorem dX5_read_5 : decode cX5_read 5 = .ok (.aload_n 0, 1) := by decide +kernel
theorem dX5_read_6 : decode cX5_read 6 = .ok (.iconst (-1), 1) := by decide +kernel
theorem dX5_read_7 : decode cX5_read 7 = .ok (.putfield 15, 3) := by decide +kernel
theorem dX5_read_10 : decode cX5_read 10 = .ok (.aload_n 0, 1) := by decide +kernel
theorem dX5_read_11 : decode cX5_read 11 = .ok (.iconst 0, 1) := by decide +kernel
theorem dX5_read_12 : decode cX5_read 12 = .ok (.putfield 24, 3) := by decide +kernel
theorem dX5_read_15 : decode cX5_read 15 = .ok (.aload_n 1, 1) := by decide +kernel
theorem dX5_read_16 : decode cX5_read 16 = .ok (.invokevirtual 34, 3) := by decide +kernel
theorem dX5_read_19 : decode cX5_read 19 = .ok (.aload_n 0, 1) := by decide +kernel
theorem dX5_read_20 : decode cX5_read 20 = .ok (.invokevirtual 39, 3) := by decide +kernel
theorem dX5_read_23 : decode cX5_read 23 = .ok (.iconst 0, 1) := by decide +kernel
theorem dX5_read_24 : decode cX5_read 24 = .ok (.istore_n 2, 1) := by decide +kernel
theorem dX5_read_25 : decode cX5_read 25 = .ok (.iload_n 2, 1) := by decide +kernel
theorem dX5_read_26 : decode cX5_read 26 = .ok (.sipush 900, 3) := by decide +kernel
theorem dX5_read_29 : decode cX5_read 29 = .ok (.if_icmp .ge 28, 3) := by decide +kernel
theorem dX5_read_32 : decode cX5_read 32 = .ok (.aload_n 0, 1) := by decide +kernel
theorem dX5_read_33 : decode cX5_read 33 = .ok (.getfield 9, 3) := by decide +kernel
theorem dX5_read_36 : decode cX5_read 36 = .ok (.ifCond .ne 21, 3) := by decide +kernel
theorem dX5_read_39 : decode cX5_read 39 = .ok (.aload_n 0, 1) := by decide +kernel
theorem dX5_read_40 : decode cX5_read 40 = .ok (.getfield 18, 3) := by decide +kernel
theorem dX5_read_43 : decode cX5_read 43 = .ok (.ifCond .eq 14, 3) := by decide +kernel
theorem dX5_read_46 : decode cX5_read 46 = .ok (.aload_n 0, 1) := by decide +kernel
theorem dX5_read_47 : decode cX5_read 47 = .ok (.aload_n 1, 1) := by decide +kernel
theorem dX5_read_48 : decode cX5_read 48 = .ok (.invokevirtual 42, 3) := by decide +kernel
theorem dX5_read_51 : decode cX5_read 51 = .ok (.iinc 2 1, 3) := by decide +kernel
theorem dX5_read_54 : decode cX5_read 54 = .ok (.goto (-29), 3) := by decide +kernel
theorem dX5_read_57 : decode cX5_read 57 = .ok (.return_, 1) := by decide +kernel
theorem dX5_line_0 : decode cX5_line 0 = .ok (.aload_n 1, 1) := by decide +kernel
theorem dX5_line_1 : decode cX5_line 1 = .ok (.getfield 46, 3) := by decide +kernel
theorem dX5_line_4 : decode cX5_line 4 = .ok (.ifCond .ne 11, 3) := by decide +kernel
theorem dX5_line_7 : decode cX5_line 7 = .ok (.aload_n 0, 1) := by decide +kernel
theorem dX5_line_8 : decode cX5_line 8 = .ok (.aload_n 1, 1) := by decide +kernel
theorem dX5_line_9 : decode cX5_line 9 = .ok (.invokevirtual 49, 3) := by decide +kernel
theorem dX5_line_12 : decode cX5_line 12 = .ok (.goto 97, 3) := by decide +kernel
theorem dX5_line_15 : decode cX5_line 15 = .ok (.aload_n 0, 1) := by decide +kernel
theorem dX5_line_16 : decode cX5_line 16 = .ok (.ldc 52, 2) := by decide +kernel
theorem dX5_line_18 : decode cX5_line 18 = .ok (.invokevirtual 54, 3) := by decide +kernel
theorem dX5_line_21 : decode cX5_line 21 = .ok (.ifCond .eq 11, 3) := by decide +kernel
theorem dX5_line_24 : decode cX5_line 24 = .ok (.aload_n 0, 1) := by decide +kernel
theorem dX5_line_25 : decode cX5_line 25 = .ok (.aload_n 1, 1) := by decide +kernel
theorem dX5_line_26 : decode cX5_line 26 = .ok (.invokevirtual 58, 3) := by decide +kernel
theorem dX5_line_29 : decode cX5_line 29 = .ok (.goto 80, 3) := by decide +kernel
theorem dX5_line_32 : decode cX5_line 32 = .ok (.aload_n 0, 1) := by decide +kernel
theorem dX5_line_33 : decode cX5_line 33 = .ok (.ldc 61, 2) := by decide +kernel
theorem dX5_line_35 : decode cX5_line 35 = .ok (.invokevirtual 54, 3) := by decide +kernel
theorem dX5_line_38 : decode cX5_line 38 = .ok (.ifCond .eq 11, 3) := by decide +kernel
theorem dX5_line_41 : decode cX5_line 41 = .ok (.aload_n 0, 1) := by decide +kernel
theorem dX5_line_42 : decode cX5_line 42 = .ok (.aload_n 1, 1) := by decide +kernel
theorem dX5_line_43 : decode cX5_line 43 = .ok (.invokevirtual 63, 3) := by decide +kernel
theorem dX5_line_46 : decode cX5_line 46 = .ok (.goto 63, 3) := by decide +kernel
theorem dX5_line_49 : decode cX5_line 49 = .ok (.aload_n 0, 1) := by decide +kernel
theorem dX5_line_50 : decode cX5_line 50 = .ok (.ldc 66, 2) := by decide +kernel
theorem dX5_line_52 : decode cX5_line 52 = .ok (.invokevirtual 54, 3) := by decide +kernel
theorem dX5_line_55 : decode cX5_line 55 = .ok (.ifCond .eq 11, 3) := by decide +kernel
theorem dX5_line_58 : decode cX5_line 58 = .ok (.aload_n 0, 1) := by decide +kernel
theorem dX5_line_59 : decode cX5_line 59 = .ok (.aload_n 1, 1) := by decide +kernel
theorem dX5_line_60 : decode cX5_line 60 = .ok (.invokevirtual 68, 3) := by decide +kernel
theorem dX5_line_63 : decode cX5_line 63 = .ok (.goto 46, 3) := by decide +kernel
theorem dX5_line_66 : decode cX5_line 66 = .ok (.aload_n 0, 1) := by decide +kernel
theorem dX5_line_67 : decode cX5_line 67 = .ok (.ldc 71, 2) := by decide +kernel
theorem dX5_line_69 : decode cX5_line 69 = .ok (.invokevirtual 54, 3) := by decide +kernel
theorem dX5_line_72 : decode cX5_line 72 = .ok (.ifCond .eq 11, 3) := by decide +kernel
theorem dX5_line_75 : decode cX5_line 75 = .ok (.aload_n 0, 1) := by decide +kernel
theorem dX5_line_76 : decode cX5_line 76 = .ok (.aload_n 1, 1) := by decide +kernel
theorem dX5_line_77 : decode cX5_line 77 = .ok (.invokevirtual 73, 3) := by decide +kernel
theorem dX5_line_80 : decode cX5_line 80 = .ok (.goto 29, 3) := by decide +kernel
theorem dX5_line_83 : decode cX5_line 83 = .ok (.aload_n 0, 1) := by decide +kernel
theorem dX5_line_84 : decode cX5_line 84 = .ok (.ldc 76, 2) := by decide +kernel
theorem dX5_line_86 : decode cX5_line 86 = .ok (.invokevirtual 54, 3) := by decide +kernel
theorem dX5_line_89 : decode cX5_line 89 = .ok (.ifCond .eq 15, 3) := by decide +kernel
theorem dX5_line_92 : decode cX5_line 92 = .ok (.aload_n 0, 1) := by decide +kernel
theorem dX5_line_93 : decode cX5_line 93 = .ok (.aload_n 1, 1) := by decide +kernel
theorem dX5_line_94 : decode cX5_line 94 = .ok (.aload_n 1, 1) := by decide +kernel
theorem dX5_line_95 : decode cX5_line 95 = .ok (.getfield 78, 3) := by decide +kernel
theorem dX5_line_98 : decode cX5_line 98 = .ok (.invokevirtual 82, 3) := by decide +kernel
theorem dX5_line_101 : decode cX5_line 101 = .ok (.goto 8, 3) := by decide +kernel
theorem dX5_line_104 : decode cX5_line 104 = .ok (.aload_n 0, 1) := by decide +kernel
theorem dX5_line_105 : decode cX5_line 105 = .ok (.iconst 1, 1) := by decide +kernel
theorem dX5_line_106 : decode cX5_line 106 = .ok (.invokevirtual 86, 3) := by decide +kernel
theorem dX5_line_109 : decode cX5_line 109 = .ok (.aload_n 0, 1) := by decide +kernel
theorem dX5_line_110 : decode cX5_line 110 = .ok (.invokevirtual 90, 3) := by decide +kernel
theorem dX5_line_113 : decode cX5_line 113 = .ok (.aload_n 1, 1) := by decide +kernel
theorem dX5_line_114 : decode cX5_line 114 = .ok (.dup, 1) := by decide +kernel
theorem dX5_line_115 : decode cX5_line 115 = .ok (.getfield 46, 3) := by decide +kernel
theorem dX5_line_118 : decode cX5_line 118 = .ok (.iconst 1, 1) := by decide +kernel
theorem dX5_line_119 : decode cX5_line 119 = .ok (.iadd, 1) := by decide +kernel
theorem dX5_line_120 : decode cX5_line 120 = .ok (.putfield 46, 3) := by decide +kernel
theorem dX5_line_123 : decode cX5_line 123 = .ok (.return_, 1) := by decide +kernel
theorem dX5_dukedomLine_0 : decode cX5_dukedomLine 0 = .ok (.aload_n 0, 1) := by decide +kernel
theorem dX5_dukedomLine_1 : decode cX5_dukedomLine 1 = .ok (.ldc 93, 2) := by decide +kernel
theorem dX5_dukedomLine_3 : decode cX5_dukedomLine 3 = .ok (.invokevirtual 95, 3) := by decide +kernel
theorem dX5_dukedomLine_6 : decode cX5_dukedomLine 6 = .ok (.aload_n 0, 1) := by decide +kernel
theorem dX5_dukedomLine_7 : decode cX5_dukedomLine 7 = .ok (.ldc 99, 2) := by decide +kernel
theorem dX5_dukedomLine_9 : decode cX5_dukedomLine 9 = .ok (.invokevirtual 95, 3) := by decide +kernel
theorem dX5_dukedomLine_12 : decode cX5_dukedomLine 12 = .ok (.aload_n 1, 1) := by decide +kernel
theorem dX5_dukedomLine_13 : decode cX5_dukedomLine 13 = .ok (.aload_n 0, 1) := by decide +kernel
theorem dX5_dukedomLine_14 : decode cX5_dukedomLine 14 = .ok (.iconst 1, 1) := by decide +kernel
theorem dX5_dukedomLine_15 : decode cX5_dukedomLine 15 = .ok (.bipush 16, 2) := by decide +kernel
theorem dX5_dukedomLine_17 : decode cX5_dukedomLine 17 = .ok (.invokevirtual 101, 3) := by decide +kernel
theorem dX5_dukedomLine_20 : decode cX5_dukedomLine 20 = .ok (.putfield 105, 3) := by decide +kernel
theorem dX5_dukedomLine_23 : decode cX5_dukedomLine 23 = .ok (.aload_n 0, 1) := by decide +kernel
theorem dX5_dukedomLine_24 : decode cX5_dukedomLine 24 = .ok (.ldc 107, 2) := by decide +kernel
theorem dX5_dukedomLine_26 : decode cX5_dukedomLine 26 = .ok (.invokevirtual 95, 3) := by decide +kernel
theorem dX5_dukedomLine_29 : decode cX5_dukedomLine 29 = .ok (.aload_n 1, 1) := by decide +kernel
theorem dX5_dukedomLine_30 : decode cX5_dukedomLine 30 = .ok (.aload_n 0, 1) := by decide +kernel
theorem dX5_dukedomLine_31 : decode cX5_dukedomLine 31 = .ok (.iconst 0, 1) := by decide +kernel
theorem dX5_dukedomLine_32 : decode cX5_dukedomLine 32 = .ok (.iconst 3, 1) := by decide +kernel
theorem dX5_dukedomLine_33 : decode cX5_dukedomLine 33 = .ok (.invokevirtual 101, 3) := by decide +kernel
theorem dX5_dukedomLine_36 : decode cX5_dukedomLine 36 = .ok (.putfield 109, 3) := by decide +kernel
theorem dX5_dukedomLine_39 : decode cX5_dukedomLine 39 = .ok (.aload_n 0, 1) := by decide +kernel
theorem dX5_dukedomLine_40 : decode cX5_dukedomLine 40 = .ok (.ldc 111, 2) := by decide +kernel
theorem dX5_dukedomLine_42 : decode cX5_dukedomLine 42 = .ok (.invokevirtual 95, 3) := by decide +kernel
theorem dX5_dukedomLine_45 : decode cX5_dukedomLine 45 = .ok (.aload_n 1, 1) := by decide +kernel
theorem dX5_dukedomLine_46 : decode cX5_dukedomLine 46 = .ok (.aload_n 0, 1) := by decide +kernel
theorem dX5_dukedomLine_47 : decode cX5_dukedomLine 47 = .ok (.iconst 0, 1) := by decide +kernel
theorem dX5_dukedomLine_48 : decode cX5_dukedomLine 48 = .ok (.bipush 10, 2) := by decide +kernel
theorem dX5_dukedomLine_50 : decode cX5_dukedomLine 50 = .ok (.invokevirtual 101, 3) := by decide +kernel
theorem dX5_dukedomLine_53 : decode cX5_dukedomLine 53 = .ok (.putfield 113, 3) := by decide +kernel
theorem dX5_dukedomLine_56 : decode cX5_dukedomLine 56 = .ok (.return_, 1) := by decide +kernel
theorem dX5_rankLine_0 : decode cX5_rankLine 0 = .ok (.aload_n 1, 1) := by decide +kernel
theorem dX5_rankLine_1 : decode cX5_rankLine 1 = .ok (.getfield 115, 3) := by decide +kernel
theorem dX5_rankLine_4 : decode cX5_rankLine 4 = .ok (.bipush 6, 2) := by decide +kernel
theorem dX5_rankLine_6 : decode cX5_rankLine 6 = .ok (.if_icmp .lt 9, 3) := by decide +kernel
theorem dX5_rankLine_9 : decode cX5_rankLine 9 = .ok (.aload_n 0, 1) := by decide +kernel
theorem dX5_rankLine_10 : decode cX5_rankLine 10 = .ok (.iconst 3, 1) := by decide +kernel
theorem dX5_rankLine_11 : decode cX5_rankLine 11 = .ok (.invokevirtual 86, 3) := by decide +kernel
theorem dX5_rankLine_14 : decode cX5_rankLine 14 = .ok (.return_, 1) := by decide +kernel
theorem dX5_rankLine_15 : decode cX5_rankLine 15 = .ok (.aload_n 0, 1) := by decide +kernel
theorem dX5_rankLine_16 : decode cX5_rankLine 16 = .ok (.ldc 52, 2) := by decide +kernel
theorem dX5_rankLine_18 : decode cX5_rankLine 18 = .ok (.invokevirtual 95, 3) := by decide +kernel
theorem dX5_rankLine_21 : decode cX5_rankLine 21 = .ok (.aload_n 0, 1) := by decide +kernel
theorem dX5_rankLine_22 : decode cX5_rankLine 22 = .ok (.ldc 118, 2) := by decide +kernel
theorem dX5_rankLine_24 : decode cX5_rankLine 24 = .ok (.invokevirtual 95, 3) := by decide +kernel
theorem dX5_rankLine_27 : decode cX5_rankLine 27 = .ok (.aload_n 1, 1) := by decide +kernel
theorem dX5_rankLine_28 : decode cX5_rankLine 28 = .ok (.getfield 120, 3) := by decide +kernel
theorem dX5_rankLine_31 : decode cX5_rankLine 31 = .ok (.aload_n 1, 1) := by decide +kernel
theorem dX5_rankLine_32 : decode cX5_rankLine 32 = .ok (.getfield 115, 3) := by decide +kernel
theorem dX5_rankLine_35 : decode cX5_rankLine 35 = .ok (.aload_n 0, 1) := by decide +kernel
theorem dX5_rankLine_36 : decode cX5_rankLine 36 = .ok (.iconst 1, 1) := by decide +kernel
theorem dX5_rankLine_37 : decode cX5_rankLine 37 = .ok (.bipush 9, 2) := by decide +kernel
theorem dX5_rankLine_39 : decode cX5_rankLine 39 = .ok (.invokevirtual 101, 3) := by decide +kernel
theorem dX5_rankLine_42 : decode cX5_rankLine 42 = .ok (.iastore, 1) := by decide +kernel
theorem dX5_rankLine_43 : decode cX5_rankLine 43 = .ok (.aload_n 0, 1) := by decide +kernel
theorem dX5_rankLine_44 : decode cX5_rankLine 44 = .ok (.ldc 123, 2) := by decide +kernel
theorem dX5_rankLine_46 : decode cX5_rankLine 46 = .ok (.invokevirtual 95, 3) := by decide +kernel
theorem dX5_rankLine_49 : decode cX5_rankLine 49 = .ok (.aload_n 1, 1) := by decide +kernel
theorem dX5_rankLine_50 : decode cX5_rankLine 50 = .ok (.getfield 125, 3) := by decide +kernel
theorem dX5_rankLine_53 : decode cX5_rankLine 53 = .ok (.aload_n 1, 1) := by decide +kernel
theorem dX5_rankLine_54 : decode cX5_rankLine 54 = .ok (.getfield 115, 3) := by decide +kernel
theorem dX5_rankLine_57 : decode cX5_rankLine 57 = .ok (.aload_n 0, 1) := by decide +kernel
theorem dX5_rankLine_58 : decode cX5_rankLine 58 = .ok (.iconst 0, 1) := by decide +kernel
theorem dX5_rankLine_59 : decode cX5_rankLine 59 = .ok (.bipush 99, 2) := by decide +kernel
theorem dX5_rankLine_61 : decode cX5_rankLine 61 = .ok (.invokevirtual 101, 3) := by decide +kernel
theorem dX5_rankLine_64 : decode cX5_rankLine 64 = .ok (.iastore, 1) := by decide +kernel
theorem dX5_rankLine_65 : decode cX5_rankLine 65 = .ok (.aload_n 0, 1) := by decide +kernel
theorem dX5_rankLine_66 : decode cX5_rankLine 66 = .ok (.ldc 128, 2) := by decide +kernel
theorem dX5_rankLine_68 : decode cX5_rankLine 68 = .ok (.invokevirtual 95, 3) := by decide +kernel
theorem dX5_rankLine_71 : decode cX5_rankLine 71 = .ok (.aload_n 1, 1) := by decide +kernel
theorem dX5_rankLine_72 : decode cX5_rankLine 72 = .ok (.getfield 130, 3) := by decide +kernel
theorem dX5_rankLine_75 : decode cX5_rankLine 75 = .ok (.aload_n 1, 1) := by decide +kernel
theorem dX5_rankLine_76 : decode cX5_rankLine 76 = .ok (.getfield 115, 3) := by decide +kernel
theorem dX5_rankLine_79 : decode cX5_rankLine 79 = .ok (.aload_n 0, 1) := by decide +kernel
theorem dX5_rankLine_80 : decode cX5_rankLine 80 = .ok (.iconst 0, 1) := by decide +kernel
theorem dX5_rankLine_81 : decode cX5_rankLine 81 = .ok (.bipush 20, 2) := by decide +kernel
theorem dX5_rankLine_83 : decode cX5_rankLine 83 = .ok (.invokevirtual 101, 3) := by decide +kernel
theorem dX5_rankLine_86 : decode cX5_rankLine 86 = .ok (.iastore, 1) := by decide +kernel
theorem dX5_rankLine_87 : decode cX5_rankLine 87 = .ok (.aload_n 0, 1) := by decide +kernel
theorem dX5_rankLine_88 : decode cX5_rankLine 88 = .ok (.ldc 132, 2) := by decide +kernel
theorem dX5_rankLine_90 : decode cX5_rankLine 90 = .ok (.invokevirtual 95, 3) := by decide +kernel
theorem dX5_rankLine_93 : decode cX5_rankLine 93 = .ok (.aload_n 1, 1) := by decide +kernel
theorem dX5_rankLine_94 : decode cX5_rankLine 94 = .ok (.getfield 134, 3) := by decide +kernel
theorem dX5_rankLine_97 : decode cX5_rankLine 97 = .ok (.aload_n 1, 1) := by decide +kernel
theorem dX5_rankLine_98 : decode cX5_rankLine 98 = .ok (.getfield 115, 3) := by decide +kernel
theorem dX5_rankLine_101 : decode cX5_rankLine 101 = .ok (.aload_n 0, 1) := by decide +kernel
theorem dX5_rankLine_102 : decode cX5_rankLine 102 = .ok (.iconst 0, 1) := by decide +kernel
theorem dX5_rankLine_103 : decode cX5_rankLine 103 = .ok (.bipush 30, 2) := by decide +kernel
theorem dX5_rankLine_105 : decode cX5_rankLine 105 = .ok (.invokevirtual 101, 3) := by decide +kernel
theorem dX5_rankLine_108 : decode cX5_rankLine 108 = .ok (.iastore, 1) := by decide +kernel
theorem dX5_rankLine_109 : decode cX5_rankLine 109 = .ok (.aload_n 1, 1) := by decide +kernel
theorem dX5_rankLine_110 : decode cX5_rankLine 110 = .ok (.dup, 1) := by decide +kernel
theorem dX5_rankLine_111 : decode cX5_rankLine 111 = .ok (.getfield 115, 3) := by decide +kernel
theorem dX5_rankLine_114 : decode cX5_rankLine 114 = .ok (.iconst 1, 1) := by decide +kernel
theorem dX5_rankLine_115 : decode cX5_rankLine 115 = .ok (.iadd, 1) := by decide +kernel
theorem dX5_rankLine_116 : decode cX5_rankLine 116 = .ok (.putfield 115, 3) := by decide +kernel
theorem dX5_rankLine_119 : decode cX5_rankLine 119 = .ok (.return_, 1) := by decide +kernel
theorem dX5_plankLine_0 : decode cX5_plankLine 0 = .ok (.aload_n 1, 1) := by decide +kernel
theorem dX5_plankLine_1 : decode cX5_plankLine 1 = .ok (.getfield 136, 3) := by decide +kernel
theorem dX5_plankLine_4 : decode cX5_plankLine 4 = .ok (.iconst 5, 1) := by decide +kernel
theorem dX5_plankLine_5 : decode cX5_plankLine 5 = .ok (.if_icmp .lt 9, 3) := by decide +kernel
theorem dX5_plankLine_8 : decode cX5_plankLine 8 = .ok (.aload_n 0, 1) := by decide +kernel
theorem dX5_plankLine_9 : decode cX5_plankLine 9 = .ok (.iconst 3, 1) := by decide +kernel
theorem dX5_plankLine_10 : decode cX5_plankLine 10 = .ok (.invokevirtual 86, 3) := by decide +kernel
theorem dX5_plankLine_13 : decode cX5_plankLine 13 = .ok (.return_, 1) := by decide +kernel
theorem dX5_plankLine_14 : decode cX5_plankLine 14 = .ok (.aload_n 0, 1) := by decide +kernel
theorem dX5_plankLine_15 : decode cX5_plankLine 15 = .ok (.ldc 61, 2) := by decide +kernel
theorem dX5_plankLine_17 : decode cX5_plankLine 17 = .ok (.invokevirtual 95, 3) := by decide +kernel
theorem dX5_plankLine_20 : decode cX5_plankLine 20 = .ok (.aload_n 1, 1) := by decide +kernel
theorem dX5_plankLine_21 : decode cX5_plankLine 21 = .ok (.getfield 139, 3) := by decide +kernel
theorem dX5_plankLine_24 : decode cX5_plankLine 24 = .ok (.aload_n 1, 1) := by decide +kernel
theorem dX5_plankLine_25 : decode cX5_plankLine 25 = .ok (.getfield 136, 3) := by decide +kernel
theorem dX5_plankLine_28 : decode cX5_plankLine 28 = .ok (.aload_n 0, 1) := by decide +kernel
theorem dX5_plankLine_29 : decode cX5_plankLine 29 = .ok (.iconst 1, 1) := by decide +kernel
theorem dX5_plankLine_30 : decode cX5_plankLine 30 = .ok (.bipush 9, 2) := by decide +kernel
theorem dX5_plankLine_32 : decode cX5_plankLine 32 = .ok (.invokevirtual 101, 3) := by decide +kernel
theorem dX5_plankLine_35 : decode cX5_plankLine 35 = .ok (.iastore, 1) := by decide +kernel
theorem dX5_plankLine_36 : decode cX5_plankLine 36 = .ok (.aload_n 0, 1) := by decide +kernel
theorem dX5_plankLine_37 : decode cX5_plankLine 37 = .ok (.ldc 142, 2) := by decide +kernel
theorem dX5_plankLine_39 : decode cX5_plankLine 39 = .ok (.invokevirtual 95, 3) := by decide +kernel
theorem dX5_plankLine_42 : decode cX5_plankLine 42 = .ok (.aload_n 1, 1) := by decide +kernel
theorem dX5_plankLine_43 : decode cX5_plankLine 43 = .ok (.getfield 144, 3) := by decide +kernel
theorem dX5_plankLine_46 : decode cX5_plankLine 46 = .ok (.aload_n 1, 1) := by decide +kernel
theorem dX5_plankLine_47 : decode cX5_plankLine 47 = .ok (.getfield 136, 3) := by decide +kernel
theorem dX5_plankLine_50 : decode cX5_plankLine 50 = .ok (.aload_n 0, 1) := by decide +kernel
theorem dX5_plankLine_51 : decode cX5_plankLine 51 = .ok (.iconst 0, 1) := by decide +kernel
theorem dX5_plankLine_52 : decode cX5_plankLine 52 = .ok (.aload_n 1, 1) := by decide +kernel
theorem dX5_plankLine_53 : decode cX5_plankLine 53 = .ok (.getfield 115, 3) := by decide +kernel
theorem dX5_plankLine_56 : decode cX5_plankLine 56 = .ok (.iconst 1, 1) := by decide +kernel
theorem dX5_plankLine_57 : decode cX5_plankLine 57 = .ok (.isub, 1) := by decide +kernel
theorem dX5_plankLine_58 : decode cX5_plankLine 58 = .ok (.invokevirtual 101, 3) := by decide +kernel
theorem dX5_plankLine_61 : decode cX5_plankLine 61 = .ok (.iastore, 1) := by decide +kernel
theorem dX5_plankLine_62 : decode cX5_plankLine 62 = .ok (.aload_n 1, 1) := by decide +kernel
theorem dX5_plankLine_63 : decode cX5_plankLine 63 = .ok (.dup, 1) := by decide +kernel
theorem dX5_plankLine_64 : decode cX5_plankLine 64 = .ok (.getfield 136, 3) := by decide +kernel
theorem dX5_plankLine_67 : decode cX5_plankLine 67 = .ok (.iconst 1, 1) := by decide +kernel
theorem dX5_plankLine_68 : decode cX5_plankLine 68 = .ok (.iadd, 1) := by decide +kernel
theorem dX5_plankLine_69 : decode cX5_plankLine 69 = .ok (.putfield 136, 3) := by decide +kernel
theorem dX5_plankLine_72 : decode cX5_plankLine 72 = .ok (.return_, 1) := by decide +kernel
theorem dX5_rainLine_0 : decode cX5_rainLine 0 = .ok (.aload_n 1, 1) := by decide +kernel
theorem dX5_rainLine_1 : decode cX5_rainLine 1 = .ok (.getfield 147, 3) := by decide +kernel
theorem dX5_rainLine_4 : decode cX5_rainLine 4 = .ok (.iconst 5, 1) := by decide +kernel
theorem dX5_rainLine_5 : decode cX5_rainLine 5 = .ok (.if_icmp .lt 9, 3) := by decide +kernel
theorem dX5_rainLine_8 : decode cX5_rainLine 8 = .ok (.aload_n 0, 1) := by decide +kernel
theorem dX5_rainLine_9 : decode cX5_rainLine 9 = .ok (.iconst 3, 1) := by decide +kernel
theorem dX5_rainLine_10 : decode cX5_rainLine 10 = .ok (.invokevirtual 86, 3) := by decide +kernel
theorem dX5_rainLine_13 : decode cX5_rainLine 13 = .ok (.return_, 1) := by decide +kernel
theorem dX5_rainLine_14 : decode cX5_rainLine 14 = .ok (.aload_n 0, 1) := by decide +kernel
theorem dX5_rainLine_15 : decode cX5_rainLine 15 = .ok (.ldc 66, 2) := by decide +kernel
theorem dX5_rainLine_17 : decode cX5_rainLine 17 = .ok (.invokevirtual 95, 3) := by decide +kernel
theorem dX5_rainLine_20 : decode cX5_rainLine 20 = .ok (.aload_n 0, 1) := by decide +kernel
theorem dX5_rainLine_21 : decode cX5_rainLine 21 = .ok (.iconst 1, 1) := by decide +kernel
theorem dX5_rainLine_22 : decode cX5_rainLine 22 = .ok (.bipush 40, 2) := by decide +kernel
theorem dX5_rainLine_24 : decode cX5_rainLine 24 = .ok (.invokevirtual 101, 3) := by decide +kernel
theorem dX5_rainLine_27 : decode cX5_rainLine 27 = .ok (.istore_n 2, 1) := by decide +kernel
theorem dX5_rainLine_28 : decode cX5_rainLine 28 = .ok (.aload_n 0, 1) := by decide +kernel
theorem dX5_rainLine_29 : decode cX5_rainLine 29 = .ok (.ldc 150, 2) := by decide +kernel
theorem dX5_rainLine_31 : decode cX5_rainLine 31 = .ok (.invokevirtual 95, 3) := by decide +kernel
theorem dX5_rainLine_34 : decode cX5_rainLine 34 = .ok (.aload_n 1, 1) := by decide +kernel
theorem dX5_rainLine_35 : decode cX5_rainLine 35 = .ok (.getfield 152, 3) := by decide +kernel
theorem dX5_rainLine_38 : decode cX5_rainLine 38 = .ok (.aload_n 0, 1) := by decide +kernel
theorem dX5_rainLine_39 : decode cX5_rainLine 39 = .ok (.iconst 0, 1) := by decide +kernel
theorem dX5_rainLine_40 : decode cX5_rainLine 40 = .ok (.bipush 15, 2) := by decide +kernel
theorem dX5_rainLine_42 : decode cX5_rainLine 42 = .ok (.invokevirtual 101, 3) := by decide +kernel
theorem dX5_rainLine_45 : decode cX5_rainLine 45 = .ok (.dup2, 1) := by decide +kernel
theorem dX5_rainLine_46 : decode cX5_rainLine 46 = .ok (.iaload, 1) := by decide +kernel
theorem dX5_rainLine_47 : decode cX5_rainLine 47 = .ok (.iload_n 2, 1) := by decide +kernel
theorem dX5_rainLine_48 : decode cX5_rainLine 48 = .ok (.iadd, 1) := by decide +kernel
theorem dX5_rainLine_49 : decode cX5_rainLine 49 = .ok (.iastore, 1) := by decide +kernel
theorem dX5_rainLine_50 : decode cX5_rainLine 50 = .ok (.aload_n 1, 1) := by decide +kernel
theorem dX5_rainLine_51 : decode cX5_rainLine 51 = .ok (.dup, 1) := by decide +kernel
theorem dX5_rainLine_52 : decode cX5_rainLine 52 = .ok (.getfield 147, 3) := by decide +kernel
theorem dX5_rainLine_55 : decode cX5_rainLine 55 = .ok (.iconst 1, 1) := by decide +kernel
theorem dX5_rainLine_56 : decode cX5_rainLine 56 = .ok (.iadd, 1) := by decide +kernel
theorem dX5_rainLine_57 : decode cX5_rainLine 57 = .ok (.putfield 147, 3) := by decide +kernel
theorem dX5_rainLine_60 : decode cX5_rainLine 60 = .ok (.return_, 1) := by decide +kernel
theorem dX5_frostLine_0 : decode cX5_frostLine 0 = .ok (.aload_n 1, 1) := by decide +kernel
theorem dX5_frostLine_1 : decode cX5_frostLine 1 = .ok (.getfield 155, 3) := by decide +kernel
theorem dX5_frostLine_4 : decode cX5_frostLine 4 = .ok (.iconst 4, 1) := by decide +kernel
theorem dX5_frostLine_5 : decode cX5_frostLine 5 = .ok (.if_icmp .lt 9, 3) := by decide +kernel
theorem dX5_frostLine_8 : decode cX5_frostLine 8 = .ok (.aload_n 0, 1) := by decide +kernel
theorem dX5_frostLine_9 : decode cX5_frostLine 9 = .ok (.iconst 3, 1) := by decide +kernel
theorem dX5_frostLine_10 : decode cX5_frostLine 10 = .ok (.invokevirtual 86, 3) := by decide +kernel
theorem dX5_frostLine_13 : decode cX5_frostLine 13 = .ok (.return_, 1) := by decide +kernel
theorem dX5_frostLine_14 : decode cX5_frostLine 14 = .ok (.aload_n 0, 1) := by decide +kernel
theorem dX5_frostLine_15 : decode cX5_frostLine 15 = .ok (.ldc 71, 2) := by decide +kernel
theorem dX5_frostLine_17 : decode cX5_frostLine 17 = .ok (.invokevirtual 95, 3) := by decide +kernel
theorem dX5_frostLine_20 : decode cX5_frostLine 20 = .ok (.aload_n 0, 1) := by decide +kernel
theorem dX5_frostLine_21 : decode cX5_frostLine 21 = .ok (.ldc 150, 2) := by decide +kernel
theorem dX5_frostLine_23 : decode cX5_frostLine 23 = .ok (.invokevirtual 95, 3) := by decide +kernel
theorem dX5_frostLine_26 : decode cX5_frostLine 26 = .ok (.aload_n 1, 1) := by decide +kernel
theorem dX5_frostLine_27 : decode cX5_frostLine 27 = .ok (.dup, 1) := by decide +kernel
theorem dX5_frostLine_28 : decode cX5_frostLine 28 = .ok (.getfield 158, 3) := by decide +kernel
theorem dX5_frostLine_31 : decode cX5_frostLine 31 = .ok (.iconst 1, 1) := by decide +kernel
theorem dX5_frostLine_32 : decode cX5_frostLine 32 = .ok (.aload_n 0, 1) := by decide +kernel
theorem dX5_frostLine_33 : decode cX5_frostLine 33 = .ok (.iconst 0, 1) := by decide +kernel
theorem dX5_frostLine_34 : decode cX5_frostLine 34 = .ok (.bipush 15, 2) := by decide +kernel
theorem dX5_frostLine_36 : decode cX5_frostLine 36 = .ok (.invokevirtual 101, 3) := by decide +kernel
theorem dX5_frostLine_39 : decode cX5_frostLine 39 = .ok (.ishl, 1) := by decide +kernel
theorem dX5_frostLine_40 : decode cX5_frostLine 40 = .ok (.ior, 1) := by decide +kernel
theorem dX5_frostLine_41 : decode cX5_frostLine 41 = .ok (.putfield 158, 3) := by decide +kernel
theorem dX5_frostLine_44 : decode cX5_frostLine 44 = .ok (.aload_n 1, 1) := by decide +kernel
theorem dX5_frostLine_45 : decode cX5_frostLine 45 = .ok (.dup, 1) := by decide +kernel
theorem dX5_frostLine_46 : decode cX5_frostLine 46 = .ok (.getfield 155, 3) := by decide +kernel
theorem dX5_frostLine_49 : decode cX5_frostLine 49 = .ok (.iconst 1, 1) := by decide +kernel
theorem dX5_frostLine_50 : decode cX5_frostLine 50 = .ok (.iadd, 1) := by decide +kernel
theorem dX5_frostLine_51 : decode cX5_frostLine 51 = .ok (.putfield 155, 3) := by decide +kernel
theorem dX5_frostLine_54 : decode cX5_frostLine 54 = .ok (.return_, 1) := by decide +kernel
theorem dX5_inviteLine_0 : decode cX5_inviteLine 0 = .ok (.aload_n 2, 1) := by decide +kernel
theorem dX5_inviteLine_1 : decode cX5_inviteLine 1 = .ok (.getfield 161, 3) := by decide +kernel
theorem dX5_inviteLine_4 : decode cX5_inviteLine 4 = .ok (.bipush 8, 2) := by decide +kernel
theorem dX5_inviteLine_6 : decode cX5_inviteLine 6 = .ok (.if_icmp .lt 9, 3) := by decide +kernel
theorem dX5_inviteLine_9 : decode cX5_inviteLine 9 = .ok (.aload_n 0, 1) := by decide +kernel
theorem dX5_inviteLine_10 : decode cX5_inviteLine 10 = .ok (.iconst 3, 1) := by decide +kernel
theorem dX5_inviteLine_11 : decode cX5_inviteLine 11 = .ok (.invokevirtual 86, 3) := by decide +kernel
theorem dX5_inviteLine_14 : decode cX5_inviteLine 14 = .ok (.return_, 1) := by decide +kernel
theorem dX5_inviteLine_15 : decode cX5_inviteLine 15 = .ok (.aload_n 0, 1) := by decide +kernel
theorem dX5_inviteLine_16 : decode cX5_inviteLine 16 = .ok (.ldc 76, 2) := by decide +kernel
theorem dX5_inviteLine_18 : decode cX5_inviteLine 18 = .ok (.invokevirtual 95, 3) := by decide +kernel
theorem dX5_inviteLine_21 : decode cX5_inviteLine 21 = .ok (.aload_n 0, 1) := by decide +kernel
theorem dX5_inviteLine_22 : decode cX5_inviteLine 22 = .ok (.iconst 0, 1) := by decide +kernel
theorem dX5_inviteLine_23 : decode cX5_inviteLine 23 = .ok (.aload_n 1, 1) := by decide +kernel
theorem dX5_inviteLine_24 : decode cX5_inviteLine 24 = .ok (.getfield 115, 3) := by decide +kernel
theorem dX5_inviteLine_27 : decode cX5_inviteLine 27 = .ok (.iconst 1, 1) := by decide +kernel
theorem dX5_inviteLine_28 : decode cX5_inviteLine 28 = .ok (.isub, 1) := by decide +kernel
theorem dX5_inviteLine_29 : decode cX5_inviteLine 29 = .ok (.invokevirtual 101, 3) := by decide +kernel
theorem dX5_inviteLine_32 : decode cX5_inviteLine 32 = .ok (.istore_n 3, 1) := by decide +kernel
theorem dX5_inviteLine_33 : decode cX5_inviteLine 33 = .ok (.aload_n 0, 1) := by decide +kernel
theorem dX5_inviteLine_34 : decode cX5_inviteLine 34 = .ok (.getfield 9, 3) := by decide +kernel
theorem dX5_inviteLine_37 : decode cX5_inviteLine 37 = .ok (.ifCond .ne 24, 3) := by decide +kernel
theorem dX5_inviteLine_40 : decode cX5_inviteLine 40 = .ok (.aload_n 0, 1) := by decide +kernel
theorem dX5_inviteLine_41 : decode cX5_inviteLine 41 = .ok (.getfield 18, 3) := by decide +kernel
theorem dX5_inviteLine_44 : decode cX5_inviteLine 44 = .ok (.iconst 2, 1) := by decide +kernel
theorem dX5_inviteLine_45 : decode cX5_inviteLine 45 = .ok (.if_icmp .ne 16, 3) := by decide +kernel
theorem dX5_inviteLine_48 : decode cX5_inviteLine 48 = .ok (.aload_n 0, 1) := by decide +kernel
theorem dX5_inviteLine_49 : decode cX5_inviteLine 49 = .ok (.getfield 27, 3) := by decide +kernel
theorem dX5_inviteLine_52 : decode cX5_inviteLine 52 = .ok (.iload_n 3, 1) := by decide +kernel
theorem dX5_inviteLine_53 : decode cX5_inviteLine 53 = .ok (.if_icmp .ne 8, 3) := by decide +kernel
theorem dX5_inviteLine_56 : decode cX5_inviteLine 56 = .ok (.aload_n 0, 1) := by decide +kernel
theorem dX5_inviteLine_57 : decode cX5_inviteLine 57 = .ok (.iconst 2, 1) := by decide +kernel
theorem dX5_inviteLine_58 : decode cX5_inviteLine 58 = .ok (.invokevirtual 86, 3) := by decide +kernel
theorem dX5_inviteLine_61 : decode cX5_inviteLine 61 = .ok (.aload_n 0, 1) := by decide +kernel
theorem dX5_inviteLine_62 : decode cX5_inviteLine 62 = .ok (.iconst 0, 1) := by decide +kernel
theorem dX5_inviteLine_63 : decode cX5_inviteLine 63 = .ok (.aload_n 1, 1) := by decide +kernel
theorem dX5_inviteLine_64 : decode cX5_inviteLine 64 = .ok (.getfield 115, 3) := by decide +kernel
theorem dX5_inviteLine_67 : decode cX5_inviteLine 67 = .ok (.iconst 1, 1) := by decide +kernel
theorem dX5_inviteLine_68 : decode cX5_inviteLine 68 = .ok (.isub, 1) := by decide +kernel
theorem dX5_inviteLine_69 : decode cX5_inviteLine 69 = .ok (.invokevirtual 101, 3) := by decide +kernel
theorem dX5_inviteLine_72 : decode cX5_inviteLine 72 = .ok (.istore 4, 2) := by decide +kernel
theorem dX5_inviteLine_74 : decode cX5_inviteLine 74 = .ok (.aload_n 0, 1) := by decide +kernel
theorem dX5_inviteLine_75 : decode cX5_inviteLine 75 = .ok (.ldc 150, 2) := by decide +kernel
theorem dX5_inviteLine_77 : decode cX5_inviteLine 77 = .ok (.invokevirtual 95, 3) := by decide +kernel
theorem dX5_inviteLine_80 : decode cX5_inviteLine 80 = .ok (.aload_n 2, 1) := by decide +kernel
theorem dX5_inviteLine_81 : decode cX5_inviteLine 81 = .ok (.getfield 166, 3) := by decide +kernel
theorem dX5_inviteLine_84 : decode cX5_inviteLine 84 = .ok (.aload_n 2, 1) := by decide +kernel
theorem dX5_inviteLine_85 : decode cX5_inviteLine 85 = .ok (.getfield 161, 3) := by decide +kernel
theorem dX5_inviteLine_88 : decode cX5_inviteLine 88 = .ok (.iload_n 3, 1) := by decide +kernel
theorem dX5_inviteLine_89 : decode cX5_inviteLine 89 = .ok (.iastore, 1) := by decide +kernel
theorem dX5_inviteLine_90 : decode cX5_inviteLine 90 = .ok (.aload_n 2, 1) := by decide +kernel
theorem dX5_inviteLine_91 : decode cX5_inviteLine 91 = .ok (.getfield 169, 3) := by decide +kernel
theorem dX5_inviteLine_94 : decode cX5_inviteLine 94 = .ok (.aload_n 2, 1) := by decide +kernel
theorem dX5_inviteLine_95 : decode cX5_inviteLine 95 = .ok (.getfield 161, 3) := by decide +kernel
theorem dX5_inviteLine_98 : decode cX5_inviteLine 98 = .ok (.iload 4, 2) := by decide +kernel
theorem dX5_inviteLine_100 : decode cX5_inviteLine 100 = .ok (.iastore, 1) := by decide +kernel
theorem dX5_inviteLine_101 : decode cX5_inviteLine 101 = .ok (.aload_n 2, 1) := by decide +kernel
theorem dX5_inviteLine_102 : decode cX5_inviteLine 102 = .ok (.getfield 172, 3) := by decide +kernel
theorem dX5_inviteLine_105 : decode cX5_inviteLine 105 = .ok (.aload_n 2, 1) := by decide +kernel
theorem dX5_inviteLine_106 : decode cX5_inviteLine 106 = .ok (.getfield 161, 3) := by decide +kernel
theorem dX5_inviteLine_109 : decode cX5_inviteLine 109 = .ok (.aload_n 0, 1) := by decide +kernel
theorem dX5_inviteLine_110 : decode cX5_inviteLine 110 = .ok (.iconst 0, 1) := by decide +kernel
theorem dX5_inviteLine_111 : decode cX5_inviteLine 111 = .ok (.bipush 15, 2) := by decide +kernel
theorem dX5_inviteLine_113 : decode cX5_inviteLine 113 = .ok (.invokevirtual 101, 3) := by decide +kernel
theorem dX5_inviteLine_116 : decode cX5_inviteLine 116 = .ok (.iastore, 1) := by decide +kernel
theorem dX5_inviteLine_117 : decode cX5_inviteLine 117 = .ok (.aload_n 2, 1) := by decide +kernel
theorem dX5_inviteLine_118 : decode cX5_inviteLine 118 = .ok (.dup, 1) := by decide +kernel
theorem dX5_inviteLine_119 : decode cX5_inviteLine 119 = .ok (.getfield 161, 3) := by decide +kernel
theorem dX5_inviteLine_122 : decode cX5_inviteLine 122 = .ok (.iconst 1, 1) := by decide +kernel
theorem dX5_inviteLine_123 : decode cX5_inviteLine 123 = .ok (.iadd, 1) := by decide +kernel
theorem dX5_inviteLine_124 : decode cX5_inviteLine 124 = .ok (.putfield 161, 3) := by decide +kernel
theorem dX5_inviteLine_127 : decode cX5_inviteLine 127 = .ok (.return_, 1) := by decide +kernel
theorem dX5_fail_0 : decode cX5_fail 0 = .ok (.aload_n 0, 1) := by decide +kernel
theorem dX5_fail_1 : decode cX5_fail 1 = .ok (.getfield 9, 3) := by decide +kernel
theorem dX5_fail_4 : decode cX5_fail 4 = .ok (.ifCond .ne 16, 3) := by decide +kernel
theorem dX5_fail_7 : decode cX5_fail 7 = .ok (.aload_n 0, 1) := by decide +kernel
theorem dX5_fail_8 : decode cX5_fail 8 = .ok (.iload_n 1, 1) := by decide +kernel
theorem dX5_fail_9 : decode cX5_fail 9 = .ok (.putfield 9, 3) := by decide +kernel
theorem dX5_fail_12 : decode cX5_fail 12 = .ok (.aload_n 0, 1) := by decide +kernel
theorem dX5_fail_13 : decode cX5_fail 13 = .ok (.aload_n 0, 1) := by decide +kernel
theorem dX5_fail_14 : decode cX5_fail 14 = .ok (.getfield 21, 3) := by decide +kernel
theorem dX5_fail_17 : decode cX5_fail 17 = .ok (.putfield 15, 3) := by decide +kernel
theorem dX5_fail_20 : decode cX5_fail 20 = .ok (.return_, 1) := by decide +kernel
theorem dX5_word_0 : decode cX5_word 0 = .ok (.aload_n 0, 1) := by decide +kernel
theorem dX5_word_1 : decode cX5_word 1 = .ok (.aload_n 1, 1) := by decide +kernel
theorem dX5_word_2 : decode cX5_word 2 = .ok (.invokevirtual 54, 3) := by decide +kernel
theorem dX5_word_5 : decode cX5_word 5 = .ok (.ifCond .ne 8, 3) := by decide +kernel
theorem dX5_word_8 : decode cX5_word 8 = .ok (.aload_n 0, 1) := by decide +kernel
theorem dX5_word_9 : decode cX5_word 9 = .ok (.iconst 1, 1) := by decide +kernel
theorem dX5_word_10 : decode cX5_word 10 = .ok (.invokevirtual 86, 3) := by decide +kernel
theorem dX5_word_13 : decode cX5_word 13 = .ok (.aload_n 0, 1) := by decide +kernel
theorem dX5_word_14 : decode cX5_word 14 = .ok (.invokevirtual 39, 3) := by decide +kernel
theorem dX5_word_17 : decode cX5_word 17 = .ok (.return_, 1) := by decide +kernel
theorem dX5_sign_0 : decode cX5_sign 0 = .ok (.aload_n 0, 1) := by decide +kernel
theorem dX5_sign_1 : decode cX5_sign 1 = .ok (.getfield 18, 3) := by decide +kernel
theorem dX5_sign_4 : decode cX5_sign 4 = .ok (.iconst 3, 1) := by decide +kernel
theorem dX5_sign_5 : decode cX5_sign 5 = .ok (.if_icmp .eq 8, 3) := by decide +kernel
theorem dX5_sign_8 : decode cX5_sign 8 = .ok (.aload_n 0, 1) := by decide +kernel
theorem dX5_sign_9 : decode cX5_sign 9 = .ok (.iconst 1, 1) := by decide +kernel
theorem dX5_sign_10 : decode cX5_sign 10 = .ok (.invokevirtual 86, 3) := by decide +kernel
theorem dX5_sign_13 : decode cX5_sign 13 = .ok (.aload_n 0, 1) := by decide +kernel
theorem dX5_sign_14 : decode cX5_sign 14 = .ok (.invokevirtual 39, 3) := by decide +kernel
theorem dX5_sign_17 : decode cX5_sign 17 = .ok (.return_, 1) := by decide +kernel
theorem dX5_number_0 : decode cX5_number 0 = .ok (.aload_n 0, 1) := by decide +kernel
theorem dX5_number_1 : decode cX5_number 1 = .ok (.getfield 27, 3) := by decide +kernel
theorem dX5_number_4 : decode cX5_number 4 = .ok (.istore_n 3, 1) := by decide +kernel
theorem dX5_number_5 : decode cX5_number 5 = .ok (.aload_n 0, 1) := by decide +kernel
theorem dX5_number_6 : decode cX5_number 6 = .ok (.getfield 18, 3) := by decide +kernel
theorem dX5_number_9 : decode cX5_number 9 = .ok (.iconst 2, 1) := by decide +kernel
theorem dX5_number_10 : decode cX5_number 10 = .ok (.if_icmp .eq 11, 3) := by decide +kernel
theorem dX5_number_13 : decode cX5_number 13 = .ok (.aload_n 0, 1) := by decide +kernel
theorem dX5_number_14 : decode cX5_number 14 = .ok (.iconst 1, 1) := by decide +kernel
theorem dX5_number_15 : decode cX5_number 15 = .ok (.invokevirtual 86, 3) := by decide +kernel
theorem dX5_number_18 : decode cX5_number 18 = .ok (.goto 18, 3) := by decide +kernel
theorem dX5_number_21 : decode cX5_number 21 = .ok (.iload_n 3, 1) := by decide +kernel
theorem dX5_number_22 : decode cX5_number 22 = .ok (.iload_n 1, 1) := by decide +kernel
theorem dX5_number_23 : decode cX5_number 23 = .ok (.if_icmp .lt 8, 3) := by decide +kernel
theorem dX5_number_26 : decode cX5_number 26 = .ok (.iload_n 3, 1) := by decide +kernel
theorem dX5_number_27 : decode cX5_number 27 = .ok (.iload_n 2, 1) := by decide +kernel
theorem dX5_number_28 : decode cX5_number 28 = .ok (.if_icmp .le 8, 3) := by decide +kernel
theorem dX5_number_31 : decode cX5_number 31 = .ok (.aload_n 0, 1) := by decide +kernel
theorem dX5_number_32 : decode cX5_number 32 = .ok (.iconst 2, 1) := by decide +kernel
theorem dX5_number_33 : decode cX5_number 33 = .ok (.invokevirtual 86, 3) := by decide +kernel
theorem dX5_number_36 : decode cX5_number 36 = .ok (.aload_n 0, 1) := by decide +kernel
theorem dX5_number_37 : decode cX5_number 37 = .ok (.invokevirtual 39, 3) := by decide +kernel
theorem dX5_number_40 : decode cX5_number 40 = .ok (.aload_n 0, 1) := by decide +kernel
theorem dX5_number_41 : decode cX5_number 41 = .ok (.getfield 9, 3) := by decide +kernel
theorem dX5_number_44 : decode cX5_number 44 = .ok (.ifCond .ne 7, 3) := by decide +kernel
theorem dX5_number_47 : decode cX5_number 47 = .ok (.iload_n 3, 1) := by decide +kernel
theorem dX5_number_48 : decode cX5_number 48 = .ok (.goto 4, 3) := by decide +kernel
theorem dX5_number_51 : decode cX5_number 51 = .ok (.iload_n 1, 1) := by decide +kernel
theorem dX5_number_52 : decode cX5_number 52 = .ok (.ireturn, 1) := by decide +kernel
theorem dX5_isWord_0 : decode cX5_isWord 0 = .ok (.aload_n 0, 1) := by decide +kernel
theorem dX5_isWord_1 : decode cX5_isWord 1 = .ok (.getfield 18, 3) := by decide +kernel
theorem dX5_isWord_4 : decode cX5_isWord 4 = .ok (.iconst 1, 1) := by decide +kernel
theorem dX5_isWord_5 : decode cX5_isWord 5 = .ok (.if_icmp .ne 19, 3) := by decide +kernel
theorem dX5_isWord_8 : decode cX5_isWord 8 = .ok (.aload_n 0, 1) := by decide +kernel
theorem dX5_isWord_9 : decode cX5_isWord 9 = .ok (.getfield 24, 3) := by decide +kernel
theorem dX5_isWord_12 : decode cX5_isWord 12 = .ok (.aload_n 0, 1) := by decide +kernel
theorem dX5_isWord_13 : decode cX5_isWord 13 = .ok (.getfield 21, 3) := by decide +kernel
theorem dX5_isWord_16 : decode cX5_isWord 16 = .ok (.isub, 1) := by decide +kernel
theorem dX5_isWord_17 : decode cX5_isWord 17 = .ok (.aload_n 1, 1) := by decide +kernel
theorem dX5_isWord_18 : decode cX5_isWord 18 = .ok (.invokevirtual 175, 3) := by decide +kernel
theorem dX5_isWord_21 : decode cX5_isWord 21 = .ok (.if_icmp .eq 5, 3) := by decide +kernel
theorem dX5_isWord_24 : decode cX5_isWord 24 = .ok (.iconst 0, 1) := by decide +kernel
theorem dX5_isWord_25 : decode cX5_isWord 25 = .ok (.ireturn, 1) := by decide +kernel
theorem dX5_isWord_26 : decode cX5_isWord 26 = .ok (.iconst 0, 1) := by decide +kernel
theorem dX5_isWord_27 : decode cX5_isWord 27 = .ok (.istore_n 2, 1) := by decide +kernel
theorem dX5_isWord_28 : decode cX5_isWord 28 = .ok (.iload_n 2, 1) := by decide +kernel
theorem dX5_isWord_29 : decode cX5_isWord 29 = .ok (.aload_n 1, 1) := by decide +kernel
theorem dX5_isWord_30 : decode cX5_isWord 30 = .ok (.invokevirtual 175, 3) := by decide +kernel
theorem dX5_isWord_33 : decode cX5_isWord 33 = .ok (.if_icmp .ge 32, 3) := by decide +kernel
theorem dX5_isWord_36 : decode cX5_isWord 36 = .ok (.aload_n 0, 1) := by decide +kernel
theorem dX5_isWord_37 : decode cX5_isWord 37 = .ok (.getfield 30, 3) := by decide +kernel
theorem dX5_isWord_40 : decode cX5_isWord 40 = .ok (.aload_n 0, 1) := by decide +kernel
theorem dX5_isWord_41 : decode cX5_isWord 41 = .ok (.getfield 21, 3) := by decide +kernel
theorem dX5_isWord_44 : decode cX5_isWord 44 = .ok (.iload_n 2, 1) := by decide +kernel
theorem dX5_isWord_45 : decode cX5_isWord 45 = .ok (.iadd, 1) := by decide +kernel
theorem dX5_isWord_46 : decode cX5_isWord 46 = .ok (.invokevirtual 181, 3) := by decide +kernel
theorem dX5_isWord_49 : decode cX5_isWord 49 = .ok (.aload_n 1, 1) := by decide +kernel
theorem dX5_isWord_50 : decode cX5_isWord 50 = .ok (.iload_n 2, 1) := by decide +kernel
theorem dX5_isWord_51 : decode cX5_isWord 51 = .ok (.invokevirtual 186, 3) := by decide +kernel
theorem dX5_isWord_54 : decode cX5_isWord 54 = .ok (.if_icmp .eq 5, 3) := by decide +kernel
theorem dX5_isWord_57 : decode cX5_isWord 57 = .ok (.iconst 0, 1) := by decide +kernel
theorem dX5_isWord_58 : decode cX5_isWord 58 = .ok (.ireturn, 1) := by decide +kernel
theorem dX5_isWord_59 : decode cX5_isWord 59 = .ok (.iinc 2 1, 3) := by decide +kernel
theorem dX5_isWord_62 : decode cX5_isWord 62 = .ok (.goto (-34), 3) := by decide +kernel
theorem dX5_isWord_65 : decode cX5_isWord 65 = .ok (.iconst 1, 1) := by decide +kernel
theorem dX5_isWord_66 : decode cX5_isWord 66 = .ok (.ireturn, 1) := by decide +kernel
theorem dX5_step_0 : decode cX5_step 0 = .ok (.aload_n 0, 1) := by decide +kernel
theorem dX5_step_1 : decode cX5_step 1 = .ok (.getfield 9, 3) := by decide +kernel
theorem dX5_step_4 : decode cX5_step 4 = .ok (.ifCond .eq 4, 3) := by decide +kernel
theorem dX5_step_7 : decode cX5_step 7 = .ok (.return_, 1) := by decide +kernel
theorem dX5_step_8 : decode cX5_step 8 = .ok (.aload_n 0, 1) := by decide +kernel
theorem dX5_step_9 : decode cX5_step 9 = .ok (.aload_n 0, 1) := by decide +kernel
theorem dX5_step_10 : decode cX5_step 10 = .ok (.getfield 24, 3) := by decide +kernel
theorem dX5_step_13 : decode cX5_step 13 = .ok (.putfield 21, 3) := by decide +kernel
theorem dX5_step_16 : decode cX5_step 16 = .ok (.aload_n 0, 1) := by decide +kernel
theorem dX5_step_17 : decode cX5_step 17 = .ok (.getfield 21, 3) := by decide +kernel
theorem dX5_step_20 : decode cX5_step 20 = .ok (.aload_n 0, 1) := by decide +kernel
theorem dX5_step_21 : decode cX5_step 21 = .ok (.getfield 30, 3) := by decide +kernel
theorem dX5_step_24 : decode cX5_step 24 = .ok (.getfield 190, 3) := by decide +kernel
theorem dX5_step_27 : decode cX5_step 27 = .ok (.if_icmp .ge 48, 3) := by decide +kernel
theorem dX5_step_30 : decode cX5_step 30 = .ok (.aload_n 0, 1) := by decide +kernel
theorem dX5_step_31 : decode cX5_step 31 = .ok (.getfield 30, 3) := by decide +kernel
theorem dX5_step_34 : decode cX5_step 34 = .ok (.aload_n 0, 1) := by decide +kernel
theorem dX5_step_35 : decode cX5_step 35 = .ok (.getfield 21, 3) := by decide +kernel
theorem dX5_step_38 : decode cX5_step 38 = .ok (.invokevirtual 181, 3) := by decide +kernel
theorem dX5_step_41 : decode cX5_step 41 = .ok (.bipush 32, 2) := by decide +kernel
theorem dX5_step_43 : decode cX5_step 43 = .ok (.if_icmp .eq 19, 3) := by decide +kernel
theorem dX5_step_46 : decode cX5_step 46 = .ok (.aload_n 0, 1) := by decide +kernel
theorem dX5_step_47 : decode cX5_step 47 = .ok (.getfield 30, 3) := by decide +kernel
theorem dX5_step_50 : decode cX5_step 50 = .ok (.aload_n 0, 1) := by decide +kernel
theorem dX5_step_51 : decode cX5_step 51 = .ok (.getfield 21, 3) := by decide +kernel
theorem dX5_step_54 : decode cX5_step 54 = .ok (.invokevirtual 181, 3) := by decide +kernel
theorem dX5_step_57 : decode cX5_step 57 = .ok (.bipush 10, 2) := by decide +kernel
theorem dX5_step_59 : decode cX5_step 59 = .ok (.if_icmp .ne 16, 3) := by decide +kernel
theorem dX5_step_62 : decode cX5_step 62 = .ok (.aload_n 0, 1) := by decide +kernel
theorem dX5_step_63 : decode cX5_step 63 = .ok (.dup, 1) := by decide +kernel
theorem dX5_step_64 : decode cX5_step 64 = .ok (.getfield 21, 3) := by decide +kernel
theorem dX5_step_67 : decode cX5_step 67 = .ok (.iconst 1, 1) := by decide +kernel
theorem dX5_step_68 : decode cX5_step 68 = .ok (.iadd, 1) := by decide +kernel
theorem dX5_step_69 : decode cX5_step 69 = .ok (.putfield 21, 3) := by decide +kernel
theorem dX5_step_72 : decode cX5_step 72 = .ok (.goto (-56), 3) := by decide +kernel
theorem dX5_step_75 : decode cX5_step 75 = .ok (.aload_n 0, 1) := by decide +kernel
theorem dX5_step_76 : decode cX5_step 76 = .ok (.aload_n 0, 1) := by decide +kernel
theorem dX5_step_77 : decode cX5_step 77 = .ok (.getfield 30, 3) := by decide +kernel
theorem dX5_step_80 : decode cX5_step 80 = .ok (.aload_n 0, 1) := by decide +kernel
theorem dX5_step_81 : decode cX5_step 81 = .ok (.getfield 21, 3) := by decide +kernel
theorem dX5_step_84 : decode cX5_step 84 = .ok (.invokevirtual 181, 3) := by decide +kernel
theorem dX5_step_87 : decode cX5_step 87 = .ok (.invokestatic 191, 3) := by decide +kernel
theorem dX5_step_90 : decode cX5_step 90 = .ok (.putfield 18, 3) := by decide +kernel
theorem dX5_step_93 : decode cX5_step 93 = .ok (.aload_n 0, 1) := by decide +kernel
theorem dX5_step_94 : decode cX5_step 94 = .ok (.aload_n 0, 1) := by decide +kernel
theorem dX5_step_95 : decode cX5_step 95 = .ok (.getfield 21, 3) := by decide +kernel
theorem dX5_step_98 : decode cX5_step 98 = .ok (.iconst 1, 1) := by decide +kernel
theorem dX5_step_99 : decode cX5_step 99 = .ok (.iadd, 1) := by decide +kernel
theorem dX5_step_100 : decode cX5_step 100 = .ok (.aload_n 0, 1) := by decide +kernel
theorem dX5_step_101 : decode cX5_step 101 = .ok (.getfield 30, 3) := by decide +kernel
theorem dX5_step_104 : decode cX5_step 104 = .ok (.getfield 190, 3) := by decide +kernel
theorem dX5_step_107 : decode cX5_step 107 = .ok (.invokestatic 194, 3) := by decide +kernel
theorem dX5_step_110 : decode cX5_step 110 = .ok (.putfield 24, 3) := by decide +kernel
theorem dX5_step_113 : decode cX5_step 113 = .ok (.aload_n 0, 1) := by decide +kernel
theorem dX5_step_114 : decode cX5_step 114 = .ok (.getfield 24, 3) := by decide +kernel
theorem dX5_step_117 : decode cX5_step 117 = .ok (.aload_n 0, 1) := by decide +kernel
theorem dX5_step_118 : decode cX5_step 118 = .ok (.getfield 30, 3) := by decide +kernel
theorem dX5_step_121 : decode cX5_step 121 = .ok (.getfield 190, 3) := by decide +kernel
theorem dX5_step_124 : decode cX5_step 124 = .ok (.if_icmp .ge 47, 3) := by decide +kernel
theorem dX5_step_127 : decode cX5_step 127 = .ok (.aload_n 0, 1) := by decide +kernel
theorem dX5_step_128 : decode cX5_step 128 = .ok (.getfield 18, 3) := by decide +kernel
theorem dX5_step_131 : decode cX5_step 131 = .ok (.invokestatic 199, 3) := by decide +kernel
theorem dX5_step_134 : decode cX5_step 134 = .ok (.ifCond .eq 37, 3) := by decide +kernel
theorem dX5_step_137 : decode cX5_step 137 = .ok (.aload_n 0, 1) := by decide +kernel
theorem dX5_step_138 : decode cX5_step 138 = .ok (.getfield 30, 3) := by decide +kernel
theorem dX5_step_141 : decode cX5_step 141 = .ok (.aload_n 0, 1) := by decide +kernel
theorem dX5_step_142 : decode cX5_step 142 = .ok (.getfield 24, 3) := by decide +kernel
theorem dX5_step_145 : decode cX5_step 145 = .ok (.invokevirtual 181, 3) := by decide +kernel
theorem dX5_step_148 : decode cX5_step 148 = .ok (.invokestatic 191, 3) := by decide +kernel
theorem dX5_step_151 : decode cX5_step 151 = .ok (.aload_n 0, 1) := by decide +kernel
theorem dX5_step_152 : decode cX5_step 152 = .ok (.getfield 18, 3) := by decide +kernel
theorem dX5_step_155 : decode cX5_step 155 = .ok (.if_icmp .ne 16, 3) := by decide +kernel
theorem dX5_step_158 : decode cX5_step 158 = .ok (.aload_n 0, 1) := by decide +kernel
theorem dX5_step_159 : decode cX5_step 159 = .ok (.dup, 1) := by decide +kernel
theorem dX5_step_160 : decode cX5_step 160 = .ok (.getfield 24, 3) := by decide +kernel
theorem dX5_step_163 : decode cX5_step 163 = .ok (.iconst 1, 1) := by decide +kernel
theorem dX5_step_164 : decode cX5_step 164 = .ok (.iadd, 1) := by decide +kernel
theorem dX5_step_165 : decode cX5_step 165 = .ok (.putfield 24, 3) := by decide +kernel
theorem dX5_step_168 : decode cX5_step 168 = .ok (.goto (-55), 3) := by decide +kernel
theorem dX5_step_171 : decode cX5_step 171 = .ok (.aload_n 0, 1) := by decide +kernel
theorem dX5_step_172 : decode cX5_step 172 = .ok (.iconst 0, 1) := by decide +kernel
theorem dX5_step_173 : decode cX5_step 173 = .ok (.putfield 27, 3) := by decide +kernel
theorem dX5_step_176 : decode cX5_step 176 = .ok (.aload_n 0, 1) := by decide +kernel
theorem dX5_step_177 : decode cX5_step 177 = .ok (.getfield 21, 3) := by decide +kernel
theorem dX5_step_180 : decode cX5_step 180 = .ok (.istore_n 1, 1) := by decide +kernel
theorem dX5_step_181 : decode cX5_step 181 = .ok (.aload_n 0, 1) := by decide +kernel
theorem dX5_step_182 : decode cX5_step 182 = .ok (.getfield 18, 3) := by decide +kernel
theorem dX5_step_185 : decode cX5_step 185 = .ok (.iconst 2, 1) := by decide +kernel
theorem dX5_step_186 : decode cX5_step 186 = .ok (.if_icmp .ne 46, 3) := by decide +kernel
theorem dX5_step_189 : decode cX5_step 189 = .ok (.iload_n 1, 1) := by decide +kernel
theorem dX5_step_190 : decode cX5_step 190 = .ok (.aload_n 0, 1) := by decide +kernel
theorem dX5_step_191 : decode cX5_step 191 = .ok (.getfield 24, 3) := by decide +kernel
theorem dX5_step_194 : decode cX5_step 194 = .ok (.if_icmp .ge 38, 3) := by decide +kernel
theorem dX5_step_197 : decode cX5_step 197 = .ok (.aload_n 0, 1) := by decide +kernel
theorem dX5_step_198 : decode cX5_step 198 = .ok (.aload_n 0, 1) := by decide +kernel
theorem dX5_step_199 : decode cX5_step 199 = .ok (.getfield 27, 3) := by decide +kernel
theorem dX5_step_202 : decode cX5_step 202 = .ok (.bipush 10, 2) := by decide +kernel
theorem dX5_step_204 : decode cX5_step 204 = .ok (.imul, 1) := by decide +kernel
theorem dX5_step_205 : decode cX5_step 205 = .ok (.aload_n 0, 1) := by decide +kernel
theorem dX5_step_206 : decode cX5_step 206 = .ok (.getfield 30, 3) := by decide +kernel
theorem dX5_step_209 : decode cX5_step 209 = .ok (.iload_n 1, 1) := by decide +kernel
theorem dX5_step_210 : decode cX5_step 210 = .ok (.invokevirtual 181, 3) := by decide +kernel
theorem dX5_step_213 : decode cX5_step 213 = .ok (.iadd, 1) := by decide +kernel
theorem dX5_step_214 : decode cX5_step 214 = .ok (.bipush 48, 2) := by decide +kernel
theorem dX5_step_216 : decode cX5_step 216 = .ok (.isub, 1) := by decide +kernel
theorem dX5_step_217 : decode cX5_step 217 = .ok (.sipush 1000, 3) := by decide +kernel
theorem dX5_step_220 : decode cX5_step 220 = .ok (.invokestatic 194, 3) := by decide +kernel
theorem dX5_step_223 : decode cX5_step 223 = .ok (.putfield 27, 3) := by decide +kernel
theorem dX5_step_226 : decode cX5_step 226 = .ok (.iinc 1 1, 3) := by decide +kernel
theorem dX5_step_229 : decode cX5_step 229 = .ok (.goto (-48), 3) := by decide +kernel
theorem dX5_step_232 : decode cX5_step 232 = .ok (.return_, 1) := by decide +kernel
theorem dX5_isLong_0 : decode cX5_isLong 0 = .ok (.iload_n 0, 1) := by decide +kernel
theorem dX5_isLong_1 : decode cX5_isLong 1 = .ok (.iconst 1, 1) := by decide +kernel
theorem dX5_isLong_2 : decode cX5_isLong 2 = .ok (.if_icmp .eq 8, 3) := by decide +kernel
theorem dX5_isLong_5 : decode cX5_isLong 5 = .ok (.iload_n 0, 1) := by decide +kernel
theorem dX5_isLong_6 : decode cX5_isLong 6 = .ok (.iconst 2, 1) := by decide +kernel
theorem dX5_isLong_7 : decode cX5_isLong 7 = .ok (.if_icmp .ne 7, 3) := by decide +kernel
theorem dX5_isLong_10 : decode cX5_isLong 10 = .ok (.iconst 1, 1) := by decide +kernel
theorem dX5_isLong_11 : decode cX5_isLong 11 = .ok (.goto 4, 3) := by decide +kernel
theorem dX5_isLong_14 : decode cX5_isLong 14 = .ok (.iconst 0, 1) := by decide +kernel
theorem dX5_isLong_15 : decode cX5_isLong 15 = .ok (.ireturn, 1) := by decide +kernel
theorem dX5_kindOf_0 : decode cX5_kindOf 0 = .ok (.iload_n 0, 1) := by decide +kernel
theorem dX5_kindOf_1 : decode cX5_kindOf 1 = .ok (.iconst (-1), 1) := by decide +kernel
theorem dX5_kindOf_2 : decode cX5_kindOf 2 = .ok (.if_icmp .ne 5, 3) := by decide +kernel
theorem dX5_kindOf_5 : decode cX5_kindOf 5 = .ok (.iconst 0, 1) := by decide +kernel
theorem dX5_kindOf_6 : decode cX5_kindOf 6 = .ok (.ireturn, 1) := by decide +kernel
theorem dX5_kindOf_7 : decode cX5_kindOf 7 = .ok (.iload_n 0, 1) := by decide +kernel
theorem dX5_kindOf_8 : decode cX5_kindOf 8 = .ok (.bipush 97, 2) := by decide +kernel
theorem dX5_kindOf_10 : decode cX5_kindOf 10 = .ok (.if_icmp .lt 11, 3) := by decide +kernel
theorem dX5_kindOf_13 : decode cX5_kindOf 13 = .ok (.iload_n 0, 1) := by decide +kernel
theorem dX5_kindOf_14 : decode cX5_kindOf 14 = .ok (.bipush 122, 2) := by decide +kernel
theorem dX5_kindOf_16 : decode cX5_kindOf 16 = .ok (.if_icmp .gt 5, 3) := by decide +kernel
theorem dX5_kindOf_19 : decode cX5_kindOf 19 = .ok (.iconst 1, 1) := by decide +kernel
theorem dX5_kindOf_20 : decode cX5_kindOf 20 = .ok (.ireturn, 1) := by decide +kernel
theorem dX5_kindOf_21 : decode cX5_kindOf 21 = .ok (.iload_n 0, 1) := by decide +kernel
theorem dX5_kindOf_22 : decode cX5_kindOf 22 = .ok (.bipush 48, 2) := by decide +kernel
theorem dX5_kindOf_24 : decode cX5_kindOf 24 = .ok (.if_icmp .lt 11, 3) := by decide +kernel
theorem dX5_kindOf_27 : decode cX5_kindOf 27 = .ok (.iload_n 0, 1) := by decide +kernel
theorem dX5_kindOf_28 : decode cX5_kindOf 28 = .ok (.bipush 57, 2) := by decide +kernel
theorem dX5_kindOf_30 : decode cX5_kindOf 30 = .ok (.if_icmp .gt 5, 3) := by decide +kernel
theorem dX5_kindOf_33 : decode cX5_kindOf 33 = .ok (.iconst 2, 1) := by decide +kernel
theorem dX5_kindOf_34 : decode cX5_kindOf 34 = .ok (.ireturn, 1) := by decide +kernel
theorem dX5_kindOf_35 : decode cX5_kindOf 35 = .ok (.iload_n 0, 1) := by decide +kernel
theorem dX5_kindOf_36 : decode cX5_kindOf 36 = .ok (.bipush 59, 2) := by decide +kernel
theorem dX5_kindOf_38 : decode cX5_kindOf 38 = .ok (.if_icmp .ne 7, 3) := by decide +kernel
theorem dX5_kindOf_41 : decode cX5_kindOf 41 = .ok (.iconst 3, 1) := by decide +kernel
theorem dX5_kindOf_42 : decode cX5_kindOf 42 = .ok (.goto 4, 3) := by decide +kernel
theorem dX5_kindOf_45 : decode cX5_kindOf 45 = .ok (.iconst 4, 1) := by decide +kernel
theorem dX5_kindOf_46 : decode cX5_kindOf 46 = .ok (.ireturn, 1) := by decide +kernel
theorem dX6_init_0 : decode cX6_init 0 = .ok (.aload_n 0, 1) := by decide +kernel
theorem dX6_init_1 : decode cX6_init 1 = .ok (.invokespecial 3, 3) := by decide +kernel
theorem dX6_init_4 : decode cX6_init 4 = .ok (.aload_n 0, 1) := by decide +kernel
theorem dX6_init_5 : decode cX6_init 5 = .ok (.iconst 0, 1) := by decide +kernel
theorem dX6_init_6 : decode cX6_init 6 = .ok (.putfield 9, 3) := by decide +kernel
theorem dX6_init_9 : decode cX6_init 9 = .ok (.aload_n 0, 1) := by decide +kernel
theorem dX6_init_10 : decode cX6_init 10 = .ok (.iconst 0, 1) := by decide +kernel
theorem dX6_init_11 : decode cX6_init 11 = .ok (.putfield 15, 3) := by decide +kernel
theorem dX6_init_14 : decode cX6_init 14 = .ok (.aload_n 0, 1) := by decide +kernel
theorem dX6_init_15 : decode cX6_init 15 = .ok (.iconst 0, 1) := by decide +kernel
theorem dX6_init_16 : decode cX6_init 16 = .ok (.putfield 18, 3) := by decide +kernel
theorem dX6_init_19 : decode cX6_init 19 = .ok (.aload_n 0, 1) := by decide +kernel
theorem dX6_init_20 : decode cX6_init 20 = .ok (.iconst 0, 1) := by decide +kernel
theorem dX6_init_21 : decode cX6_init 21 = .ok (.putfield 21, 3) := by decide +kernel
theorem dX6_init_24 : decode cX6_init 24 = .ok (.aload_n 0, 1) := by decide +kernel
theorem dX6_init_25 : decode cX6_init 25 = .ok (.iconst 0, 1) := by decide +kernel
theorem dX6_init_26 : decode cX6_init 26 = .ok (.putfield 24, 3) := by decide +kernel
theorem dX6_init_29 : decode cX6_init 29 = .ok (.aload_n 0, 1) := by decide +kernel
theorem dX6_init_30 : decode cX6_init 30 = .ok (.bipush 6, 2) := by decide +kernel
theorem dX6_init_32 : decode cX6_init 32 = .ok (.newarray .int, 2) := by decide +kernel
theorem dX6_init_34 : decode cX6_init 34 = .ok (.putfield 27, 3) := by decide +kernel
theorem dX6_init_37 : decode cX6_init 37 = .ok (.aload_n 0, 1) := by decide +kernel
theorem dX6_init_38 : decode cX6_init 38 = .ok (.bipush 6, 2) := by decide +kernel
theorem dX6_init_40 : decode cX6_init 40 = .ok (.newarray .int, 2) := by decide +kernel
theorem dX6_init_42 : decode cX6_init 42 = .ok (.putfield 31, 3) := by decide +kernel
theorem dX6_init_45 : decode cX6_init 45 = .ok (.aload_n 0, 1) := by decide +kernel
theorem dX6_init_46 : decode cX6_init 46 = .ok (.bipush 6, 2) := by decide +kernel
theorem dX6_init_48 : decode cX6_init 48 = .ok (.newarray .int, 2) := by decide +kernel
theorem dX6_init_50 : decode cX6_init 50 = .ok (.putfield 34, 3) := by decide +kernel
theorem dX6_init_53 : decode cX6_init 53 = .ok (.aload_n 0, 1) := by decide +kernel
theorem dX6_init_54 : decode cX6_init 54 = .ok (.bipush 6, 2) := by decide +kernel
theorem dX6_init_56 : decode cX6_init 56 = .ok (.newarray .int, 2) := by decide +kernel
theorem dX6_init_58 : decode cX6_init 58 = .ok (.putfield 37, 3) := by decide +kernel
theorem dX6_init_61 : decode cX6_init 61 = .ok (.aload_n 0, 1) := by decide +kernel
theorem dX6_init_62 : decode cX6_init 62 = .ok (.iconst 0, 1) := by decide +kernel
theorem dX6_init_63 : decode cX6_init 63 = .ok (.putfield 40, 3) := by decide +kernel
theorem dX6_init_66 : decode cX6_init 66 = .ok (.aload_n 0, 1) := by decide +kernel
theorem dX6_init_67 : decode cX6_init 67 = .ok (.iconst 5, 1) := by decide +kernel
theorem dX6_init_68 : decode cX6_init 68 = .ok (.newarray .int, 2) := by decide +kernel
theorem dX6_init_70 : decode cX6_init 70 = .ok (.putfield 43, 3) := by decide +kernel
theorem dX6_init_73 : decode cX6_init 73 = .ok (.aload_n 0, 1) := by decide +kernel
theorem dX6_init_74 : decode cX6_init 74 = .ok (.iconst 5, 1) := by decide +kernel
theorem dX6_init_75 : decode cX6_init 75 = .ok (.newarray .int, 2) := by decide +kernel
theorem dX6_init_77 : decode cX6_init 77 = .ok (.putfield 46, 3) := by decide +kernel
theorem dX6_init_80 : decode cX6_init 80 = .ok (.aload_n 0, 1) := by decide +kernel
theorem dX6_init_81 : decode cX6_init 81 = .ok (.iconst 0, 1) := by decide +kernel
theorem dX6_init_82 : decode cX6_init 82 = .ok (.putfield 49, 3) := by decide +kernel
theorem dX6_init_85 : decode cX6_init 85 = .ok (.aload_n 0, 1) := by decide +kernel
theorem dX6_init_86 : decode cX6_init 86 = .ok (.bipush 16, 2) := by decide +kernel
theorem dX6_init_88 : decode cX6_init 88 = .ok (.newarray .int, 2) := by decide +kernel
theorem dX6_init_90 : decode cX6_init 90 = .ok (.putfield 52, 3) := by decide +kernel
theorem dX6_init_93 : decode cX6_init 93 = .ok (.aload_n 0, 1) := by decide +kernel
theorem dX6_init_94 : decode cX6_init 94 = .ok (.iconst 0, 1) := by decide +kernel
theorem dX6_init_95 : decode cX6_init 95 = .ok (.putfield 55, 3) := by decide +kernel
theorem dX6_init_98 : decode cX6_init 98 = .ok (.aload_n 0, 1) := by decide +kernel
theorem dX6_init_99 : decode cX6_init 99 = .ok (.iconst 0, 1) := by decide +kernel
theorem dX6_init_100 : decode cX6_init 100 = .ok (.putfield 58, 3) := by decide +kernel
theorem dX6_init_103 : decode cX6_init 103 = .ok (.aload_n 0, 1) := by decide +kernel
theorem dX6_init_104 : decode cX6_init 104 = .ok (.new 61, 3) := by decide +kernel
theorem dX6_init_107 : decode cX6_init 107 = .ok (.dup, 1) := by decide +kernel
theorem dX6_init_108 : decode cX6_init 108 = .ok (.invokespecial 63, 3) := by decide +kernel
theorem dX6_init_111 : decode cX6_init 111 = .ok (.putfield 64, 3) := by decide +kernel
theorem dX6_init_114 : decode cX6_init 114 = .ok (.aload_n 0, 1) := by decide +kernel
theorem dX6_init_115 : decode cX6_init 115 = .ok (.new 68, 3) := by decide +kernel
theorem dX6_init_118 : decode cX6_init 118 = .ok (.dup, 1) := by decide +kernel
theorem dX6_init_119 : decode cX6_init 119 = .ok (.invokespecial 70, 3) := by decide +kernel
theorem dX6_init_122 : decode cX6_init 122 = .ok (.putfield 71, 3) := by decide +kernel
theorem dX6_init_125 : decode cX6_init 125 = .ok (.return_, 1) := by decide +kernel
theorem dX6_clear_0 : decode cX6_clear 0 = .ok (.aload_n 0, 1) := by decide +kernel
theorem dX6_clear_1 : decode cX6_clear 1 = .ok (.iconst 0, 1) := by decide +kernel
theorem dX6_clear_2 : decode cX6_clear 2 = .ok (.putfield 9, 3) := by decide +kernel
theorem dX6_clear_5 : decode cX6_clear 5 = .ok (.aload_n 0, 1) := by decide +kernel
theorem dX6_clear_6 : decode cX6_clear 6 = .ok (.iconst 0, 1) := by decide +kernel
theorem dX6_clear_7 : decode cX6_clear 7 = .ok (.putfield 15, 3) := by decide +kernel
theorem dX6_clear_10 : decode cX6_clear 10 = .ok (.aload_n 0, 1) := by decide +kernel
theorem dX6_clear_11 : decode cX6_clear 11 = .ok (.iconst 0, 1) := by decide +kernel
theorem dX6_clear_12 : decode cX6_clear 12 = .ok (.putfield 18, 3) := by decide +kernel
theorem dX6_clear_15 : decode cX6_clear 15 = .ok (.aload_n 0, 1) := by decide +kernel
theorem dX6_clear_16 : decode cX6_clear 16 = .ok (.iconst 0, 1) := by decide +kernel
theorem dX6_clear_17 : decode cX6_clear 17 = .ok (.putfield 21, 3) := by decide +kernel
theorem dX6_clear_20 : decode cX6_clear 20 = .ok (.aload_n 0, 1) := by decide +kernel
theorem dX6_clear_21 : decode cX6_clear 21 = .ok (.iconst 0, 1) := by decide +kernel
theorem dX6_clear_22 : decode cX6_clear 22 = .ok (.putfield 24, 3) := by decide +kernel
theorem dX6_clear_25 : decode cX6_clear 25 = .ok (.aload_n 0, 1) := by decide +kernel
theorem dX6_clear_26 : decode cX6_clear 26 = .ok (.iconst 0, 1) := by decide +kernel
theorem dX6_clear_27 : decode cX6_clear 27 = .ok (.putfield 40, 3) := by decide +kernel
theorem dX6_clear_30 : decode cX6_clear 30 = .ok (.aload_n 0, 1) := by decide +kernel
theorem dX6_clear_31 : decode cX6_clear 31 = .ok (.iconst 0, 1) := by decide +kernel
theorem dX6_clear_32 : decode cX6_clear 32 = .ok (.putfield 49, 3) := by decide +kernel
theorem dX6_clear_35 : decode cX6_clear 35 = .ok (.aload_n 0, 1) := by decide +kernel
theorem dX6_clear_36 : decode cX6_clear 36 = .ok (.iconst 0, 1) := by decide +kernel
theorem dX6_clear_37 : decode cX6_clear 37 = .ok (.putfield 55, 3) := by decide +kernel
theorem dX6_clear_40 : decode cX6_clear 40 = .ok (.aload_n 0, 1) := by decide +kernel
theorem dX6_clear_41 : decode cX6_clear 41 = .ok (.iconst 0, 1) := by decide +kernel
theorem dX6_clear_42 : decode cX6_clear 42 = .ok (.putfield 58, 3) := by decide +kernel
theorem dX6_clear_45 : decode cX6_clear 45 = .ok (.aload_n 0, 1) := by decide +kernel
theorem dX6_clear_46 : decode cX6_clear 46 = .ok (.getfield 52, 3) := by decide +kernel
theorem dX6_clear_49 : decode cX6_clear 49 = .ok (.iconst 0, 1) := by decide +kernel
theorem dX6_clear_50 : decode cX6_clear 50 = .ok (.invokestatic 75, 3) := by decide +kernel
theorem dX6_clear_53 : decode cX6_clear 53 = .ok (.aload_n 0, 1) := by decide +kernel
theorem dX6_clear_54 : decode cX6_clear 54 = .ok (.getfield 64, 3) := by decide +kernel
theorem dX6_clear_57 : decode cX6_clear 57 = .ok (.iconst 0, 1) := by decide +kernel
theorem dX6_clear_58 : decode cX6_clear 58 = .ok (.putfield 81, 3) := by decide +kernel
theorem dX6_clear_61 : decode cX6_clear 61 = .ok (.aload_n 0, 1) := by decide +kernel
theorem dX6_clear_62 : decode cX6_clear 62 = .ok (.getfield 71, 3) := by decide +kernel
theorem dX6_clear_65 : decode cX6_clear 65 = .ok (.iconst 0, 1) := by decide +kernel
theorem dX6_clear_66 : decode cX6_clear 66 = .ok (.putfield 84, 3) := by decide +kernel
theorem dX6_clear_69 : decode cX6_clear 69 = .ok (.return_, 1) := by decide +kernel
theorem dX6_copy_0 : decode cX6_copy 0 = .ok (.aload_n 0, 1) := by decide +kernel
theorem dX6_copy_1 : decode cX6_copy 1 = .ok (.aload_n 1, 1) := by decide +kernel
theorem dX6_copy_2 : decode cX6_copy 2 = .ok (.getfield 9, 3) := by decide +kernel
theorem dX6_copy_5 : decode cX6_copy 5 = .ok (.putfield 9, 3) := by decide +kernel
theorem dX6_copy_8 : decode cX6_copy 8 = .ok (.aload_n 0, 1) := by decide +kernel
theorem dX6_copy_9 : decode cX6_copy 9 = .ok (.aload_n 1, 1) := by decide +kernel
theorem dX6_copy_10 : decode cX6_copy 10 = .ok (.getfield 15, 3) := by decide +kernel
theorem dX6_copy_13 : decode cX6_copy 13 = .ok (.putfield 15, 3) := by decide +kernel
theorem dX6_copy_16 : decode cX6_copy 16 = .ok (.aload_n 0, 1) := by decide +kernel
theorem dX6_copy_17 : decode cX6_copy 17 = .ok (.aload_n 1, 1) := by decide +kernel
theorem dX6_copy_18 : decode cX6_copy 18 = .ok (.getfield 18, 3) := by decide +kernel
theorem dX6_copy_21 : decode cX6_copy 21 = .ok (.putfield 18, 3) := by decide +kernel
theorem dX6_copy_24 : decode cX6_copy 24 = .ok (.aload_n 0, 1) := by decide +kernel
theorem dX6_copy_25 : decode cX6_copy 25 = .ok (.aload_n 1, 1) := by decide +kernel
theorem dX6_copy_26 : decode cX6_copy 26 = .ok (.getfield 21, 3) := by decide +kernel
theorem dX6_copy_29 : decode cX6_copy 29 = .ok (.putfield 21, 3) := by decide +kernel
theorem dX6_copy_32 : decode cX6_copy 32 = .ok (.aload_n 0, 1) := by decide +kernel
theorem dX6_copy_33 : decode cX6_copy 33 = .ok (.aload_n 1, 1) := by decide +kernel
theorem dX6_copy_34 : decode cX6_copy 34 = .ok (.getfield 24, 3) := by decide +kernel
theorem dX6_copy_37 : decode cX6_copy 37 = .ok (.putfield 24, 3) := by decide +kernel
theorem dX6_copy_40 : decode cX6_copy 40 = .ok (.aload_n 0, 1) := by decide +kernel
theorem dX6_copy_41 : decode cX6_copy 41 = .ok (.aload_n 1, 1) := by decide +kernel
theorem dX6_copy_42 : decode cX6_copy 42 = .ok (.getfield 40, 3) := by decide +kernel
theorem dX6_copy_45 : decode cX6_copy 45 = .ok (.putfield 40, 3) := by decide +kernel
theorem dX6_copy_48 : decode cX6_copy 48 = .ok (.aload_n 0, 1) := by decide +kernel
theorem dX6_copy_49 : decode cX6_copy 49 = .ok (.aload_n 1, 1) := by decide +kernel
theorem dX6_copy_50 : decode cX6_copy 50 = .ok (.getfield 49, 3) := by decide +kernel
theorem dX6_copy_53 : decode cX6_copy 53 = .ok (.putfield 49, 3) := by decide +kernel
theorem dX6_copy_56 : decode cX6_copy 56 = .ok (.aload_n 0, 1) := by decide +kernel
theorem dX6_copy_57 : decode cX6_copy 57 = .ok (.aload_n 1, 1) := by decide +kernel
theorem dX6_copy_58 : decode cX6_copy 58 = .ok (.getfield 55, 3) := by decide +kernel
theorem dX6_copy_61 : decode cX6_copy 61 = .ok (.putfield 55, 3) := by decide +kernel
theorem dX6_copy_64 : decode cX6_copy 64 = .ok (.aload_n 0, 1) := by decide +kernel
theorem dX6_copy_65 : decode cX6_copy 65 = .ok (.aload_n 1, 1) := by decide +kernel
theorem dX6_copy_66 : decode cX6_copy 66 = .ok (.getfield 58, 3) := by decide +kernel
theorem dX6_copy_69 : decode cX6_copy 69 = .ok (.putfield 58, 3) := by decide +kernel
theorem dX6_copy_72 : decode cX6_copy 72 = .ok (.aload_n 1, 1) := by decide +kernel
theorem dX6_copy_73 : decode cX6_copy 73 = .ok (.getfield 27, 3) := by decide +kernel
theorem dX6_copy_76 : decode cX6_copy 76 = .ok (.iconst 0, 1) := by decide +kernel
theorem dX6_copy_77 : decode cX6_copy 77 = .ok (.aload_n 0, 1) := by decide +kernel
theorem dX6_copy_78 : decode cX6_copy 78 = .ok (.getfield 27, 3) := by decide +kernel
theorem dX6_copy_81 : decode cX6_copy 81 = .ok (.iconst 0, 1) := by decide +kernel
theorem dX6_copy_82 : decode cX6_copy 82 = .ok (.bipush 6, 2) := by decide +kernel
theorem dX6_copy_84 : decode cX6_copy 84 = .ok (.invokestatic 85, 3) := by decide +kernel
theorem dX6_copy_87 : decode cX6_copy 87 = .ok (.aload_n 1, 1) := by decide +kernel
theorem dX6_copy_88 : decode cX6_copy 88 = .ok (.getfield 31, 3) := by decide +kernel
theorem dX6_copy_91 : decode cX6_copy 91 = .ok (.iconst 0, 1) := by decide +kernel
theorem dX6_copy_92 : decode cX6_copy 92 = .ok (.aload_n 0, 1) := by decide +kernel
theorem dX6_copy_93 : decode cX6_copy 93 = .ok (.getfield 31, 3) := by decide +kernel
theorem dX6_copy_96 : decode cX6_copy 96 = .ok (.iconst 0, 1) := by decide +kernel
theorem dX6_copy_97 : decode cX6_copy 97 = .ok (.bipush 6, 2) := by decide +kernel
theorem dX6_copy_99 : decode cX6_copy 99 = .ok (.invokestatic 85, 3) := by decide +kernel
theorem dX6_copy_102 : decode cX6_copy 102 = .ok (.aload_n 1, 1) := by decide +kernel
theorem dX6_copy_103 : decode cX6_copy 103 = .ok (.getfield 34, 3) := by decide +kernel
theorem dX6_copy_106 : decode cX6_copy 106 = .ok (.iconst 0, 1) := by decide +kernel
theorem dX6_copy_107 : decode cX6_copy 107 = .ok (.aload_n 0, 1) := by decide +kernel
theorem dX6_copy_108 : decode cX6_copy 108 = .ok (.getfield 34, 3) := by decide +kernel
theorem dX6_copy_111 : decode cX6_copy 111 = .ok (.iconst 0, 1) := by decide +kernel
theorem dX6_copy_112 : decode cX6_copy 112 = .ok (.bipush 6, 2) := by decide +kernel
theorem dX6_copy_114 : decode cX6_copy 114 = .ok (.invokestatic 85, 3) := by decide +kernel
theorem dX6_copy_117 : decode cX6_copy 117 = .ok (.aload_n 1, 1) := by decide +kernel
theorem dX6_copy_118 : decode cX6_copy 118 = .ok (.getfield 37, 3) := by decide +kernel
theorem dX6_copy_121 : decode cX6_copy 121 = .ok (.iconst 0, 1) := by decide +kernel
theorem dX6_copy_122 : decode cX6_copy 122 = .ok (.aload_n 0, 1) := by decide +kernel
theorem dX6_copy_123 : decode cX6_copy 123 = .ok (.getfield 37, 3) := by decide +kernel
theorem dX6_copy_126 : decode cX6_copy 126 = .ok (.iconst 0, 1) := by decide +kernel
theorem dX6_copy_127 : decode cX6_copy 127 = .ok (.bipush 6, 2) := by decide +kernel
theorem dX6_copy_129 : decode cX6_copy 129 = .ok (.invokestatic 85, 3) := by decide +kernel
theorem dX6_copy_132 : decode cX6_copy 132 = .ok (.aload_n 1, 1) := by decide +kernel
theorem dX6_copy_133 : decode cX6_copy 133 = .ok (.getfield 43, 3) := by decide +kernel
theorem dX6_copy_136 : decode cX6_copy 136 = .ok (.iconst 0, 1) := by decide +kernel
theorem dX6_copy_137 : decode cX6_copy 137 = .ok (.aload_n 0, 1) := by decide +kernel
theorem dX6_copy_138 : decode cX6_copy 138 = .ok (.getfield 43, 3) := by decide +kernel
theorem dX6_copy_141 : decode cX6_copy 141 = .ok (.iconst 0, 1) := by decide +kernel
theorem dX6_copy_142 : decode cX6_copy 142 = .ok (.iconst 5, 1) := by decide +kernel
theorem dX6_copy_143 : decode cX6_copy 143 = .ok (.invokestatic 85, 3) := by decide +kernel
theorem dX6_copy_146 : decode cX6_copy 146 = .ok (.aload_n 1, 1) := by decide +kernel
theorem dX6_copy_147 : decode cX6_copy 147 = .ok (.getfield 46, 3) := by decide +kernel
theorem dX6_copy_150 : decode cX6_copy 150 = .ok (.iconst 0, 1) := by decide +kernel
theorem dX6_copy_151 : decode cX6_copy 151 = .ok (.aload_n 0, 1) := by decide +kernel
theorem dX6_copy_152 : decode cX6_copy 152 = .ok (.getfield 46, 3) := by decide +kernel
theorem dX6_copy_155 : decode cX6_copy 155 = .ok (.iconst 0, 1) := by decide +kernel
theorem dX6_copy_156 : decode cX6_copy 156 = .ok (.iconst 5, 1) := by decide +kernel
theorem dX6_copy_157 : decode cX6_copy 157 = .ok (.invokestatic 85, 3) := by decide +kernel
theorem dX6_copy_160 : decode cX6_copy 160 = .ok (.aload_n 1, 1) := by decide +kernel
theorem dX6_copy_161 : decode cX6_copy 161 = .ok (.getfield 52, 3) := by decide +kernel
theorem dX6_copy_164 : decode cX6_copy 164 = .ok (.iconst 0, 1) := by decide +kernel
theorem dX6_copy_165 : decode cX6_copy 165 = .ok (.aload_n 0, 1) := by decide +kernel
theorem dX6_copy_166 : decode cX6_copy 166 = .ok (.getfield 52, 3) := by decide +kernel
theorem dX6_copy_169 : decode cX6_copy 169 = .ok (.iconst 0, 1) := by decide +kernel
theorem dX6_copy_170 : decode cX6_copy 170 = .ok (.bipush 16, 2) := by decide +kernel
theorem dX6_copy_172 : decode cX6_copy 172 = .ok (.invokestatic 85, 3) := by decide +kernel
theorem dX6_copy_175 : decode cX6_copy 175 = .ok (.aload_n 0, 1) := by decide +kernel
theorem dX6_copy_176 : decode cX6_copy 176 = .ok (.getfield 64, 3) := by decide +kernel
theorem dX6_copy_179 : decode cX6_copy 179 = .ok (.aload_n 1, 1) := by decide +kernel
theorem dX6_copy_180 : decode cX6_copy 180 = .ok (.getfield 64, 3) := by decide +kernel
theorem dX6_copy_183 : decode cX6_copy 183 = .ok (.invokevirtual 91, 3) := by decide +kernel
theorem dX6_copy_186 : decode cX6_copy 186 = .ok (.aload_n 0, 1) := by decide +kernel
theorem dX6_copy_187 : decode cX6_copy 187 = .ok (.getfield 71, 3) := by decide +kernel
theorem dX6_copy_190 : decode cX6_copy 190 = .ok (.aload_n 1, 1) := by decide +kernel
theorem dX6_copy_191 : decode cX6_copy 191 = .ok (.getfield 71, 3) := by decide +kernel
theorem dX6_copy_194 : decode cX6_copy 194 = .ok (.invokevirtual 95, 3) := by decide +kernel
theorem dX6_copy_197 : decode cX6_copy 197 = .ok (.return_, 1) := by decide +kernel
theorem dX6_isTold_0 : decode cX6_isTold 0 = .ok (.aload_n 0, 1) := by decide +kernel
theorem dX6_isTold_1 : decode cX6_isTold 1 = .ok (.getfield 9, 3) := by decide +kernel
theorem dX6_isTold_4 : decode cX6_isTold 4 = .ok (.ifCond .le 7, 3) := by decide +kernel
theorem dX6_isTold_7 : decode cX6_isTold 7 = .ok (.iconst 1, 1) := by decide +kernel
theorem dX6_isTold_8 : decode cX6_isTold 8 = .ok (.goto 4, 3) := by decide +kernel
theorem dX6_isTold_11 : decode cX6_isTold 11 = .ok (.iconst 0, 1) := by decide +kernel
theorem dX6_isTold_12 : decode cX6_isTold 12 = .ok (.ireturn, 1) := by decide +kernel
theorem dX6_hasRank_0 : decode cX6_hasRank 0 = .ok (.iload_n 1, 1) := by decide +kernel
theorem dX6_hasRank_1 : decode cX6_hasRank 1 = .ok (.ifCond .lt 15, 3) := by decide +kernel
theorem dX6_hasRank_4 : decode cX6_hasRank 4 = .ok (.iload_n 1, 1) := by decide +kernel
theorem dX6_hasRank_5 : decode cX6_hasRank 5 = .ok (.aload_n 0, 1) := by decide +kernel
theorem dX6_hasRank_6 : decode cX6_hasRank 6 = .ok (.getfield 24, 3) := by decide +kernel
theorem dX6_hasRank_9 : decode cX6_hasRank 9 = .ok (.if_icmp .ge 7, 3) := by decide +kernel
theorem dX6_hasRank_12 : decode cX6_hasRank 12 = .ok (.iconst 1, 1) := by decide +kernel
theorem dX6_hasRank_13 : decode cX6_hasRank 13 = .ok (.goto 4, 3) := by decide +kernel
theorem dX6_hasRank_16 : decode cX6_hasRank 16 = .ok (.iconst 0, 1) := by decide +kernel
theorem dX6_hasRank_17 : decode cX6_hasRank 17 = .ok (.ireturn, 1) := by decide +kernel
theorem dX6_hasYear_0 : decode cX6_hasYear 0 = .ok (.iload_n 1, 1) := by decide +kernel
theorem dX6_hasYear_1 : decode cX6_hasYear 1 = .ok (.ifCond .lt 15, 3) := by decide +kernel
theorem dX6_hasYear_4 : decode cX6_hasYear 4 = .ok (.iload_n 1, 1) := by decide +kernel
theorem dX6_hasYear_5 : decode cX6_hasYear 5 = .ok (.aload_n 0, 1) := by decide +kernel
theorem dX6_hasYear_6 : decode cX6_hasYear 6 = .ok (.getfield 15, 3) := by decide +kernel
theorem dX6_hasYear_9 : decode cX6_hasYear 9 = .ok (.if_icmp .ge 7, 3) := by decide +kernel
theorem dX6_hasYear_12 : decode cX6_hasYear 12 = .ok (.iconst 1, 1) := by decide +kernel
theorem dX6_hasYear_13 : decode cX6_hasYear 13 = .ok (.goto 4, 3) := by decide +kernel
theorem dX6_hasYear_16 : decode cX6_hasYear 16 = .ok (.iconst 0, 1) := by decide +kernel
theorem dX6_hasYear_17 : decode cX6_hasYear 17 = .ok (.ireturn, 1) := by decide +kernel
theorem dX6_hasBoth_0 : decode cX6_hasBoth 0 = .ok (.aload_n 0, 1) := by decide +kernel
theorem dX6_hasBoth_1 : decode cX6_hasBoth 1 = .ok (.iload_n 1, 1) := by decide +kernel
theorem dX6_hasBoth_2 : decode cX6_hasBoth 2 = .ok (.invokevirtual 98, 3) := by decide +kernel
theorem dX6_hasBoth_5 : decode cX6_hasBoth 5 = .ok (.ifCond .eq 15, 3) := by decide +kernel
theorem dX6_hasBoth_8 : decode cX6_hasBoth 8 = .ok (.aload_n 0, 1) := by decide +kernel
theorem dX6_hasBoth_9 : decode cX6_hasBoth 9 = .ok (.iload_n 2, 1) := by decide +kernel
theorem dX6_hasBoth_10 : decode cX6_hasBoth 10 = .ok (.invokevirtual 102, 3) := by decide +kernel
theorem dX6_hasBoth_13 : decode cX6_hasBoth 13 = .ok (.ifCond .eq 7, 3) := by decide +kernel
theorem dX6_hasBoth_16 : decode cX6_hasBoth 16 = .ok (.iconst 1, 1) := by decide +kernel
theorem dX6_hasBoth_17 : decode cX6_hasBoth 17 = .ok (.goto 4, 3) := by decide +kernel
theorem dX6_hasBoth_20 : decode cX6_hasBoth 20 = .ok (.iconst 0, 1) := by decide +kernel
theorem dX6_hasBoth_21 : decode cX6_hasBoth 21 = .ok (.ireturn, 1) := by decide +kernel
theorem dX6_hasTwo_0 : decode cX6_hasTwo 0 = .ok (.aload_n 0, 1) := by decide +kernel
theorem dX6_hasTwo_1 : decode cX6_hasTwo 1 = .ok (.iload_n 1, 1) := by decide +kernel
theorem dX6_hasTwo_2 : decode cX6_hasTwo 2 = .ok (.invokevirtual 98, 3) := by decide +kernel
theorem dX6_hasTwo_5 : decode cX6_hasTwo 5 = .ok (.ifCond .eq 20, 3) := by decide +kernel
theorem dX6_hasTwo_8 : decode cX6_hasTwo 8 = .ok (.aload_n 0, 1) := by decide +kernel
theorem dX6_hasTwo_9 : decode cX6_hasTwo 9 = .ok (.iload_n 2, 1) := by decide +kernel
theorem dX6_hasTwo_10 : decode cX6_hasTwo 10 = .ok (.invokevirtual 98, 3) := by decide +kernel
theorem dX6_hasTwo_13 : decode cX6_hasTwo 13 = .ok (.ifCond .eq 12, 3) := by decide +kernel
theorem dX6_hasTwo_16 : decode cX6_hasTwo 16 = .ok (.iload_n 1, 1) := by decide +kernel
theorem dX6_hasTwo_17 : decode cX6_hasTwo 17 = .ok (.iload_n 2, 1) := by decide +kernel
theorem dX6_hasTwo_18 : decode cX6_hasTwo 18 = .ok (.if_icmp .eq 7, 3) := by decide +kernel
theorem dX6_hasTwo_21 : decode cX6_hasTwo 21 = .ok (.iconst 1, 1) := by decide +kernel
theorem dX6_hasTwo_22 : decode cX6_hasTwo 22 = .ok (.goto 4, 3) := by decide +kernel
theorem dX6_hasTwo_25 : decode cX6_hasTwo 25 = .ok (.iconst 0, 1) := by decide +kernel
theorem dX6_hasTwo_26 : decode cX6_hasTwo 26 = .ok (.ireturn, 1) := by decide +kernel
theorem dX6_hasPlank_0 : decode cX6_hasPlank 0 = .ok (.iload_n 1, 1) := by decide +kernel
theorem dX6_hasPlank_1 : decode cX6_hasPlank 1 = .ok (.ifCond .lt 15, 3) := by decide +kernel
theorem dX6_hasPlank_4 : decode cX6_hasPlank 4 = .ok (.iload_n 1, 1) := by decide +kernel
theorem dX6_hasPlank_5 : decode cX6_hasPlank 5 = .ok (.aload_n 0, 1) := by decide +kernel
theorem dX6_hasPlank_6 : decode cX6_hasPlank 6 = .ok (.getfield 40, 3) := by decide +kernel
theorem dX6_hasPlank_9 : decode cX6_hasPlank 9 = .ok (.if_icmp .ge 7, 3) := by decide +kernel
theorem dX6_hasPlank_12 : decode cX6_hasPlank 12 = .ok (.iconst 1, 1) := by decide +kernel
theorem dX6_hasPlank_13 : decode cX6_hasPlank 13 = .ok (.goto 4, 3) := by decide +kernel
theorem dX6_hasPlank_16 : decode cX6_hasPlank 16 = .ok (.iconst 0, 1) := by decide +kernel
theorem dX6_hasPlank_17 : decode cX6_hasPlank 17 = .ok (.ireturn, 1) := by decide +kernel
theorem dX6_everyRank_0 : decode cX6_everyRank 0 = .ok (.iconst 1, 1) := by decide +kernel
theorem dX6_everyRank_1 : decode cX6_everyRank 1 = .ok (.aload_n 0, 1) := by decide +kernel
theorem dX6_everyRank_2 : decode cX6_everyRank 2 = .ok (.getfield 24, 3) := by decide +kernel
theorem dX6_everyRank_5 : decode cX6_everyRank 5 = .ok (.ishl, 1) := by decide +kernel
theorem dX6_everyRank_6 : decode cX6_everyRank 6 = .ok (.iconst 1, 1) := by decide +kernel
theorem dX6_everyRank_7 : decode cX6_everyRank 7 = .ok (.isub, 1) := by decide +kernel
theorem dX6_everyRank_8 : decode cX6_everyRank 8 = .ok (.ireturn, 1) := by decide +kernel
theorem dX6_opened_0 : decode cX6_opened 0 = .ok (.aload_n 0, 1) := by decide +kernel
theorem dX6_opened_1 : decode cX6_opened 1 = .ok (.iload_n 1, 1) := by decide +kernel
theorem dX6_opened_2 : decode cX6_opened 2 = .ok (.invokevirtual 98, 3) := by decide +kernel
theorem dX6_opened_5 : decode cX6_opened 5 = .ok (.ifCond .eq 19, 3) := by decide +kernel
theorem dX6_opened_8 : decode cX6_opened 8 = .ok (.iload_n 2, 1) := by decide +kernel
theorem dX6_opened_9 : decode cX6_opened 9 = .ok (.aload_n 0, 1) := by decide +kernel
theorem dX6_opened_10 : decode cX6_opened 10 = .ok (.getfield 27, 3) := by decide +kernel
theorem dX6_opened_13 : decode cX6_opened 13 = .ok (.iload_n 1, 1) := by decide +kernel
theorem dX6_opened_14 : decode cX6_opened 14 = .ok (.iaload, 1) := by decide +kernel
theorem dX6_opened_15 : decode cX6_opened 15 = .ok (.if_icmp .lt 9, 3) := by decide +kernel
theorem dX6_opened_18 : decode cX6_opened 18 = .ok (.iconst 1, 1) := by decide +kernel
theorem dX6_opened_19 : decode cX6_opened 19 = .ok (.iload_n 1, 1) := by decide +kernel
theorem dX6_opened_20 : decode cX6_opened 20 = .ok (.ishl, 1) := by decide +kernel
theorem dX6_opened_21 : decode cX6_opened 21 = .ok (.goto 4, 3) := by decide +kernel
theorem dX6_opened_24 : decode cX6_opened 24 = .ok (.iconst 0, 1) := by decide +kernel
theorem dX6_opened_25 : decode cX6_opened 25 = .ok (.ireturn, 1) := by decide +kernel
theorem dX6_openedByTold_0 : decode cX6_openedByTold 0 = .ok (.iconst 0, 1) := by decide +kernel
theorem dX6_openedByTold_1 : decode cX6_openedByTold 1 = .ok (.istore_n 2, 1) := by decide +kernel
theorem dX6_openedByTold_2 : decode cX6_openedByTold 2 = .ok (.iconst 0, 1) := by decide +kernel
theorem dX6_openedByTold_3 : decode cX6_openedByTold 3 = .ok (.istore_n 3, 1) := by decide +kernel
theorem dX6_openedByTold_4 : decode cX6_openedByTold 4 = .ok (.iload_n 3, 1) := by decide +kernel
theorem dX6_openedByTold_5 : decode cX6_openedByTold 5 = .ok (.aload_n 0, 1) := by decide +kernel
theorem dX6_openedByTold_6 : decode cX6_openedByTold 6 = .ok (.getfield 40, 3) := by decide +kernel
theorem dX6_openedByTold_9 : decode cX6_openedByTold 9 = .ok (.if_icmp .ge 33, 3) := by decide +kernel
theorem dX6_openedByTold_12 : decode cX6_openedByTold 12 = .ok (.iload_n 3, 1) := by decide +kernel
theorem dX6_openedByTold_13 : decode cX6_openedByTold 13 = .ok (.iload_n 1, 1) := by decide +kernel
theorem dX6_openedByTold_14 : decode cX6_openedByTold 14 = .ok (.if_icmp .eq 22, 3) := by decide +kernel
theorem dX6_openedByTold_17 : decode cX6_openedByTold 17 = .ok (.iload_n 2, 1) := by decide +kernel
theorem dX6_openedByTold_18 : decode cX6_openedByTold 18 = .ok (.aload_n 0, 1) := by decide +kernel
theorem dX6_openedByTold_19 : decode cX6_openedByTold 19 = .ok (.aload_n 0, 1) := by decide +kernel
theorem dX6_openedByTold_20 : decode cX6_openedByTold 20 = .ok (.getfield 46, 3) := by decide +kernel
theorem dX6_openedByTold_23 : decode cX6_openedByTold 23 = .ok (.iload_n 3, 1) := by decide +kernel
theorem dX6_openedByTold_24 : decode cX6_openedByTold 24 = .ok (.iaload, 1) := by decide +kernel
theorem dX6_openedByTold_25 : decode cX6_openedByTold 25 = .ok (.aload_n 0, 1) := by decide +kernel
theorem dX6_openedByTold_26 : decode cX6_openedByTold 26 = .ok (.getfield 43, 3) := by decide +kernel
theorem dX6_openedByTold_29 : decode cX6_openedByTold 29 = .ok (.iload_n 3, 1) := by decide +kernel
theorem dX6_openedByTold_30 : decode cX6_openedByTold 30 = .ok (.iaload, 1) := by decide +kernel
theorem dX6_openedByTold_31 : decode cX6_openedByTold 31 = .ok (.invokevirtual 105, 3) := by decide +kernel
theorem dX6_openedByTold_34 : decode cX6_openedByTold 34 = .ok (.ior, 1) := by decide +kernel
theorem dX6_openedByTold_35 : decode cX6_openedByTold 35 = .ok (.istore_n 2, 1) := by decide +kernel
theorem dX6_openedByTold_36 : decode cX6_openedByTold 36 = .ok (.iinc 3 1, 3) := by decide +kernel
theorem dX6_openedByTold_39 : decode cX6_openedByTold 39 = .ok (.goto (-35), 3) := by decide +kernel
theorem dX6_openedByTold_42 : decode cX6_openedByTold 42 = .ok (.iload_n 2, 1) := by decide +kernel
theorem dX6_openedByTold_43 : decode cX6_openedByTold 43 = .ok (.ireturn, 1) := by decide +kernel
theorem dX6_openedByActs_0 : decode cX6_openedByActs 0 = .ok (.iconst 0, 1) := by decide +kernel
theorem dX6_openedByActs_1 : decode cX6_openedByActs 1 = .ok (.istore_n 1, 1) := by decide +kernel
theorem dX6_openedByActs_2 : decode cX6_openedByActs 2 = .ok (.iconst 0, 1) := by decide +kernel
theorem dX6_openedByActs_3 : decode cX6_openedByActs 3 = .ok (.istore_n 2, 1) := by decide +kernel
theorem dX6_openedByActs_4 : decode cX6_openedByActs 4 = .ok (.iload_n 2, 1) := by decide +kernel
theorem dX6_openedByActs_5 : decode cX6_openedByActs 5 = .ok (.aload_n 0, 1) := by decide +kernel
theorem dX6_openedByActs_6 : decode cX6_openedByActs 6 = .ok (.getfield 71, 3) := by decide +kernel
theorem dX6_openedByActs_9 : decode cX6_openedByActs 9 = .ok (.getfield 84, 3) := by decide +kernel
theorem dX6_openedByActs_12 : decode cX6_openedByActs 12 = .ok (.if_icmp .ge 46, 3) := by decide +kernel
theorem dX6_openedByActs_15 : decode cX6_openedByActs 15 = .ok (.aload_n 0, 1) := by decide +kernel
theorem dX6_openedByActs_16 : decode cX6_openedByActs 16 = .ok (.getfield 71, 3) := by decide +kernel
theorem dX6_openedByActs_19 : decode cX6_openedByActs 19 = .ok (.getfield 109, 3) := by decide +kernel
theorem dX6_openedByActs_22 : decode cX6_openedByActs 22 = .ok (.iload_n 2, 1) := by decide +kernel
theorem dX6_openedByActs_23 : decode cX6_openedByActs 23 = .ok (.iaload, 1) := by decide +kernel
theorem dX6_openedByActs_24 : decode cX6_openedByActs 24 = .ok (.ifCond .eq 28, 3) := by decide +kernel
theorem dX6_openedByActs_27 : decode cX6_openedByActs 27 = .ok (.iload_n 1, 1) := by decide +kernel
theorem dX6_openedByActs_28 : decode cX6_openedByActs 28 = .ok (.aload_n 0, 1) := by decide +kernel
theorem dX6_openedByActs_29 : decode cX6_openedByActs 29 = .ok (.aload_n 0, 1) := by decide +kernel
theorem dX6_openedByActs_30 : decode cX6_openedByActs 30 = .ok (.getfield 71, 3) := by decide +kernel
theorem dX6_openedByActs_33 : decode cX6_openedByActs 33 = .ok (.getfield 110, 3) := by decide +kernel
theorem dX6_openedByActs_36 : decode cX6_openedByActs 36 = .ok (.iload_n 2, 1) := by decide +kernel
theorem dX6_openedByActs_37 : decode cX6_openedByActs 37 = .ok (.iaload, 1) := by decide +kernel
theorem dX6_openedByActs_38 : decode cX6_openedByActs 38 = .ok (.aload_n 0, 1) := by decide +kernel
theorem dX6_openedByActs_39 : decode cX6_openedByActs 39 = .ok (.getfield 71, 3) := by decide +kernel
theorem dX6_openedByActs_42 : decode cX6_openedByActs 42 = .ok (.getfield 109, 3) := by decide +kernel
theorem dX6_openedByActs_45 : decode cX6_openedByActs 45 = .ok (.iload_n 2, 1) := by decide +kernel
theorem dX6_openedByActs_46 : decode cX6_openedByActs 46 = .ok (.iaload, 1) := by decide +kernel
theorem dX6_openedByActs_47 : decode cX6_openedByActs 47 = .ok (.invokevirtual 105, 3) := by decide +kernel
theorem dX6_openedByActs_50 : decode cX6_openedByActs 50 = .ok (.ior, 1) := by decide +kernel
theorem dX6_openedByActs_51 : decode cX6_openedByActs 51 = .ok (.istore_n 1, 1) := by decide +kernel
theorem dX6_openedByActs_52 : decode cX6_openedByActs 52 = .ok (.iinc 2 1, 3) := by decide +kernel
theorem dX6_openedByActs_55 : decode cX6_openedByActs 55 = .ok (.goto (-51), 3) := by decide +kernel
theorem dX6_openedByActs_58 : decode cX6_openedByActs 58 = .ok (.iload_n 1, 1) := by decide +kernel
theorem dX6_openedByActs_59 : decode cX6_openedByActs 59 = .ok (.ireturn, 1) := by decide +kernel
theorem dX7_init_0 : decode cX7_init 0 = .ok (.aload_n 0, 1) := by decide +kernel
theorem dX7_init_1 : decode cX7_init 1 = .ok (.invokespecial 3, 3) := by decide +kernel
theorem dX7_init_4 : decode cX7_init 4 = .ok (.aload_n 0, 1) := by decide +kernel
theorem dX7_init_5 : decode cX7_init 5 = .ok (.iconst (-1), 1) := by decide +kernel
theorem dX7_init_6 : decode cX7_init 6 = .ok (.putfield 9, 3) := by decide +kernel
theorem dX7_init_9 : decode cX7_init 9 = .ok (.aload_n 0, 1) := by decide +kernel
theorem dX7_init_10 : decode cX7_init 10 = .ok (.iconst 0, 1) := by decide +kernel
theorem dX7_init_11 : decode cX7_init 11 = .ok (.putfield 15, 3) := by decide +kernel
theorem dX7_init_14 : decode cX7_init 14 = .ok (.aload_n 0, 1) := by decide +kernel
theorem dX7_init_15 : decode cX7_init 15 = .ok (.bipush 60, 2) := by decide +kernel
theorem dX7_init_17 : decode cX7_init 17 = .ok (.newarray .long, 2) := by decide +kernel
theorem dX7_init_19 : decode cX7_init 19 = .ok (.putfield 18, 3) := by decide +kernel
theorem dX7_init_22 : decode cX7_init 22 = .ok (.return_, 1) := by decide +kernel
theorem dX7_make_0 : decode cX7_make 0 = .ok (.aload_n 0, 1) := by decide +kernel
theorem dX7_make_1 : decode cX7_make 1 = .ok (.iload_n 1, 1) := by decide +kernel
theorem dX7_make_2 : decode cX7_make 2 = .ok (.putfield 9, 3) := by decide +kernel
theorem dX7_make_5 : decode cX7_make 5 = .ok (.aload_n 0, 1) := by decide +kernel
theorem dX7_make_6 : decode cX7_make 6 = .ok (.iload_n 2, 1) := by decide +kernel
theorem dX7_make_7 : decode cX7_make 7 = .ok (.putfield 15, 3) := by decide +kernel
theorem dX7_make_10 : decode cX7_make 10 = .ok (.aload_n 0, 1) := by decide +kernel
theorem dX7_make_11 : decode cX7_make 11 = .ok (.getfield 18, 3) := by decide +kernel
theorem dX7_make_14 : decode cX7_make 14 = .ok (.lconst 0, 1) := by decide +kernel
theorem dX7_make_15 : decode cX7_make 15 = .ok (.invokestatic 22, 3) := by decide +kernel
theorem dX7_make_18 : decode cX7_make 18 = .ok (.return_, 1) := by decide +kernel
theorem dX7_isThere_0 : decode cX7_isThere 0 = .ok (.aload_n 0, 1) := by decide +kernel
theorem dX7_isThere_1 : decode cX7_isThere 1 = .ok (.getfield 9, 3) := by decide +kernel
theorem dX7_isThere_4 : decode cX7_isThere 4 = .ok (.iconst (-1), 1) := by decide +kernel
theorem dX7_isThere_5 : decode cX7_isThere 5 = .ok (.if_icmp .eq 7, 3) := by decide +kernel
theorem dX7_isThere_8 : decode cX7_isThere 8 = .ok (.iconst 1, 1) := by decide +kernel
theorem dX7_isThere_9 : decode cX7_isThere 9 = .ok (.goto 4, 3) := by decide +kernel
theorem dX7_isThere_12 : decode cX7_isThere 12 = .ok (.iconst 0, 1) := by decide +kernel
theorem dX7_isThere_13 : decode cX7_isThere 13 = .ok (.ireturn, 1) := by decide +kernel
theorem dX7_hasRange_0 : decode cX7_hasRange 0 = .ok (.iload_n 1, 1) := by decide +kernel
theorem dX7_hasRange_1 : decode cX7_hasRange 1 = .ok (.ifCond .lt 25, 3) := by decide +kernel
theorem dX7_hasRange_4 : decode cX7_hasRange 4 = .ok (.iload_n 2, 1) := by decide +kernel
theorem dX7_hasRange_5 : decode cX7_hasRange 5 = .ok (.ifCond .lt 21, 3) := by decide +kernel
theorem dX7_hasRange_8 : decode cX7_hasRange 8 = .ok (.iload_n 1, 1) := by decide +kernel
theorem dX7_hasRange_9 : decode cX7_hasRange 9 = .ok (.i2l, 1) := by decide +kernel
theorem dX7_hasRange_10 : decode cX7_hasRange 10 = .ok (.iload_n 2, 1) := by decide +kernel
theorem dX7_hasRange_11 : decode cX7_hasRange 11 = .ok (.i2l, 1) := by decide +kernel
theorem dX7_hasRange_12 : decode cX7_hasRange 12 = .ok (.ladd, 1) := by decide +kernel
theorem dX7_hasRange_13 : decode cX7_hasRange 13 = .ok (.aload_n 0, 1) := by decide +kernel
theorem dX7_hasRange_14 : decode cX7_hasRange 14 = .ok (.getfield 15, 3) := by decide +kernel
theorem dX7_hasRange_17 : decode cX7_hasRange 17 = .ok (.i2l, 1) := by decide +kernel
theorem dX7_hasRange_18 : decode cX7_hasRange 18 = .ok (.lcmp, 1) := by decide +kernel
theorem dX7_hasRange_19 : decode cX7_hasRange 19 = .ok (.ifCond .gt 7, 3) := by decide +kernel
theorem dX7_hasRange_22 : decode cX7_hasRange 22 = .ok (.iconst 1, 1) := by decide +kernel
theorem dX7_hasRange_23 : decode cX7_hasRange 23 = .ok (.goto 4, 3) := by decide +kernel
theorem dX7_hasRange_26 : decode cX7_hasRange 26 = .ok (.iconst 0, 1) := by decide +kernel
theorem dX7_hasRange_27 : decode cX7_hasRange 27 = .ok (.ireturn, 1) := by decide +kernel
theorem dX7_tellsOf_0 : decode cX7_tellsOf 0 = .ok (.aload_n 0, 1) := by decide +kernel
theorem dX7_tellsOf_1 : decode cX7_tellsOf 1 = .ok (.getfield 15, 3) := by decide +kernel
theorem dX7_tellsOf_4 : decode cX7_tellsOf 4 = .ok (.iconst 3, 1) := by decide +kernel
theorem dX7_tellsOf_5 : decode cX7_tellsOf 5 = .ok (.irem, 1) := by decide +kernel
theorem dX7_tellsOf_6 : decode cX7_tellsOf 6 = .ok (.ifCond .eq 5, 3) := by decide +kernel
theorem dX7_tellsOf_9 : decode cX7_tellsOf 9 = .ok (.iconst 0, 1) := by decide +kernel
theorem dX7_tellsOf_10 : decode cX7_tellsOf 10 = .ok (.ireturn, 1) := by decide +kernel
theorem dX7_tellsOf_11 : decode cX7_tellsOf 11 = .ok (.iconst 0, 1) := by decide +kernel
theorem dX7_tellsOf_12 : decode cX7_tellsOf 12 = .ok (.istore_n 2, 1) := by decide +kernel
theorem dX7_tellsOf_13 : decode cX7_tellsOf 13 = .ok (.iload_n 2, 1) := by decide +kernel
theorem dX7_tellsOf_14 : decode cX7_tellsOf 14 = .ok (.iconst 2, 1) := by decide +kernel
theorem dX7_tellsOf_15 : decode cX7_tellsOf 15 = .ok (.iadd, 1) := by decide +kernel
theorem dX7_tellsOf_16 : decode cX7_tellsOf 16 = .ok (.aload_n 0, 1) := by decide +kernel
theorem dX7_tellsOf_17 : decode cX7_tellsOf 17 = .ok (.getfield 15, 3) := by decide +kernel
theorem dX7_tellsOf_20 : decode cX7_tellsOf 20 = .ok (.if_icmp .ge 71, 3) := by decide +kernel
theorem dX7_tellsOf_23 : decode cX7_tellsOf 23 = .ok (.aload_n 0, 1) := by decide +kernel
theorem dX7_tellsOf_24 : decode cX7_tellsOf 24 = .ok (.getfield 18, 3) := by decide +kernel
theorem dX7_tellsOf_27 : decode cX7_tellsOf 27 = .ok (.iload_n 2, 1) := by decide +kernel
theorem dX7_tellsOf_28 : decode cX7_tellsOf 28 = .ok (.laload, 1) := by decide +kernel
theorem dX7_tellsOf_29 : decode cX7_tellsOf 29 = .ok (.aload_n 1, 1) := by decide +kernel
theorem dX7_tellsOf_30 : decode cX7_tellsOf 30 = .ok (.getfield 28, 3) := by decide +kernel
theorem dX7_tellsOf_33 : decode cX7_tellsOf 33 = .ok (.invokestatic 33, 3) := by decide +kernel
theorem dX7_tellsOf_36 : decode cX7_tellsOf 36 = .ok (.ifCond .eq 25, 3) := by decide +kernel
theorem dX7_tellsOf_39 : decode cX7_tellsOf 39 = .ok (.aload_n 0, 1) := by decide +kernel
theorem dX7_tellsOf_40 : decode cX7_tellsOf 40 = .ok (.getfield 18, 3) := by decide +kernel
theorem dX7_tellsOf_43 : decode cX7_tellsOf 43 = .ok (.iload_n 2, 1) := by decide +kernel
theorem dX7_tellsOf_44 : decode cX7_tellsOf 44 = .ok (.iconst 1, 1) := by decide +kernel
theorem dX7_tellsOf_45 : decode cX7_tellsOf 45 = .ok (.iadd, 1) := by decide +kernel
theorem dX7_tellsOf_46 : decode cX7_tellsOf 46 = .ok (.laload, 1) := by decide +kernel
theorem dX7_tellsOf_47 : decode cX7_tellsOf 47 = .ok (.aload_n 1, 1) := by decide +kernel
theorem dX7_tellsOf_48 : decode cX7_tellsOf 48 = .ok (.getfield 37, 3) := by decide +kernel
theorem dX7_tellsOf_51 : decode cX7_tellsOf 51 = .ok (.invokestatic 33, 3) := by decide +kernel
theorem dX7_tellsOf_54 : decode cX7_tellsOf 54 = .ok (.ifCond .eq 7, 3) := by decide +kernel
theorem dX7_tellsOf_57 : decode cX7_tellsOf 57 = .ok (.iconst 1, 1) := by decide +kernel
theorem dX7_tellsOf_58 : decode cX7_tellsOf 58 = .ok (.goto 4, 3) := by decide +kernel
theorem dX7_tellsOf_61 : decode cX7_tellsOf 61 = .ok (.iconst 0, 1) := by decide +kernel
theorem dX7_tellsOf_62 : decode cX7_tellsOf 62 = .ok (.istore_n 3, 1) := by decide +kernel
theorem dX7_tellsOf_63 : decode cX7_tellsOf 63 = .ok (.iload_n 3, 1) := by decide +kernel
theorem dX7_tellsOf_64 : decode cX7_tellsOf 64 = .ok (.ifCond .eq 19, 3) := by decide +kernel
theorem dX7_tellsOf_67 : decode cX7_tellsOf 67 = .ok (.aload_n 0, 1) := by decide +kernel
theorem dX7_tellsOf_68 : decode cX7_tellsOf 68 = .ok (.getfield 18, 3) := by decide +kernel
theorem dX7_tellsOf_71 : decode cX7_tellsOf 71 = .ok (.iload_n 2, 1) := by decide +kernel
theorem dX7_tellsOf_72 : decode cX7_tellsOf 72 = .ok (.iconst 2, 1) := by decide +kernel
theorem dX7_tellsOf_73 : decode cX7_tellsOf 73 = .ok (.iadd, 1) := by decide +kernel
theorem dX7_tellsOf_74 : decode cX7_tellsOf 74 = .ok (.laload, 1) := by decide +kernel
theorem dX7_tellsOf_75 : decode cX7_tellsOf 75 = .ok (.bipush 100, 2) := by decide +kernel
theorem dX7_tellsOf_77 : decode cX7_tellsOf 77 = .ok (.invokestatic 33, 3) := by decide +kernel
theorem dX7_tellsOf_80 : decode cX7_tellsOf 80 = .ok (.ifCond .ne 5, 3) := by decide +kernel
theorem dX7_tellsOf_83 : decode cX7_tellsOf 83 = .ok (.iconst 0, 1) := by decide +kernel
theorem dX7_tellsOf_84 : decode cX7_tellsOf 84 = .ok (.ireturn, 1) := by decide +kernel
theorem dX7_tellsOf_85 : decode cX7_tellsOf 85 = .ok (.iinc 2 3, 3) := by decide +kernel
theorem dX7_tellsOf_88 : decode cX7_tellsOf 88 = .ok (.goto (-75), 3) := by decide +kernel
theorem dX7_tellsOf_91 : decode cX7_tellsOf 91 = .ok (.iconst 1, 1) := by decide +kernel
theorem dX7_tellsOf_92 : decode cX7_tellsOf 92 = .ok (.ireturn, 1) := by decide +kernel
theorem dX7_isBelow_0 : decode cX7_isBelow 0 = .ok (.lload_n 0, 1) := by decide +kernel
theorem dX7_isBelow_1 : decode cX7_isBelow 1 = .ok (.lconst 0, 1) := by decide +kernel
theorem dX7_isBelow_2 : decode cX7_isBelow 2 = .ok (.lcmp, 1) := by decide +kernel
theorem dX7_isBelow_3 : decode cX7_isBelow 3 = .ok (.ifCond .lt 14, 3) := by decide +kernel
theorem dX7_isBelow_6 : decode cX7_isBelow 6 = .ok (.lload_n 0, 1) := by decide +kernel
theorem dX7_isBelow_7 : decode cX7_isBelow 7 = .ok (.iload_n 2, 1) := by decide +kernel
theorem dX7_isBelow_8 : decode cX7_isBelow 8 = .ok (.i2l, 1) := by decide +kernel
theorem dX7_isBelow_9 : decode cX7_isBelow 9 = .ok (.lcmp, 1) := by decide +kernel
theorem dX7_isBelow_10 : decode cX7_isBelow 10 = .ok (.ifCond .ge 7, 3) := by decide +kernel
theorem dX7_isBelow_13 : decode cX7_isBelow 13 = .ok (.iconst 1, 1) := by decide +kernel
theorem dX7_isBelow_14 : decode cX7_isBelow 14 = .ok (.goto 4, 3) := by decide +kernel
theorem dX7_isBelow_17 : decode cX7_isBelow 17 = .ok (.iconst 0, 1) := by decide +kernel
theorem dX7_isBelow_18 : decode cX7_isBelow 18 = .ok (.ireturn, 1) := by decide +kernel
theorem dX7_isSeenIn_0 : decode cX7_isSeenIn 0 = .ok (.iconst 0, 1) := by decide +kernel
theorem dX7_isSeenIn_1 : decode cX7_isSeenIn 1 = .ok (.istore_n 2, 1) := by decide +kernel
theorem dX7_isSeenIn_2 : decode cX7_isSeenIn 2 = .ok (.iload_n 2, 1) := by decide +kernel
theorem dX7_isSeenIn_3 : decode cX7_isSeenIn 3 = .ok (.iconst 2, 1) := by decide +kernel
theorem dX7_isSeenIn_4 : decode cX7_isSeenIn 4 = .ok (.iadd, 1) := by decide +kernel
theorem dX7_isSeenIn_5 : decode cX7_isSeenIn 5 = .ok (.aload_n 0, 1) := by decide +kernel
theorem dX7_isSeenIn_6 : decode cX7_isSeenIn 6 = .ok (.getfield 15, 3) := by decide +kernel
theorem dX7_isSeenIn_9 : decode cX7_isSeenIn 9 = .ok (.if_icmp .ge 50, 3) := by decide +kernel
theorem dX7_isSeenIn_12 : decode cX7_isSeenIn 12 = .ok (.aload_n 0, 1) := by decide +kernel
theorem dX7_isSeenIn_13 : decode cX7_isSeenIn 13 = .ok (.getfield 18, 3) := by decide +kernel
theorem dX7_isSeenIn_16 : decode cX7_isSeenIn 16 = .ok (.iload_n 2, 1) := by decide +kernel
theorem dX7_isSeenIn_17 : decode cX7_isSeenIn 17 = .ok (.laload, 1) := by decide +kernel
theorem dX7_isSeenIn_18 : decode cX7_isSeenIn 18 = .ok (.l2i, 1) := by decide +kernel
theorem dX7_isSeenIn_19 : decode cX7_isSeenIn 19 = .ok (.aload_n 0, 1) := by decide +kernel
theorem dX7_isSeenIn_20 : decode cX7_isSeenIn 20 = .ok (.getfield 18, 3) := by decide +kernel
theorem dX7_isSeenIn_23 : decode cX7_isSeenIn 23 = .ok (.iload_n 2, 1) := by decide +kernel
theorem dX7_isSeenIn_24 : decode cX7_isSeenIn 24 = .ok (.iconst 1, 1) := by decide +kernel
theorem dX7_isSeenIn_25 : decode cX7_isSeenIn 25 = .ok (.iadd, 1) := by decide +kernel
theorem dX7_isSeenIn_26 : decode cX7_isSeenIn 26 = .ok (.laload, 1) := by decide +kernel
theorem dX7_isSeenIn_27 : decode cX7_isSeenIn 27 = .ok (.l2i, 1) := by decide +kernel
theorem dX7_isSeenIn_28 : decode cX7_isSeenIn 28 = .ok (.invokestatic 40, 3) := by decide +kernel
theorem dX7_isSeenIn_31 : decode cX7_isSeenIn 31 = .ok (.istore_n 3, 1) := by decide +kernel
theorem dX7_isSeenIn_32 : decode cX7_isSeenIn 32 = .ok (.aload_n 1, 1) := by decide +kernel
theorem dX7_isSeenIn_33 : decode cX7_isSeenIn 33 = .ok (.getfield 44, 3) := by decide +kernel
theorem dX7_isSeenIn_36 : decode cX7_isSeenIn 36 = .ok (.iload_n 3, 1) := by decide +kernel
theorem dX7_isSeenIn_37 : decode cX7_isSeenIn 37 = .ok (.iaload, 1) := by decide +kernel
theorem dX7_isSeenIn_38 : decode cX7_isSeenIn 38 = .ok (.i2l, 1) := by decide +kernel
theorem dX7_isSeenIn_39 : decode cX7_isSeenIn 39 = .ok (.aload_n 0, 1) := by decide +kernel
theorem dX7_isSeenIn_40 : decode cX7_isSeenIn 40 = .ok (.getfield 18, 3) := by decide +kernel
theorem dX7_isSeenIn_43 : decode cX7_isSeenIn 43 = .ok (.iload_n 2, 1) := by decide +kernel
theorem dX7_isSeenIn_44 : decode cX7_isSeenIn 44 = .ok (.iconst 2, 1) := by decide +kernel
theorem dX7_isSeenIn_45 : decode cX7_isSeenIn 45 = .ok (.iadd, 1) := by decide +kernel
theorem dX7_isSeenIn_46 : decode cX7_isSeenIn 46 = .ok (.laload, 1) := by decide +kernel
theorem dX7_isSeenIn_47 : decode cX7_isSeenIn 47 = .ok (.lcmp, 1) := by decide +kernel
theorem dX7_isSeenIn_48 : decode cX7_isSeenIn 48 = .ok (.ifCond .eq 5, 3) := by decide +kernel
theorem dX7_isSeenIn_51 : decode cX7_isSeenIn 51 = .ok (.iconst 0, 1) := by decide +kernel
theorem dX7_isSeenIn_52 : decode cX7_isSeenIn 52 = .ok (.ireturn, 1) := by decide +kernel
theorem dX7_isSeenIn_53 : decode cX7_isSeenIn 53 = .ok (.iinc 2 3, 3) := by decide +kernel
theorem dX7_isSeenIn_56 : decode cX7_isSeenIn 56 = .ok (.goto (-54), 3) := by decide +kernel
theorem dX7_isSeenIn_59 : decode cX7_isSeenIn 59 = .ok (.iconst 1, 1) := by decide +kernel
theorem dX7_isSeenIn_60 : decode cX7_isSeenIn 60 = .ok (.ireturn, 1) := by decide +kernel
theorem dX8_init_0 : decode cX8_init 0 = .ok (.aload_n 0, 1) := by decide +kernel
theorem dX8_init_1 : decode cX8_init 1 = .ok (.invokespecial 3, 3) := by decide +kernel
theorem dX8_init_4 : decode cX8_init 4 = .ok (.aload_n 0, 1) := by decide +kernel
theorem dX8_init_5 : decode cX8_init 5 = .ok (.sipush 900, 3) := by decide +kernel
theorem dX8_init_8 : decode cX8_init 8 = .ok (.newarray .byte, 2) := by decide +kernel
theorem dX8_init_10 : decode cX8_init 10 = .ok (.putfield 9, 3) := by decide +kernel
theorem dX8_init_13 : decode cX8_init 13 = .ok (.aload_n 0, 1) := by decide +kernel
theorem dX8_init_14 : decode cX8_init 14 = .ok (.iconst 0, 1) := by decide +kernel
theorem dX8_init_15 : decode cX8_init 15 = .ok (.putfield 15, 3) := by decide +kernel
theorem dX8_init_18 : decode cX8_init 18 = .ok (.return_, 1) := by decide +kernel
theorem dX8_put_0 : decode cX8_put 0 = .ok (.bipush 24, 2) := by decide +kernel
theorem dX8_put_2 : decode cX8_put 2 = .ok (.istore_n 2, 1) := by decide +kernel
theorem dX8_put_3 : decode cX8_put 3 = .ok (.iload_n 2, 1) := by decide +kernel
theorem dX8_put_4 : decode cX8_put 4 = .ok (.ifCond .lt 42, 3) := by decide +kernel
theorem dX8_put_7 : decode cX8_put 7 = .ok (.aload_n 0, 1) := by decide +kernel
theorem dX8_put_8 : decode cX8_put 8 = .ok (.getfield 15, 3) := by decide +kernel
theorem dX8_put_11 : decode cX8_put 11 = .ok (.sipush 900, 3) := by decide +kernel
theorem dX8_put_14 : decode cX8_put 14 = .ok (.if_icmp .ge 32, 3) := by decide +kernel
theorem dX8_put_17 : decode cX8_put 17 = .ok (.aload_n 0, 1) := by decide +kernel
theorem dX8_put_18 : decode cX8_put 18 = .ok (.getfield 9, 3) := by decide +kernel
theorem dX8_put_21 : decode cX8_put 21 = .ok (.aload_n 0, 1) := by decide +kernel
theorem dX8_put_22 : decode cX8_put 22 = .ok (.getfield 15, 3) := by decide +kernel
theorem dX8_put_25 : decode cX8_put 25 = .ok (.iload_n 1, 1) := by decide +kernel
theorem dX8_put_26 : decode cX8_put 26 = .ok (.iload_n 2, 1) := by decide +kernel
theorem dX8_put_27 : decode cX8_put 27 = .ok (.ishr, 1) := by decide +kernel
theorem dX8_put_28 : decode cX8_put 28 = .ok (.i2b, 1) := by decide +kernel
theorem dX8_put_29 : decode cX8_put 29 = .ok (.bastore, 1) := by decide +kernel
theorem dX8_put_30 : decode cX8_put 30 = .ok (.aload_n 0, 1) := by decide +kernel
theorem dX8_put_31 : decode cX8_put 31 = .ok (.dup, 1) := by decide +kernel
theorem dX8_put_32 : decode cX8_put 32 = .ok (.getfield 15, 3) := by decide +kernel
theorem dX8_put_35 : decode cX8_put 35 = .ok (.iconst 1, 1) := by decide +kernel
theorem dX8_put_36 : decode cX8_put 36 = .ok (.iadd, 1) := by decide +kernel
theorem dX8_put_37 : decode cX8_put 37 = .ok (.putfield 15, 3) := by decide +kernel
theorem dX8_put_40 : decode cX8_put 40 = .ok (.iinc 2 (-8), 3) := by decide +kernel
theorem dX8_put_43 : decode cX8_put 43 = .ok (.goto (-40), 3) := by decide +kernel
theorem dX8_put_46 : decode cX8_put 46 = .ok (.return_, 1) := by decide +kernel
theorem dX8_at_0 : decode cX8_at 0 = .ok (.iload_n 1, 1) := by decide +kernel
theorem dX8_at_1 : decode cX8_at 1 = .ok (.ifCond .lt 24, 3) := by decide +kernel
theorem dX8_at_4 : decode cX8_at 4 = .ok (.iload_n 1, 1) := by decide +kernel
theorem dX8_at_5 : decode cX8_at 5 = .ok (.aload_n 0, 1) := by decide +kernel
theorem dX8_at_6 : decode cX8_at 6 = .ok (.getfield 15, 3) := by decide +kernel
theorem dX8_at_9 : decode cX8_at 9 = .ok (.if_icmp .ge 16, 3) := by decide +kernel
theorem dX8_at_12 : decode cX8_at 12 = .ok (.aload_n 0, 1) := by decide +kernel
theorem dX8_at_13 : decode cX8_at 13 = .ok (.getfield 9, 3) := by decide +kernel
theorem dX8_at_16 : decode cX8_at 16 = .ok (.iload_n 1, 1) := by decide +kernel
theorem dX8_at_17 : decode cX8_at 17 = .ok (.baload, 1) := by decide +kernel
theorem dX8_at_18 : decode cX8_at 18 = .ok (.sipush 255, 3) := by decide +kernel
theorem dX8_at_21 : decode cX8_at 21 = .ok (.iand, 1) := by decide +kernel
theorem dX8_at_22 : decode cX8_at 22 = .ok (.goto 4, 3) := by decide +kernel
theorem dX8_at_25 : decode cX8_at 25 = .ok (.iconst (-1), 1) := by decide +kernel
theorem dX8_at_26 : decode cX8_at 26 = .ok (.ireturn, 1) := by decide +kernel
theorem dX9_init_0 : decode cX9_init 0 = .ok (.aload_n 0, 1) := by decide +kernel
theorem dX9_init_1 : decode cX9_init 1 = .ok (.invokespecial 3, 3) := by decide +kernel
theorem dX9_init_4 : decode cX9_init 4 = .ok (.aload_n 0, 1) := by decide +kernel
theorem dX9_init_5 : decode cX9_init 5 = .ok (.new 9, 3) := by decide +kernel
theorem dX9_init_8 : decode cX9_init 8 = .ok (.dup, 1) := by decide +kernel
theorem dX9_init_9 : decode cX9_init 9 = .ok (.invokespecial 11, 3) := by decide +kernel
theorem dX9_init_12 : decode cX9_init 12 = .ok (.putfield 12, 3) := by decide +kernel
theorem dX9_init_15 : decode cX9_init 15 = .ok (.aload_n 0, 1) := by decide +kernel
theorem dX9_init_16 : decode cX9_init 16 = .ok (.new 16, 3) := by decide +kernel
theorem dX9_init_19 : decode cX9_init 19 = .ok (.dup, 1) := by decide +kernel
theorem dX9_init_20 : decode cX9_init 20 = .ok (.aload_n 0, 1) := by decide +kernel
theorem dX9_init_21 : decode cX9_init 21 = .ok (.getfield 12, 3) := by decide +kernel
theorem dX9_init_24 : decode cX9_init 24 = .ok (.invokespecial 18, 3) := by decide +kernel
theorem dX9_init_27 : decode cX9_init 27 = .ok (.putfield 21, 3) := by decide +kernel
theorem dX9_init_30 : decode cX9_init 30 = .ok (.aload_n 0, 1) := by decide +kernel
theorem dX9_init_31 : decode cX9_init 31 = .ok (.new 25, 3) := by decide +kernel
theorem dX9_init_34 : decode cX9_init 34 = .ok (.dup, 1) := by decide +kernel
theorem dX9_init_35 : decode cX9_init 35 = .ok (.invokespecial 27, 3) := by decide +kernel
theorem dX9_init_38 : decode cX9_init 38 = .ok (.putfield 28, 3) := by decide +kernel
theorem dX9_init_41 : decode cX9_init 41 = .ok (.aload_n 0, 1) := by decide +kernel
theorem dX9_init_42 : decode cX9_init 42 = .ok (.new 25, 3) := by decide +kernel
theorem dX9_init_45 : decode cX9_init 45 = .ok (.dup, 1) := by decide +kernel
theorem dX9_init_46 : decode cX9_init 46 = .ok (.invokespecial 27, 3) := by decide +kernel
theorem dX9_init_49 : decode cX9_init 49 = .ok (.putfield 32, 3) := by decide +kernel
theorem dX9_init_52 : decode cX9_init 52 = .ok (.aload_n 0, 1) := by decide +kernel
theorem dX9_init_53 : decode cX9_init 53 = .ok (.iconst 3, 1) := by decide +kernel
theorem dX9_init_54 : decode cX9_init 54 = .ok (.anewarray 25, 3) := by decide +kernel
theorem dX9_init_57 : decode cX9_init 57 = .ok (.putfield 35, 3) := by decide +kernel
theorem dX9_init_60 : decode cX9_init 60 = .ok (.aload_n 0, 1) := by decide +kernel
theorem dX9_init_61 : decode cX9_init 61 = .ok (.iconst 0, 1) := by decide +kernel
theorem dX9_init_62 : decode cX9_init 62 = .ok (.putfield 39, 3) := by decide +kernel
theorem dX9_init_65 : decode cX9_init 65 = .ok (.aload_n 0, 1) := by decide +kernel
theorem dX9_init_66 : decode cX9_init 66 = .ok (.new 43, 3) := by decide +kernel
theorem dX9_init_69 : decode cX9_init 69 = .ok (.dup, 1) := by decide +kernel
theorem dX9_init_70 : decode cX9_init 70 = .ok (.aload_n 0, 1) := by decide +kernel
theorem dX9_init_71 : decode cX9_init 71 = .ok (.getfield 28, 3) := by decide +kernel
theorem dX9_init_74 : decode cX9_init 74 = .ok (.invokespecial 45, 3) := by decide +kernel
theorem dX9_init_77 : decode cX9_init 77 = .ok (.putfield 48, 3) := by decide +kernel
theorem dX9_init_80 : decode cX9_init 80 = .ok (.aload_n 0, 1) := by decide +kernel
theorem dX9_init_81 : decode cX9_init 81 = .ok (.new 43, 3) := by decide +kernel
theorem dX9_init_84 : decode cX9_init 84 = .ok (.dup, 1) := by decide +kernel
theorem dX9_init_85 : decode cX9_init 85 = .ok (.aload_n 0, 1) := by decide +kernel
theorem dX9_init_86 : decode cX9_init 86 = .ok (.getfield 28, 3) := by decide +kernel
theorem dX9_init_89 : decode cX9_init 89 = .ok (.invokespecial 45, 3) := by decide +kernel
theorem dX9_init_92 : decode cX9_init 92 = .ok (.putfield 52, 3) := by decide +kernel
theorem dX9_init_95 : decode cX9_init 95 = .ok (.aload_n 0, 1) := by decide +kernel
theorem dX9_init_96 : decode cX9_init 96 = .ok (.new 55, 3) := by decide +kernel
theorem dX9_init_99 : decode cX9_init 99 = .ok (.dup, 1) := by decide +kernel
theorem dX9_init_100 : decode cX9_init 100 = .ok (.invokespecial 57, 3) := by decide +kernel
theorem dX9_init_103 : decode cX9_init 103 = .ok (.putfield 58, 3) := by decide +kernel
theorem dX9_init_106 : decode cX9_init 106 = .ok (.aload_n 0, 1) := by decide +kernel
theorem dX9_init_107 : decode cX9_init 107 = .ok (.new 62, 3) := by decide +kernel
theorem dX9_init_110 : decode cX9_init 110 = .ok (.dup, 1) := by decide +kernel
theorem dX9_init_111 : decode cX9_init 111 = .ok (.invokespecial 64, 3) := by decide +kernel
theorem dX9_init_114 : decode cX9_init 114 = .ok (.putfield 65, 3) := by decide +kernel
theorem dX9_init_117 : decode cX9_init 117 = .ok (.aload_n 0, 1) := by decide +kernel
theorem dX9_init_118 : decode cX9_init 118 = .ok (.iconst 4, 1) := by decide +kernel
theorem dX9_init_119 : decode cX9_init 119 = .ok (.anewarray 69, 3) := by decide +kernel
theorem dX9_init_122 : decode cX9_init 122 = .ok (.putfield 71, 3) := by decide +kernel
theorem dX9_init_125 : decode cX9_init 125 = .ok (.iconst 0, 1) := by decide +kernel
theorem dX9_init_126 : decode cX9_init 126 = .ok (.istore_n 1, 1) := by decide +kernel
theorem dX9_init_127 : decode cX9_init 127 = .ok (.iload_n 1, 1) := by decide +kernel
theorem dX9_init_128 : decode cX9_init 128 = .ok (.iconst 3, 1) := by decide +kernel
theorem dX9_init_129 : decode cX9_init 129 = .ok (.if_icmp .ge 22, 3) := by decide +kernel
theorem dX9_init_132 : decode cX9_init 132 = .ok (.aload_n 0, 1) := by decide +kernel
theorem dX9_init_133 : decode cX9_init 133 = .ok (.getfield 35, 3) := by decide +kernel
theorem dX9_init_136 : decode cX9_init 136 = .ok (.iload_n 1, 1) := by decide +kernel
theorem dX9_init_137 : decode cX9_init 137 = .ok (.new 25, 3) := by decide +kernel
theorem dX9_init_140 : decode cX9_init 140 = .ok (.dup, 1) := by decide +kernel
theorem dX9_init_141 : decode cX9_init 141 = .ok (.invokespecial 27, 3) := by decide +kernel
theorem dX9_init_144 : decode cX9_init 144 = .ok (.aastore, 1) := by decide +kernel
theorem dX9_init_145 : decode cX9_init 145 = .ok (.iinc 1 1, 3) := by decide +kernel
theorem dX9_init_148 : decode cX9_init 148 = .ok (.goto (-21), 3) := by decide +kernel
theorem dX9_init_151 : decode cX9_init 151 = .ok (.iconst 0, 1) := by decide +kernel
theorem dX9_init_152 : decode cX9_init 152 = .ok (.istore_n 1, 1) := by decide +kernel
theorem dX9_init_153 : decode cX9_init 153 = .ok (.iload_n 1, 1) := by decide +kernel
theorem dX9_init_154 : decode cX9_init 154 = .ok (.iconst 4, 1) := by decide +kernel
theorem dX9_init_155 : decode cX9_init 155 = .ok (.if_icmp .ge 22, 3) := by decide +kernel
theorem dX9_init_158 : decode cX9_init 158 = .ok (.aload_n 0, 1) := by decide +kernel
theorem dX9_init_159 : decode cX9_init 159 = .ok (.getfield 71, 3) := by decide +kernel
theorem dX9_init_162 : decode cX9_init 162 = .ok (.iload_n 1, 1) := by decide +kernel
theorem dX9_init_163 : decode cX9_init 163 = .ok (.new 69, 3) := by decide +kernel
theorem dX9_init_166 : decode cX9_init 166 = .ok (.dup, 1) := by decide +kernel
theorem dX9_init_167 : decode cX9_init 167 = .ok (.invokespecial 75, 3) := by decide +kernel
theorem dX9_init_170 : decode cX9_init 170 = .ok (.aastore, 1) := by decide +kernel
theorem dX9_init_171 : decode cX9_init 171 = .ok (.iinc 1 1, 3) := by decide +kernel
theorem dX9_init_174 : decode cX9_init 174 = .ok (.goto (-21), 3) := by decide +kernel
theorem dX9_init_177 : decode cX9_init 177 = .ok (.return_, 1) := by decide +kernel
theorem dX9_feed_0 : decode cX9_feed 0 = .ok (.aload_n 0, 1) := by decide +kernel
theorem dX9_feed_1 : decode cX9_feed 1 = .ok (.getfield 12, 3) := by decide +kernel
theorem dX9_feed_4 : decode cX9_feed 4 = .ok (.getfield 76, 3) := by decide +kernel
theorem dX9_feed_7 : decode cX9_feed 7 = .ok (.bipush 20, 2) := by decide +kernel
theorem dX9_feed_9 : decode cX9_feed 9 = .ok (.iadd, 1) := by decide +kernel
theorem dX9_feed_10 : decode cX9_feed 10 = .ok (.sipush 900, 3) := by decide +kernel
theorem dX9_feed_13 : decode cX9_feed 13 = .ok (.if_icmp .le 5, 3) := by decide +kernel
theorem dX9_feed_16 : decode cX9_feed 16 = .ok (.iconst (-1), 1) := by decide +kernel
theorem dX9_feed_17 : decode cX9_feed 17 = .ok (.ireturn, 1) := by decide +kernel
theorem dX9_feed_18 : decode cX9_feed 18 = .ok (.aload_n 0, 1) := by decide +kernel
theorem dX9_feed_19 : decode cX9_feed 19 = .ok (.getfield 12, 3) := by decide +kernel
theorem dX9_feed_22 : decode cX9_feed 22 = .ok (.iload_n 1, 1) := by decide +kernel
theorem dX9_feed_23 : decode cX9_feed 23 = .ok (.invokevirtual 79, 3) := by decide +kernel
theorem dX9_feed_26 : decode cX9_feed 26 = .ok (.aload_n 0, 1) := by decide +kernel
theorem dX9_feed_27 : decode cX9_feed 27 = .ok (.getfield 12, 3) := by decide +kernel
theorem dX9_feed_30 : decode cX9_feed 30 = .ok (.iload_n 2, 1) := by decide +kernel
theorem dX9_feed_31 : decode cX9_feed 31 = .ok (.invokevirtual 79, 3) := by decide +kernel
theorem dX9_feed_34 : decode cX9_feed 34 = .ok (.aload_n 0, 1) := by decide +kernel
theorem dX9_feed_35 : decode cX9_feed 35 = .ok (.getfield 12, 3) := by decide +kernel
theorem dX9_feed_38 : decode cX9_feed 38 = .ok (.iload_n 3, 1) := by decide +kernel
theorem dX9_feed_39 : decode cX9_feed 39 = .ok (.invokevirtual 79, 3) := by decide +kernel
theorem dX9_feed_42 : decode cX9_feed 42 = .ok (.aload_n 0, 1) := by decide +kernel
theorem dX9_feed_43 : decode cX9_feed 43 = .ok (.getfield 12, 3) := by decide +kernel
theorem dX9_feed_46 : decode cX9_feed 46 = .ok (.iload 4, 2) := by decide +kernel
theorem dX9_feed_48 : decode cX9_feed 48 = .ok (.invokevirtual 79, 3) := by decide +kernel
theorem dX9_feed_51 : decode cX9_feed 51 = .ok (.aload_n 0, 1) := by decide +kernel
theorem dX9_feed_52 : decode cX9_feed 52 = .ok (.getfield 12, 3) := by decide +kernel
theorem dX9_feed_55 : decode cX9_feed 55 = .ok (.iload 5, 2) := by decide +kernel
theorem dX9_feed_57 : decode cX9_feed 57 = .ok (.invokevirtual 79, 3) := by decide +kernel
theorem dX9_feed_60 : decode cX9_feed 60 = .ok (.aload_n 0, 1) := by decide +kernel
theorem dX9_feed_61 : decode cX9_feed 61 = .ok (.getfield 12, 3) := by decide +kernel
theorem dX9_feed_64 : decode cX9_feed 64 = .ok (.getfield 76, 3) := by decide +kernel
theorem dX9_feed_67 : decode cX9_feed 67 = .ok (.ireturn, 1) := by decide +kernel
theorem dX9_end_0 : decode cX9_end 0 = .ok (.iload_n 1, 1) := by decide +kernel
theorem dX9_end_1 : decode cX9_end 1 = .ok (.ifCond .lt 14, 3) := by decide +kernel
theorem dX9_end_4 : decode cX9_end 4 = .ok (.iload_n 1, 1) := by decide +kernel
theorem dX9_end_5 : decode cX9_end 5 = .ok (.aload_n 0, 1) := by decide +kernel
theorem dX9_end_6 : decode cX9_end 6 = .ok (.getfield 12, 3) := by decide +kernel
theorem dX9_end_9 : decode cX9_end 9 = .ok (.getfield 76, 3) := by decide +kernel
theorem dX9_end_12 : decode cX9_end 12 = .ok (.if_icmp .le 5, 3) := by decide +kernel
theorem dX9_end_15 : decode cX9_end 15 = .ok (.iconst (-1), 1) := by decide +kernel
theorem dX9_end_16 : decode cX9_end 16 = .ok (.ireturn, 1) := by decide +kernel
theorem dX9_end_17 : decode cX9_end 17 = .ok (.aload_n 0, 1) := by decide +kernel
theorem dX9_end_18 : decode cX9_end 18 = .ok (.getfield 12, 3) := by decide +kernel
theorem dX9_end_21 : decode cX9_end 21 = .ok (.iload_n 1, 1) := by decide +kernel
theorem dX9_end_22 : decode cX9_end 22 = .ok (.putfield 76, 3) := by decide +kernel
theorem dX9_end_25 : decode cX9_end 25 = .ok (.iload_n 1, 1) := by decide +kernel
theorem dX9_end_26 : decode cX9_end 26 = .ok (.ireturn, 1) := by decide +kernel
theorem dX9_dukedom_0 : decode cX9_dukedom 0 = .ok (.aload_n 0, 1) := by decide +kernel
theorem dX9_dukedom_1 : decode cX9_dukedom 1 = .ok (.getfield 21, 3) := by decide +kernel
theorem dX9_dukedom_4 : decode cX9_dukedom 4 = .ok (.aload_n 0, 1) := by decide +kernel
theorem dX9_dukedom_5 : decode cX9_dukedom 5 = .ok (.getfield 32, 3) := by decide +kernel
theorem dX9_dukedom_8 : decode cX9_dukedom 8 = .ok (.invokevirtual 83, 3) := by decide +kernel
theorem dX9_dukedom_11 : decode cX9_dukedom 11 = .ok (.aload_n 0, 1) := by decide +kernel
theorem dX9_dukedom_12 : decode cX9_dukedom 12 = .ok (.getfield 21, 3) := by decide +kernel
theorem dX9_dukedom_15 : decode cX9_dukedom 15 = .ok (.getfield 86, 3) := by decide +kernel
theorem dX9_dukedom_18 : decode cX9_dukedom 18 = .ok (.ifCond .eq 6, 3) := by decide +kernel
theorem dX9_dukedom_21 : decode cX9_dukedom 21 = .ok (.bipush (-4), 2) := by decide +kernel
theorem dX9_dukedom_23 : decode cX9_dukedom 23 = .ok (.ireturn, 1) := by decide +kernel
theorem dX9_dukedom_24 : decode cX9_dukedom 24 = .ok (.aload_n 0, 1) := by decide +kernel
theorem dX9_dukedom_25 : decode cX9_dukedom 25 = .ok (.getfield 12, 3) := by decide +kernel
theorem dX9_dukedom_28 : decode cX9_dukedom 28 = .ok (.iconst 0, 1) := by decide +kernel
theorem dX9_dukedom_29 : decode cX9_dukedom 29 = .ok (.putfield 76, 3) := by decide +kernel
theorem dX9_dukedom_32 : decode cX9_dukedom 32 = .ok (.aload_n 0, 1) := by decide +kernel
theorem dX9_dukedom_33 : decode cX9_dukedom 33 = .ok (.getfield 28, 3) := by decide +kernel
theorem dX9_dukedom_36 : decode cX9_dukedom 36 = .ok (.astore_n 1, 1) := by decide +kernel
theorem dX9_dukedom_37 : decode cX9_dukedom 37 = .ok (.aload_n 0, 1) := by decide +kernel
theorem dX9_dukedom_38 : decode cX9_dukedom 38 = .ok (.aload_n 0, 1) := by decide +kernel
theorem dX9_dukedom_39 : decode cX9_dukedom 39 = .ok (.getfield 32, 3) := by decide +kernel
theorem dX9_dukedom_42 : decode cX9_dukedom 42 = .ok (.putfield 28, 3) := by decide +kernel
theorem dX9_dukedom_45 : decode cX9_dukedom 45 = .ok (.aload_n 0, 1) := by decide +kernel
theorem dX9_dukedom_46 : decode cX9_dukedom 46 = .ok (.aload_n 1, 1) := by decide +kernel
theorem dX9_dukedom_47 : decode cX9_dukedom 47 = .ok (.putfield 32, 3) := by decide +kernel
theorem dX9_dukedom_50 : decode cX9_dukedom 50 = .ok (.aload_n 0, 1) := by decide +kernel
theorem dX9_dukedom_51 : decode cX9_dukedom 51 = .ok (.invokevirtual 89, 3) := by decide +kernel
theorem dX9_dukedom_54 : decode cX9_dukedom 54 = .ok (.aload_n 0, 1) := by decide +kernel
theorem dX9_dukedom_55 : decode cX9_dukedom 55 = .ok (.getfield 28, 3) := by decide +kernel
theorem dX9_dukedom_58 : decode cX9_dukedom 58 = .ok (.getfield 92, 3) := by decide +kernel
theorem dX9_dukedom_61 : decode cX9_dukedom 61 = .ok (.ireturn, 1) := by decide +kernel
theorem dX9_fault_0 : decode cX9_fault 0 = .ok (.iload_n 1, 1) := by decide +kernel
theorem dX9_fault_1 : decode cX9_fault 1 = .ok (.ifCond .ne 11, 3) := by decide +kernel
theorem dX9_fault_4 : decode cX9_fault 4 = .ok (.aload_n 0, 1) := by decide +kernel
theorem dX9_fault_5 : decode cX9_fault 5 = .ok (.getfield 21, 3) := by decide +kernel
theorem dX9_fault_8 : decode cX9_fault 8 = .ok (.getfield 86, 3) := by decide +kernel
theorem dX9_fault_11 : decode cX9_fault 11 = .ok (.ireturn, 1) := by decide +kernel
theorem dX9_fault_12 : decode cX9_fault 12 = .ok (.iload_n 1, 1) := by decide +kernel
theorem dX9_fault_13 : decode cX9_fault 13 = .ok (.iconst 1, 1) := by decide +kernel
theorem dX9_fault_14 : decode cX9_fault 14 = .ok (.if_icmp .ne 13, 3) := by decide +kernel
theorem dX9_fault_17 : decode cX9_fault 17 = .ok (.aload_n 0, 1) := by decide +kernel
theorem dX9_fault_18 : decode cX9_fault 18 = .ok (.getfield 21, 3) := by decide +kernel
theorem dX9_fault_21 : decode cX9_fault 21 = .ok (.getfield 95, 3) := by decide +kernel
theorem dX9_fault_24 : decode cX9_fault 24 = .ok (.goto 4, 3) := by decide +kernel
theorem dX9_fault_27 : decode cX9_fault 27 = .ok (.iconst (-1), 1) := by decide +kernel
theorem dX9_fault_28 : decode cX9_fault 28 = .ok (.ireturn, 1) := by decide +kernel
theorem dX9_rank_0 : decode cX9_rank 0 = .ok (.aload_n 0, 1) := by decide +kernel
theorem dX9_rank_1 : decode cX9_rank 1 = .ok (.getfield 28, 3) := by decide +kernel
theorem dX9_rank_4 : decode cX9_rank 4 = .ok (.iload_n 1, 1) := by decide +kernel
theorem dX9_rank_5 : decode cX9_rank 5 = .ok (.invokevirtual 98, 3) := by decide +kernel
theorem dX9_rank_8 : decode cX9_rank 8 = .ok (.ifCond .ne 6, 3) := by decide +kernel
theorem dX9_rank_11 : decode cX9_rank 11 = .ok (.bipush (-2), 2) := by decide +kernel
theorem dX9_rank_13 : decode cX9_rank 13 = .ok (.ireturn, 1) := by decide +kernel
theorem dX9_rank_14 : decode cX9_rank 14 = .ok (.iload_n 2, 1) := by decide +kernel
theorem dX9_rank_15 : decode cX9_rank 15 = .ok (.tableswitch 69 0 3 #[29, 39, 49, 59], 29) := by decide +kernel
theorem dX9_rank_44 : decode cX9_rank 44 = .ok (.aload_n 0, 1) := by decide +kernel
theorem dX9_rank_45 : decode cX9_rank 45 = .ok (.getfield 28, 3) := by decide +kernel
theorem dX9_rank_48 : decode cX9_rank 48 = .ok (.getfield 102, 3) := by decide +kernel
theorem dX9_rank_51 : decode cX9_rank 51 = .ok (.iload_n 1, 1) := by decide +kernel
theorem dX9_rank_52 : decode cX9_rank 52 = .ok (.iaload, 1) := by decide +kernel
theorem dX9_rank_53 : decode cX9_rank 53 = .ok (.ireturn, 1) := by decide +kernel
theorem dX9_rank_54 : decode cX9_rank 54 = .ok (.aload_n 0, 1) := by decide +kernel
theorem dX9_rank_55 : decode cX9_rank 55 = .ok (.getfield 28, 3) := by decide +kernel
theorem dX9_rank_58 : decode cX9_rank 58 = .ok (.getfield 106, 3) := by decide +kernel
theorem dX9_rank_61 : decode cX9_rank 61 = .ok (.iload_n 1, 1) := by decide +kernel
theorem dX9_rank_62 : decode cX9_rank 62 = .ok (.iaload, 1) := by decide +kernel
theorem dX9_rank_63 : decode cX9_rank 63 = .ok (.ireturn, 1) := by decide +kernel
theorem dX9_rank_64 : decode cX9_rank 64 = .ok (.aload_n 0, 1) := by decide +kernel
theorem dX9_rank_65 : decode cX9_rank 65 = .ok (.getfield 28, 3) := by decide +kernel
theorem dX9_rank_68 : decode cX9_rank 68 = .ok (.getfield 109, 3) := by decide +kernel
theorem dX9_rank_71 : decode cX9_rank 71 = .ok (.iload_n 1, 1) := by decide +kernel
theorem dX9_rank_72 : decode cX9_rank 72 = .ok (.iaload, 1) := by decide +kernel
theorem dX9_rank_73 : decode cX9_rank 73 = .ok (.ireturn, 1) := by decide +kernel
theorem dX9_rank_74 : decode cX9_rank 74 = .ok (.aload_n 0, 1) := by decide +kernel
theorem dX9_rank_75 : decode cX9_rank 75 = .ok (.getfield 28, 3) := by decide +kernel
theorem dX9_rank_78 : decode cX9_rank 78 = .ok (.getfield 112, 3) := by decide +kernel
theorem dX9_rank_81 : decode cX9_rank 81 = .ok (.iload_n 1, 1) := by decide +kernel
theorem dX9_rank_82 : decode cX9_rank 82 = .ok (.iaload, 1) := by decide +kernel
theorem dX9_rank_83 : decode cX9_rank 83 = .ok (.ireturn, 1) := by decide +kernel
theorem dX9_rank_84 : decode cX9_rank 84 = .ok (.bipush (-2), 2) := by decide +kernel
theorem dX9_rank_86 : decode cX9_rank 86 = .ok (.ireturn, 1) := by decide +kernel
theorem dX9_plank_0 : decode cX9_plank 0 = .ok (.aload_n 0, 1) := by decide +kernel
theorem dX9_plank_1 : decode cX9_plank 1 = .ok (.getfield 28, 3) := by decide +kernel
theorem dX9_plank_4 : decode cX9_plank 4 = .ok (.iload_n 1, 1) := by decide +kernel
theorem dX9_plank_5 : decode cX9_plank 5 = .ok (.invokevirtual 115, 3) := by decide +kernel
theorem dX9_plank_8 : decode cX9_plank 8 = .ok (.ifCond .ne 6, 3) := by decide +kernel
theorem dX9_plank_11 : decode cX9_plank 11 = .ok (.bipush (-2), 2) := by decide +kernel
theorem dX9_plank_13 : decode cX9_plank 13 = .ok (.ireturn, 1) := by decide +kernel
theorem dX9_plank_14 : decode cX9_plank 14 = .ok (.iload_n 2, 1) := by decide +kernel
theorem dX9_plank_15 : decode cX9_plank 15 = .ok (.lookupswitch 45 #[(0, 25), (1, 35)], 25) := by decide +kernel
theorem dX9_plank_40 : decode cX9_plank 40 = .ok (.aload_n 0, 1) := by decide +kernel
theorem dX9_plank_41 : decode cX9_plank 41 = .ok (.getfield 28, 3) := by decide +kernel
theorem dX9_plank_44 : decode cX9_plank 44 = .ok (.getfield 118, 3) := by decide +kernel
theorem dX9_plank_47 : decode cX9_plank 47 = .ok (.iload_n 1, 1) := by decide +kernel
theorem dX9_plank_48 : decode cX9_plank 48 = .ok (.iaload, 1) := by decide +kernel
theorem dX9_plank_49 : decode cX9_plank 49 = .ok (.ireturn, 1) := by decide +kernel
theorem dX9_plank_50 : decode cX9_plank 50 = .ok (.aload_n 0, 1) := by decide +kernel
theorem dX9_plank_51 : decode cX9_plank 51 = .ok (.getfield 28, 3) := by decide +kernel
theorem dX9_plank_54 : decode cX9_plank 54 = .ok (.getfield 121, 3) := by decide +kernel
theorem dX9_plank_57 : decode cX9_plank 57 = .ok (.iload_n 1, 1) := by decide +kernel
theorem dX9_plank_58 : decode cX9_plank 58 = .ok (.iaload, 1) := by decide +kernel
theorem dX9_plank_59 : decode cX9_plank 59 = .ok (.ireturn, 1) := by decide +kernel
theorem dX9_plank_60 : decode cX9_plank 60 = .ok (.bipush (-2), 2) := by decide +kernel
theorem dX9_plank_62 : decode cX9_plank 62 = .ok (.ireturn, 1) := by decide +kernel
theorem dX9_invite_0 : decode cX9_invite 0 = .ok (.aload_n 0, 1) := by decide +kernel
theorem dX9_invite_1 : decode cX9_invite 1 = .ok (.getfield 28, 3) := by decide +kernel
theorem dX9_invite_4 : decode cX9_invite 4 = .ok (.getfield 124, 3) := by decide +kernel
theorem dX9_invite_7 : decode cX9_invite 7 = .ok (.astore_n 3, 1) := by decide +kernel
theorem dX9_invite_8 : decode cX9_invite 8 = .ok (.aload_n 3, 1) := by decide +kernel
theorem dX9_invite_9 : decode cX9_invite 9 = .ok (.iload_n 1, 1) := by decide +kernel
theorem dX9_invite_10 : decode cX9_invite 10 = .ok (.invokevirtual 128, 3) := by decide +kernel
theorem dX9_invite_13 : decode cX9_invite 13 = .ok (.ifCond .ne 6, 3) := by decide +kernel
theorem dX9_invite_16 : decode cX9_invite 16 = .ok (.bipush (-2), 2) := by decide +kernel
theorem dX9_invite_18 : decode cX9_invite 18 = .ok (.ireturn, 1) := by decide +kernel
theorem dX9_invite_19 : decode cX9_invite 19 = .ok (.iload_n 2, 1) := by decide +kernel
theorem dX9_invite_20 : decode cX9_invite 20 = .ok (.tableswitch 49 0 2 #[28, 35, 42], 28) := by decide +kernel
theorem dX9_invite_48 : decode cX9_invite 48 = .ok (.aload_n 3, 1) := by decide +kernel
theorem dX9_invite_49 : decode cX9_invite 49 = .ok (.getfield 133, 3) := by decide +kernel
theorem dX9_invite_52 : decode cX9_invite 52 = .ok (.iload_n 1, 1) := by decide +kernel
theorem dX9_invite_53 : decode cX9_invite 53 = .ok (.iaload, 1) := by decide +kernel
theorem dX9_invite_54 : decode cX9_invite 54 = .ok (.ireturn, 1) := by decide +kernel
theorem dX9_invite_55 : decode cX9_invite 55 = .ok (.aload_n 3, 1) := by decide +kernel
theorem dX9_invite_56 : decode cX9_invite 56 = .ok (.getfield 136, 3) := by decide +kernel
theorem dX9_invite_59 : decode cX9_invite 59 = .ok (.iload_n 1, 1) := by decide +kernel
theorem dX9_invite_60 : decode cX9_invite 60 = .ok (.iaload, 1) := by decide +kernel
theorem dX9_invite_61 : decode cX9_invite 61 = .ok (.ireturn, 1) := by decide +kernel
theorem dX9_invite_62 : decode cX9_invite 62 = .ok (.aload_n 3, 1) := by decide +kernel
theorem dX9_invite_63 : decode cX9_invite 63 = .ok (.getfield 139, 3) := by decide +kernel
theorem dX9_invite_66 : decode cX9_invite 66 = .ok (.iload_n 1, 1) := by decide +kernel
theorem dX9_invite_67 : decode cX9_invite 67 = .ok (.iaload, 1) := by decide +kernel
theorem dX9_invite_68 : decode cX9_invite 68 = .ok (.ireturn, 1) := by decide +kernel
theorem dX9_invite_69 : decode cX9_invite 69 = .ok (.bipush (-2), 2) := by decide +kernel
theorem dX9_invite_71 : decode cX9_invite 71 = .ok (.ireturn, 1) := by decide +kernel
theorem dX9_rain_0 : decode cX9_rain 0 = .ok (.aload_n 0, 1) := by decide +kernel
theorem dX9_rain_1 : decode cX9_rain 1 = .ok (.getfield 28, 3) := by decide +kernel
theorem dX9_rain_4 : decode cX9_rain 4 = .ok (.iload_n 1, 1) := by decide +kernel
theorem dX9_rain_5 : decode cX9_rain 5 = .ok (.invokevirtual 142, 3) := by decide +kernel
theorem dX9_rain_8 : decode cX9_rain 8 = .ok (.ifCond .eq 15, 3) := by decide +kernel
theorem dX9_rain_11 : decode cX9_rain 11 = .ok (.aload_n 0, 1) := by decide +kernel
theorem dX9_rain_12 : decode cX9_rain 12 = .ok (.getfield 28, 3) := by decide +kernel
theorem dX9_rain_15 : decode cX9_rain 15 = .ok (.getfield 145, 3) := by decide +kernel
theorem dX9_rain_18 : decode cX9_rain 18 = .ok (.iload_n 1, 1) := by decide +kernel
theorem dX9_rain_19 : decode cX9_rain 19 = .ok (.iaload, 1) := by decide +kernel
theorem dX9_rain_20 : decode cX9_rain 20 = .ok (.goto 5, 3) := by decide +kernel
theorem dX9_rain_23 : decode cX9_rain 23 = .ok (.bipush (-2), 2) := by decide +kernel
theorem dX9_rain_25 : decode cX9_rain 25 = .ok (.ireturn, 1) := by decide +kernel
theorem dX9_frosts_0 : decode cX9_frosts 0 = .ok (.aload_n 0, 1) := by decide +kernel
theorem dX9_frosts_1 : decode cX9_frosts 1 = .ok (.getfield 28, 3) := by decide +kernel
theorem dX9_frosts_4 : decode cX9_frosts 4 = .ok (.invokevirtual 148, 3) := by decide +kernel
theorem dX9_frosts_7 : decode cX9_frosts 7 = .ok (.ifCond .eq 13, 3) := by decide +kernel
theorem dX9_frosts_10 : decode cX9_frosts 10 = .ok (.aload_n 0, 1) := by decide +kernel
theorem dX9_frosts_11 : decode cX9_frosts 11 = .ok (.getfield 48, 3) := by decide +kernel
theorem dX9_frosts_14 : decode cX9_frosts 14 = .ok (.getfield 152, 3) := by decide +kernel
theorem dX9_frosts_17 : decode cX9_frosts 17 = .ok (.goto 5, 3) := by decide +kernel
theorem dX9_frosts_20 : decode cX9_frosts 20 = .ok (.bipush (-2), 2) := by decide +kernel
theorem dX9_frosts_22 : decode cX9_frosts 22 = .ok (.ireturn, 1) := by decide +kernel
theorem dX9_water_0 : decode cX9_water 0 = .ok (.aload_n 0, 1) := by decide +kernel
theorem dX9_water_1 : decode cX9_water 1 = .ok (.getfield 28, 3) := by decide +kernel
theorem dX9_water_4 : decode cX9_water 4 = .ok (.iload_n 1, 1) := by decide +kernel
theorem dX9_water_5 : decode cX9_water 5 = .ok (.iload_n 2, 1) := by decide +kernel
theorem dX9_water_6 : decode cX9_water 6 = .ok (.invokevirtual 155, 3) := by decide +kernel
theorem dX9_water_9 : decode cX9_water 9 = .ok (.ifCond .eq 19, 3) := by decide +kernel
theorem dX9_water_12 : decode cX9_water 12 = .ok (.aload_n 0, 1) := by decide +kernel
theorem dX9_water_13 : decode cX9_water 13 = .ok (.getfield 48, 3) := by decide +kernel
theorem dX9_water_16 : decode cX9_water 16 = .ok (.getfield 159, 3) := by decide +kernel
theorem dX9_water_19 : decode cX9_water 19 = .ok (.iload_n 1, 1) := by decide +kernel
theorem dX9_water_20 : decode cX9_water 20 = .ok (.iload_n 2, 1) := by decide +kernel
theorem dX9_water_21 : decode cX9_water 21 = .ok (.invokestatic 162, 3) := by decide +kernel
theorem dX9_water_24 : decode cX9_water 24 = .ok (.iaload, 1) := by decide +kernel
theorem dX9_water_25 : decode cX9_water 25 = .ok (.goto 5, 3) := by decide +kernel
theorem dX9_water_28 : decode cX9_water 28 = .ok (.bipush (-2), 2) := by decide +kernel
theorem dX9_water_30 : decode cX9_water 30 = .ok (.ireturn, 1) := by decide +kernel
theorem dX9_spills_0 : decode cX9_spills 0 = .ok (.aload_n 0, 1) := by decide +kernel
theorem dX9_spills_1 : decode cX9_spills 1 = .ok (.getfield 28, 3) := by decide +kernel
theorem dX9_spills_4 : decode cX9_spills 4 = .ok (.iload_n 1, 1) := by decide +kernel
theorem dX9_spills_5 : decode cX9_spills 5 = .ok (.iload_n 2, 1) := by decide +kernel
theorem dX9_spills_6 : decode cX9_spills 6 = .ok (.invokevirtual 155, 3) := by decide +kernel
theorem dX9_spills_9 : decode cX9_spills 9 = .ok (.ifCond .eq 19, 3) := by decide +kernel
theorem dX9_spills_12 : decode cX9_spills 12 = .ok (.aload_n 0, 1) := by decide +kernel
theorem dX9_spills_13 : decode cX9_spills 13 = .ok (.getfield 48, 3) := by decide +kernel
theorem dX9_spills_16 : decode cX9_spills 16 = .ok (.getfield 166, 3) := by decide +kernel
theorem dX9_spills_19 : decode cX9_spills 19 = .ok (.iload_n 1, 1) := by decide +kernel
theorem dX9_spills_20 : decode cX9_spills 20 = .ok (.iload_n 2, 1) := by decide +kernel
theorem dX9_spills_21 : decode cX9_spills 21 = .ok (.invokestatic 162, 3) := by decide +kernel
theorem dX9_spills_24 : decode cX9_spills 24 = .ok (.iaload, 1) := by decide +kernel
theorem dX9_spills_25 : decode cX9_spills 25 = .ok (.goto 5, 3) := by decide +kernel
theorem dX9_spills_28 : decode cX9_spills 28 = .ok (.bipush (-2), 2) := by decide +kernel
theorem dX9_spills_30 : decode cX9_spills 30 = .ok (.ireturn, 1) := by decide +kernel
theorem dX9_lost_0 : decode cX9_lost 0 = .ok (.aload_n 0, 1) := by decide +kernel
theorem dX9_lost_1 : decode cX9_lost 1 = .ok (.getfield 28, 3) := by decide +kernel
theorem dX9_lost_4 : decode cX9_lost 4 = .ok (.iload_n 1, 1) := by decide +kernel
theorem dX9_lost_5 : decode cX9_lost 5 = .ok (.invokevirtual 142, 3) := by decide +kernel
theorem dX9_lost_8 : decode cX9_lost 8 = .ok (.ifCond .eq 15, 3) := by decide +kernel
theorem dX9_lost_11 : decode cX9_lost 11 = .ok (.aload_n 0, 1) := by decide +kernel
theorem dX9_lost_12 : decode cX9_lost 12 = .ok (.getfield 48, 3) := by decide +kernel
theorem dX9_lost_15 : decode cX9_lost 15 = .ok (.getfield 169, 3) := by decide +kernel
theorem dX9_lost_18 : decode cX9_lost 18 = .ok (.iload_n 1, 1) := by decide +kernel
theorem dX9_lost_19 : decode cX9_lost 19 = .ok (.iaload, 1) := by decide +kernel
theorem dX9_lost_20 : decode cX9_lost 20 = .ok (.goto 5, 3) := by decide +kernel
theorem dX9_lost_23 : decode cX9_lost 23 = .ok (.bipush (-2), 2) := by decide +kernel
theorem dX9_lost_25 : decode cX9_lost 25 = .ok (.ireturn, 1) := by decide +kernel
theorem dX9_drained_0 : decode cX9_drained 0 = .ok (.aload_n 0, 1) := by decide +kernel
theorem dX9_drained_1 : decode cX9_drained 1 = .ok (.getfield 28, 3) := by decide +kernel
theorem dX9_drained_4 : decode cX9_drained 4 = .ok (.iload_n 1, 1) := by decide +kernel
theorem dX9_drained_5 : decode cX9_drained 5 = .ok (.iload_n 2, 1) := by decide +kernel
theorem dX9_drained_6 : decode cX9_drained 6 = .ok (.invokevirtual 155, 3) := by decide +kernel
theorem dX9_drained_9 : decode cX9_drained 9 = .ok (.ifCond .eq 19, 3) := by decide +kernel
theorem dX9_drained_12 : decode cX9_drained 12 = .ok (.aload_n 0, 1) := by decide +kernel
theorem dX9_drained_13 : decode cX9_drained 13 = .ok (.getfield 48, 3) := by decide +kernel
theorem dX9_drained_16 : decode cX9_drained 16 = .ok (.getfield 172, 3) := by decide +kernel
theorem dX9_drained_19 : decode cX9_drained 19 = .ok (.iload_n 1, 1) := by decide +kernel
theorem dX9_drained_20 : decode cX9_drained 20 = .ok (.iload_n 2, 1) := by decide +kernel
theorem dX9_drained_21 : decode cX9_drained 21 = .ok (.invokestatic 162, 3) := by decide +kernel
theorem dX9_drained_24 : decode cX9_drained 24 = .ok (.iaload, 1) := by decide +kernel
theorem dX9_drained_25 : decode cX9_drained 25 = .ok (.goto 5, 3) := by decide +kernel
theorem dX9_drained_28 : decode cX9_drained 28 = .ok (.bipush (-2), 2) := by decide +kernel
theorem dX9_drained_30 : decode cX9_drained 30 = .ok (.ireturn, 1) := by decide +kernel
theorem dX9_all_0 : decode cX9_all 0 = .ok (.aload_n 0, 1) := by decide +kernel
theorem dX9_all_1 : decode cX9_all 1 = .ok (.getfield 28, 3) := by decide +kernel
theorem dX9_all_4 : decode cX9_all 4 = .ok (.iload_n 1, 1) := by decide +kernel
theorem dX9_all_5 : decode cX9_all 5 = .ok (.invokevirtual 142, 3) := by decide +kernel
theorem dX9_all_8 : decode cX9_all 8 = .ok (.ifCond .ne 6, 3) := by decide +kernel
theorem dX9_all_11 : decode cX9_all 11 = .ok (.bipush (-2), 2) := by decide +kernel
theorem dX9_all_13 : decode cX9_all 13 = .ok (.ireturn, 1) := by decide +kernel
theorem dX9_all_14 : decode cX9_all 14 = .ok (.iconst 0, 1) := by decide +kernel
theorem dX9_all_15 : decode cX9_all 15 = .ok (.istore_n 2, 1) := by decide +kernel
theorem dX9_all_16 : decode cX9_all 16 = .ok (.iconst 0, 1) := by decide +kernel
theorem dX9_all_17 : decode cX9_all 17 = .ok (.istore_n 3, 1) := by decide +kernel
theorem dX9_all_18 : decode cX9_all 18 = .ok (.iload_n 3, 1) := by decide +kernel
theorem dX9_all_19 : decode cX9_all 19 = .ok (.aload_n 0, 1) := by decide +kernel
theorem dX9_all_20 : decode cX9_all 20 = .ok (.getfield 28, 3) := by decide +kernel
theorem dX9_all_23 : decode cX9_all 23 = .ok (.getfield 175, 3) := by decide +kernel
theorem dX9_all_26 : decode cX9_all 26 = .ok (.if_icmp .ge 25, 3) := by decide +kernel
theorem dX9_all_29 : decode cX9_all 29 = .ok (.iload_n 2, 1) := by decide +kernel
theorem dX9_all_30 : decode cX9_all 30 = .ok (.aload_n 0, 1) := by decide +kernel
theorem dX9_all_31 : decode cX9_all 31 = .ok (.getfield 48, 3) := by decide +kernel
theorem dX9_all_34 : decode cX9_all 34 = .ok (.getfield 159, 3) := by decide +kernel
theorem dX9_all_37 : decode cX9_all 37 = .ok (.iload_n 3, 1) := by decide +kernel
theorem dX9_all_38 : decode cX9_all 38 = .ok (.iload_n 1, 1) := by decide +kernel
theorem dX9_all_39 : decode cX9_all 39 = .ok (.invokestatic 162, 3) := by decide +kernel
theorem dX9_all_42 : decode cX9_all 42 = .ok (.iaload, 1) := by decide +kernel
theorem dX9_all_43 : decode cX9_all 43 = .ok (.iadd, 1) := by decide +kernel
theorem dX9_all_44 : decode cX9_all 44 = .ok (.istore_n 2, 1) := by decide +kernel
theorem dX9_all_45 : decode cX9_all 45 = .ok (.iinc 3 1, 3) := by decide +kernel
theorem dX9_all_48 : decode cX9_all 48 = .ok (.goto (-30), 3) := by decide +kernel
theorem dX9_all_51 : decode cX9_all 51 = .ok (.iload_n 2, 1) := by decide +kernel
theorem dX9_all_52 : decode cX9_all 52 = .ok (.ireturn, 1) := by decide +kernel
theorem dX9_dry_0 : decode cX9_dry 0 = .ok (.aload_n 0, 1) := by decide +kernel
theorem dX9_dry_1 : decode cX9_dry 1 = .ok (.getfield 28, 3) := by decide +kernel
theorem dX9_dry_4 : decode cX9_dry 4 = .ok (.iload_n 1, 1) := by decide +kernel
theorem dX9_dry_5 : decode cX9_dry 5 = .ok (.invokevirtual 142, 3) := by decide +kernel
theorem dX9_dry_8 : decode cX9_dry 8 = .ok (.ifCond .ne 6, 3) := by decide +kernel
theorem dX9_dry_11 : decode cX9_dry 11 = .ok (.bipush (-2), 2) := by decide +kernel
theorem dX9_dry_13 : decode cX9_dry 13 = .ok (.ireturn, 1) := by decide +kernel
theorem dX9_dry_14 : decode cX9_dry 14 = .ok (.iconst 0, 1) := by decide +kernel
theorem dX9_dry_15 : decode cX9_dry 15 = .ok (.istore_n 2, 1) := by decide +kernel
theorem dX9_dry_16 : decode cX9_dry 16 = .ok (.iconst 0, 1) := by decide +kernel
theorem dX9_dry_17 : decode cX9_dry 17 = .ok (.istore_n 3, 1) := by decide +kernel
theorem dX9_dry_18 : decode cX9_dry 18 = .ok (.iload_n 3, 1) := by decide +kernel
theorem dX9_dry_19 : decode cX9_dry 19 = .ok (.aload_n 0, 1) := by decide +kernel
theorem dX9_dry_20 : decode cX9_dry 20 = .ok (.getfield 28, 3) := by decide +kernel
theorem dX9_dry_23 : decode cX9_dry 23 = .ok (.getfield 175, 3) := by decide +kernel
theorem dX9_dry_26 : decode cX9_dry 26 = .ok (.if_icmp .ge 31, 3) := by decide +kernel
theorem dX9_dry_29 : decode cX9_dry 29 = .ok (.aload_n 0, 1) := by decide +kernel
theorem dX9_dry_30 : decode cX9_dry 30 = .ok (.getfield 48, 3) := by decide +kernel
theorem dX9_dry_33 : decode cX9_dry 33 = .ok (.getfield 159, 3) := by decide +kernel
theorem dX9_dry_36 : decode cX9_dry 36 = .ok (.iload_n 3, 1) := by decide +kernel
theorem dX9_dry_37 : decode cX9_dry 37 = .ok (.iload_n 1, 1) := by decide +kernel
theorem dX9_dry_38 : decode cX9_dry 38 = .ok (.invokestatic 162, 3) := by decide +kernel
theorem dX9_dry_41 : decode cX9_dry 41 = .ok (.iaload, 1) := by decide +kernel
theorem dX9_dry_42 : decode cX9_dry 42 = .ok (.ifCond .ne 9, 3) := by decide +kernel
theorem dX9_dry_45 : decode cX9_dry 45 = .ok (.iload_n 2, 1) := by decide +kernel
theorem dX9_dry_46 : decode cX9_dry 46 = .ok (.iconst 1, 1) := by decide +kernel
theorem dX9_dry_47 : decode cX9_dry 47 = .ok (.iload_n 3, 1) := by decide +kernel
theorem dX9_dry_48 : decode cX9_dry 48 = .ok (.ishl, 1) := by decide +kernel
theorem dX9_dry_49 : decode cX9_dry 49 = .ok (.ior, 1) := by decide +kernel
theorem dX9_dry_50 : decode cX9_dry 50 = .ok (.istore_n 2, 1) := by decide +kernel
theorem dX9_dry_51 : decode cX9_dry 51 = .ok (.iinc 3 1, 3) := by decide +kernel
theorem dX9_dry_54 : decode cX9_dry 54 = .ok (.goto (-36), 3) := by decide +kernel
theorem dX9_dry_57 : decode cX9_dry 57 = .ok (.iload_n 2, 1) := by decide +kernel
theorem dX9_dry_58 : decode cX9_dry 58 = .ok (.ireturn, 1) := by decide +kernel
theorem dX9_deepest_0 : decode cX9_deepest 0 = .ok (.aload_n 0, 1) := by decide +kernel
theorem dX9_deepest_1 : decode cX9_deepest 1 = .ok (.getfield 28, 3) := by decide +kernel
theorem dX9_deepest_4 : decode cX9_deepest 4 = .ok (.iload_n 1, 1) := by decide +kernel
theorem dX9_deepest_5 : decode cX9_deepest 5 = .ok (.invokevirtual 142, 3) := by decide +kernel
theorem dX9_deepest_8 : decode cX9_deepest 8 = .ok (.ifCond .ne 6, 3) := by decide +kernel
theorem dX9_deepest_11 : decode cX9_deepest 11 = .ok (.bipush (-2), 2) := by decide +kernel
theorem dX9_deepest_13 : decode cX9_deepest 13 = .ok (.ireturn, 1) := by decide +kernel
theorem dX9_deepest_14 : decode cX9_deepest 14 = .ok (.iconst (-1), 1) := by decide +kernel
theorem dX9_deepest_15 : decode cX9_deepest 15 = .ok (.istore_n 2, 1) := by decide +kernel
theorem dX9_deepest_16 : decode cX9_deepest 16 = .ok (.iconst (-1), 1) := by decide +kernel
theorem dX9_deepest_17 : decode cX9_deepest 17 = .ok (.istore_n 3, 1) := by decide +kernel
theorem dX9_deepest_18 : decode cX9_deepest 18 = .ok (.iconst 0, 1) := by decide +kernel
theorem dX9_deepest_19 : decode cX9_deepest 19 = .ok (.istore 4, 2) := by decide +kernel
theorem dX9_deepest_21 : decode cX9_deepest 21 = .ok (.iload 4, 2) := by decide +kernel
theorem dX9_deepest_23 : decode cX9_deepest 23 = .ok (.aload_n 0, 1) := by decide +kernel
theorem dX9_deepest_24 : decode cX9_deepest 24 = .ok (.getfield 28, 3) := by decide +kernel
theorem dX9_deepest_27 : decode cX9_deepest 27 = .ok (.getfield 175, 3) := by decide +kernel
theorem dX9_deepest_30 : decode cX9_deepest 30 = .ok (.if_icmp .ge 37, 3) := by decide +kernel
theorem dX9_deepest_33 : decode cX9_deepest 33 = .ok (.aload_n 0, 1) := by decide +kernel
theorem dX9_deepest_34 : decode cX9_deepest 34 = .ok (.getfield 48, 3) := by decide +kernel
theorem dX9_deepest_37 : decode cX9_deepest 37 = .ok (.getfield 159, 3) := by decide +kernel
theorem dX9_deepest_40 : decode cX9_deepest 40 = .ok (.iload 4, 2) := by decide +kernel
theorem dX9_deepest_42 : decode cX9_deepest 42 = .ok (.iload_n 1, 1) := by decide +kernel
theorem dX9_deepest_43 : decode cX9_deepest 43 = .ok (.invokestatic 162, 3) := by decide +kernel
theorem dX9_deepest_46 : decode cX9_deepest 46 = .ok (.iaload, 1) := by decide +kernel
theorem dX9_deepest_47 : decode cX9_deepest 47 = .ok (.istore 5, 2) := by decide +kernel
theorem dX9_deepest_49 : decode cX9_deepest 49 = .ok (.iload 5, 2) := by decide +kernel
theorem dX9_deepest_51 : decode cX9_deepest 51 = .ok (.iload_n 3, 1) := by decide +kernel
theorem dX9_deepest_52 : decode cX9_deepest 52 = .ok (.if_icmp .le 9, 3) := by decide +kernel
theorem dX9_deepest_55 : decode cX9_deepest 55 = .ok (.iload 5, 2) := by decide +kernel
theorem dX9_deepest_57 : decode cX9_deepest 57 = .ok (.istore_n 3, 1) := by decide +kernel
theorem dX9_deepest_58 : decode cX9_deepest 58 = .ok (.iload 4, 2) := by decide +kernel
theorem dX9_deepest_60 : decode cX9_deepest 60 = .ok (.istore_n 2, 1) := by decide +kernel
theorem dX9_deepest_61 : decode cX9_deepest 61 = .ok (.iinc 4 1, 3) := by decide +kernel
theorem dX9_deepest_64 : decode cX9_deepest 64 = .ok (.goto (-43), 3) := by decide +kernel
theorem dX9_deepest_67 : decode cX9_deepest 67 = .ok (.iload_n 2, 1) := by decide +kernel
theorem dX9_deepest_68 : decode cX9_deepest 68 = .ok (.ireturn, 1) := by decide +kernel
theorem dX9_most_0 : decode cX9_most 0 = .ok (.aload_n 0, 1) := by decide +kernel
theorem dX9_most_1 : decode cX9_most 1 = .ok (.getfield 28, 3) := by decide +kernel
theorem dX9_most_4 : decode cX9_most 4 = .ok (.iload_n 1, 1) := by decide +kernel
theorem dX9_most_5 : decode cX9_most 5 = .ok (.invokevirtual 98, 3) := by decide +kernel
theorem dX9_most_8 : decode cX9_most 8 = .ok (.ifCond .ne 6, 3) := by decide +kernel
theorem dX9_most_11 : decode cX9_most 11 = .ok (.bipush (-2), 2) := by decide +kernel
theorem dX9_most_13 : decode cX9_most 13 = .ok (.ireturn, 1) := by decide +kernel
theorem dX9_most_14 : decode cX9_most 14 = .ok (.iconst 0, 1) := by decide +kernel
theorem dX9_most_15 : decode cX9_most 15 = .ok (.istore_n 2, 1) := by decide +kernel
theorem dX9_most_16 : decode cX9_most 16 = .ok (.iconst 0, 1) := by decide +kernel
theorem dX9_most_17 : decode cX9_most 17 = .ok (.istore_n 3, 1) := by decide +kernel
theorem dX9_most_18 : decode cX9_most 18 = .ok (.iload_n 3, 1) := by decide +kernel
theorem dX9_most_19 : decode cX9_most 19 = .ok (.aload_n 0, 1) := by decide +kernel
theorem dX9_most_20 : decode cX9_most 20 = .ok (.getfield 28, 3) := by decide +kernel
theorem dX9_most_23 : decode cX9_most 23 = .ok (.getfield 178, 3) := by decide +kernel
theorem dX9_most_26 : decode cX9_most 26 = .ok (.if_icmp .ge 27, 3) := by decide +kernel
theorem dX9_most_29 : decode cX9_most 29 = .ok (.iload_n 2, 1) := by decide +kernel
theorem dX9_most_30 : decode cX9_most 30 = .ok (.aload_n 0, 1) := by decide +kernel
theorem dX9_most_31 : decode cX9_most 31 = .ok (.getfield 48, 3) := by decide +kernel
theorem dX9_most_34 : decode cX9_most 34 = .ok (.getfield 159, 3) := by decide +kernel
theorem dX9_most_37 : decode cX9_most 37 = .ok (.iload_n 1, 1) := by decide +kernel
theorem dX9_most_38 : decode cX9_most 38 = .ok (.iload_n 3, 1) := by decide +kernel
theorem dX9_most_39 : decode cX9_most 39 = .ok (.invokestatic 162, 3) := by decide +kernel
theorem dX9_most_42 : decode cX9_most 42 = .ok (.iaload, 1) := by decide +kernel
theorem dX9_most_43 : decode cX9_most 43 = .ok (.invokestatic 181, 3) := by decide +kernel
theorem dX9_most_46 : decode cX9_most 46 = .ok (.istore_n 2, 1) := by decide +kernel
theorem dX9_most_47 : decode cX9_most 47 = .ok (.iinc 3 1, 3) := by decide +kernel
theorem dX9_most_50 : decode cX9_most 50 = .ok (.goto (-32), 3) := by decide +kernel
theorem dX9_most_53 : decode cX9_most 53 = .ok (.iload_n 2, 1) := by decide +kernel
theorem dX9_most_54 : decode cX9_most 54 = .ok (.ireturn, 1) := by decide +kernel
theorem dX9_dries_0 : decode cX9_dries 0 = .ok (.aload_n 0, 1) := by decide +kernel
theorem dX9_dries_1 : decode cX9_dries 1 = .ok (.getfield 28, 3) := by decide +kernel
theorem dX9_dries_4 : decode cX9_dries 4 = .ok (.iload_n 1, 1) := by decide +kernel
theorem dX9_dries_5 : decode cX9_dries 5 = .ok (.invokevirtual 98, 3) := by decide +kernel
theorem dX9_dries_8 : decode cX9_dries 8 = .ok (.ifCond .ne 6, 3) := by decide +kernel
theorem dX9_dries_11 : decode cX9_dries 11 = .ok (.bipush (-2), 2) := by decide +kernel
theorem dX9_dries_13 : decode cX9_dries 13 = .ok (.ireturn, 1) := by decide +kernel
theorem dX9_dries_14 : decode cX9_dries 14 = .ok (.iconst 0, 1) := by decide +kernel
theorem dX9_dries_15 : decode cX9_dries 15 = .ok (.istore_n 2, 1) := by decide +kernel
theorem dX9_dries_16 : decode cX9_dries 16 = .ok (.iload_n 2, 1) := by decide +kernel
theorem dX9_dries_17 : decode cX9_dries 17 = .ok (.aload_n 0, 1) := by decide +kernel
theorem dX9_dries_18 : decode cX9_dries 18 = .ok (.getfield 28, 3) := by decide +kernel
theorem dX9_dries_21 : decode cX9_dries 21 = .ok (.getfield 178, 3) := by decide +kernel
theorem dX9_dries_24 : decode cX9_dries 24 = .ok (.if_icmp .ge 27, 3) := by decide +kernel
theorem dX9_dries_27 : decode cX9_dries 27 = .ok (.aload_n 0, 1) := by decide +kernel
theorem dX9_dries_28 : decode cX9_dries 28 = .ok (.getfield 48, 3) := by decide +kernel
theorem dX9_dries_31 : decode cX9_dries 31 = .ok (.getfield 159, 3) := by decide +kernel
theorem dX9_dries_34 : decode cX9_dries 34 = .ok (.iload_n 1, 1) := by decide +kernel
theorem dX9_dries_35 : decode cX9_dries 35 = .ok (.iload_n 2, 1) := by decide +kernel
theorem dX9_dries_36 : decode cX9_dries 36 = .ok (.invokestatic 162, 3) := by decide +kernel
theorem dX9_dries_39 : decode cX9_dries 39 = .ok (.iaload, 1) := by decide +kernel
theorem dX9_dries_40 : decode cX9_dries 40 = .ok (.ifCond .ne 5, 3) := by decide +kernel
theorem dX9_dries_43 : decode cX9_dries 43 = .ok (.iload_n 2, 1) := by decide +kernel
theorem dX9_dries_44 : decode cX9_dries 44 = .ok (.ireturn, 1) := by decide +kernel
theorem dX9_dries_45 : decode cX9_dries 45 = .ok (.iinc 2 1, 3) := by decide +kernel
theorem dX9_dries_48 : decode cX9_dries 48 = .ok (.goto (-32), 3) := by decide +kernel
theorem dX9_dries_51 : decode cX9_dries 51 = .ok (.iconst (-1), 1) := by decide +kernel
theorem dX9_dries_52 : decode cX9_dries 52 = .ok (.ireturn, 1) := by decide +kernel
theorem dX9_wet_0 : decode cX9_wet 0 = .ok (.aload_n 0, 1) := by decide +kernel
theorem dX9_wet_1 : decode cX9_wet 1 = .ok (.getfield 28, 3) := by decide +kernel
theorem dX9_wet_4 : decode cX9_wet 4 = .ok (.iload_n 1, 1) := by decide +kernel
theorem dX9_wet_5 : decode cX9_wet 5 = .ok (.invokevirtual 98, 3) := by decide +kernel
theorem dX9_wet_8 : decode cX9_wet 8 = .ok (.ifCond .ne 6, 3) := by decide +kernel
theorem dX9_wet_11 : decode cX9_wet 11 = .ok (.bipush (-2), 2) := by decide +kernel
theorem dX9_wet_13 : decode cX9_wet 13 = .ok (.ireturn, 1) := by decide +kernel
theorem dX9_wet_14 : decode cX9_wet 14 = .ok (.iconst 0, 1) := by decide +kernel
theorem dX9_wet_15 : decode cX9_wet 15 = .ok (.istore_n 2, 1) := by decide +kernel
theorem dX9_wet_16 : decode cX9_wet 16 = .ok (.iconst 0, 1) := by decide +kernel
theorem dX9_wet_17 : decode cX9_wet 17 = .ok (.istore_n 3, 1) := by decide +kernel
theorem dX9_wet_18 : decode cX9_wet 18 = .ok (.iload_n 3, 1) := by decide +kernel
theorem dX9_wet_19 : decode cX9_wet 19 = .ok (.aload_n 0, 1) := by decide +kernel
theorem dX9_wet_20 : decode cX9_wet 20 = .ok (.getfield 28, 3) := by decide +kernel
theorem dX9_wet_23 : decode cX9_wet 23 = .ok (.getfield 178, 3) := by decide +kernel
theorem dX9_wet_26 : decode cX9_wet 26 = .ok (.if_icmp .ge 28, 3) := by decide +kernel
theorem dX9_wet_29 : decode cX9_wet 29 = .ok (.aload_n 0, 1) := by decide +kernel
theorem dX9_wet_30 : decode cX9_wet 30 = .ok (.getfield 48, 3) := by decide +kernel
theorem dX9_wet_33 : decode cX9_wet 33 = .ok (.getfield 159, 3) := by decide +kernel
theorem dX9_wet_36 : decode cX9_wet 36 = .ok (.iload_n 1, 1) := by decide +kernel
theorem dX9_wet_37 : decode cX9_wet 37 = .ok (.iload_n 3, 1) := by decide +kernel
theorem dX9_wet_38 : decode cX9_wet 38 = .ok (.invokestatic 162, 3) := by decide +kernel
theorem dX9_wet_41 : decode cX9_wet 41 = .ok (.iaload, 1) := by decide +kernel
theorem dX9_wet_42 : decode cX9_wet 42 = .ok (.ifCond .le 6, 3) := by decide +kernel
theorem dX9_wet_45 : decode cX9_wet 45 = .ok (.iinc 2 1, 3) := by decide +kernel
theorem dX9_wet_48 : decode cX9_wet 48 = .ok (.iinc 3 1, 3) := by decide +kernel
theorem dX9_wet_51 : decode cX9_wet 51 = .ok (.goto (-33), 3) := by decide +kernel
theorem dX9_wet_54 : decode cX9_wet 54 = .ok (.iload_n 2, 1) := by decide +kernel
theorem dX9_wet_55 : decode cX9_wet 55 = .ok (.ireturn, 1) := by decide +kernel
theorem dX9_flood_0 : decode cX9_flood 0 = .ok (.aload_n 0, 1) := by decide +kernel
theorem dX9_flood_1 : decode cX9_flood 1 = .ok (.getfield 28, 3) := by decide +kernel
theorem dX9_flood_4 : decode cX9_flood 4 = .ok (.invokevirtual 148, 3) := by decide +kernel
theorem dX9_flood_7 : decode cX9_flood 7 = .ok (.ifCond .ne 6, 3) := by decide +kernel
theorem dX9_flood_10 : decode cX9_flood 10 = .ok (.bipush (-2), 2) := by decide +kernel
theorem dX9_flood_12 : decode cX9_flood 12 = .ok (.ireturn, 1) := by decide +kernel
theorem dX9_flood_13 : decode cX9_flood 13 = .ok (.iconst (-1), 1) := by decide +kernel
theorem dX9_flood_14 : decode cX9_flood 14 = .ok (.istore_n 1, 1) := by decide +kernel
theorem dX9_flood_15 : decode cX9_flood 15 = .ok (.iconst 0, 1) := by decide +kernel
theorem dX9_flood_16 : decode cX9_flood 16 = .ok (.istore_n 2, 1) := by decide +kernel
theorem dX9_flood_17 : decode cX9_flood 17 = .ok (.iconst 0, 1) := by decide +kernel
theorem dX9_flood_18 : decode cX9_flood 18 = .ok (.istore_n 3, 1) := by decide +kernel
theorem dX9_flood_19 : decode cX9_flood 19 = .ok (.iload_n 3, 1) := by decide +kernel
theorem dX9_flood_20 : decode cX9_flood 20 = .ok (.aload_n 0, 1) := by decide +kernel
theorem dX9_flood_21 : decode cX9_flood 21 = .ok (.getfield 28, 3) := by decide +kernel
theorem dX9_flood_24 : decode cX9_flood 24 = .ok (.getfield 178, 3) := by decide +kernel
theorem dX9_flood_27 : decode cX9_flood 27 = .ok (.if_icmp .ge 34, 3) := by decide +kernel
theorem dX9_flood_30 : decode cX9_flood 30 = .ok (.aload_n 0, 1) := by decide +kernel
theorem dX9_flood_31 : decode cX9_flood 31 = .ok (.getfield 48, 3) := by decide +kernel
theorem dX9_flood_34 : decode cX9_flood 34 = .ok (.getfield 169, 3) := by decide +kernel
theorem dX9_flood_37 : decode cX9_flood 37 = .ok (.iload_n 3, 1) := by decide +kernel
theorem dX9_flood_38 : decode cX9_flood 38 = .ok (.iaload, 1) := by decide +kernel
theorem dX9_flood_39 : decode cX9_flood 39 = .ok (.iload_n 2, 1) := by decide +kernel
theorem dX9_flood_40 : decode cX9_flood 40 = .ok (.if_icmp .le 15, 3) := by decide +kernel
theorem dX9_flood_43 : decode cX9_flood 43 = .ok (.aload_n 0, 1) := by decide +kernel
theorem dX9_flood_44 : decode cX9_flood 44 = .ok (.getfield 48, 3) := by decide +kernel
theorem dX9_flood_47 : decode cX9_flood 47 = .ok (.getfield 169, 3) := by decide +kernel
theorem dX9_flood_50 : decode cX9_flood 50 = .ok (.iload_n 3, 1) := by decide +kernel
theorem dX9_flood_51 : decode cX9_flood 51 = .ok (.iaload, 1) := by decide +kernel
theorem dX9_flood_52 : decode cX9_flood 52 = .ok (.istore_n 2, 1) := by decide +kernel
theorem dX9_flood_53 : decode cX9_flood 53 = .ok (.iload_n 3, 1) := by decide +kernel
theorem dX9_flood_54 : decode cX9_flood 54 = .ok (.istore_n 1, 1) := by decide +kernel
theorem dX9_flood_55 : decode cX9_flood 55 = .ok (.iinc 3 1, 3) := by decide +kernel
theorem dX9_flood_58 : decode cX9_flood 58 = .ok (.goto (-39), 3) := by decide +kernel
theorem dX9_flood_61 : decode cX9_flood 61 = .ok (.iload_n 1, 1) := by decide +kernel
theorem dX9_flood_62 : decode cX9_flood 62 = .ok (.ireturn, 1) := by decide +kernel
theorem dX9_rains_0 : decode cX9_rains 0 = .ok (.aload_n 0, 1) := by decide +kernel
theorem dX9_rains_1 : decode cX9_rains 1 = .ok (.getfield 28, 3) := by decide +kernel
theorem dX9_rains_4 : decode cX9_rains 4 = .ok (.invokevirtual 148, 3) := by decide +kernel
theorem dX9_rains_7 : decode cX9_rains 7 = .ok (.ifCond .ne 6, 3) := by decide +kernel
theorem dX9_rains_10 : decode cX9_rains 10 = .ok (.bipush (-2), 2) := by decide +kernel
theorem dX9_rains_12 : decode cX9_rains 12 = .ok (.ireturn, 1) := by decide +kernel
theorem dX9_rains_13 : decode cX9_rains 13 = .ok (.iconst 0, 1) := by decide +kernel
theorem dX9_rains_14 : decode cX9_rains 14 = .ok (.istore_n 1, 1) := by decide +kernel
theorem dX9_rains_15 : decode cX9_rains 15 = .ok (.iconst 0, 1) := by decide +kernel
theorem dX9_rains_16 : decode cX9_rains 16 = .ok (.istore_n 2, 1) := by decide +kernel
theorem dX9_rains_17 : decode cX9_rains 17 = .ok (.iload_n 2, 1) := by decide +kernel
theorem dX9_rains_18 : decode cX9_rains 18 = .ok (.aload_n 0, 1) := by decide +kernel
theorem dX9_rains_19 : decode cX9_rains 19 = .ok (.getfield 28, 3) := by decide +kernel
theorem dX9_rains_22 : decode cX9_rains 22 = .ok (.getfield 178, 3) := by decide +kernel
theorem dX9_rains_25 : decode cX9_rains 25 = .ok (.if_icmp .ge 21, 3) := by decide +kernel
theorem dX9_rains_28 : decode cX9_rains 28 = .ok (.iload_n 1, 1) := by decide +kernel
theorem dX9_rains_29 : decode cX9_rains 29 = .ok (.aload_n 0, 1) := by decide +kernel
theorem dX9_rains_30 : decode cX9_rains 30 = .ok (.getfield 28, 3) := by decide +kernel
theorem dX9_rains_33 : decode cX9_rains 33 = .ok (.getfield 145, 3) := by decide +kernel
theorem dX9_rains_36 : decode cX9_rains 36 = .ok (.iload_n 2, 1) := by decide +kernel
theorem dX9_rains_37 : decode cX9_rains 37 = .ok (.iaload, 1) := by decide +kernel
theorem dX9_rains_38 : decode cX9_rains 38 = .ok (.iadd, 1) := by decide +kernel
theorem dX9_rains_39 : decode cX9_rains 39 = .ok (.istore_n 1, 1) := by decide +kernel
theorem dX9_rains_40 : decode cX9_rains 40 = .ok (.iinc 2 1, 3) := by decide +kernel
theorem dX9_rains_43 : decode cX9_rains 43 = .ok (.goto (-26), 3) := by decide +kernel
theorem dX9_rains_46 : decode cX9_rains 46 = .ok (.iload_n 1, 1) := by decide +kernel
theorem dX9_rains_47 : decode cX9_rains 47 = .ok (.ireturn, 1) := by decide +kernel
theorem dX9_lone_0 : decode cX9_lone 0 = .ok (.aload_n 0, 1) := by decide +kernel
theorem dX9_lone_1 : decode cX9_lone 1 = .ok (.getfield 28, 3) := by decide +kernel
theorem dX9_lone_4 : decode cX9_lone 4 = .ok (.invokevirtual 148, 3) := by decide +kernel
theorem dX9_lone_7 : decode cX9_lone 7 = .ok (.ifCond .ne 6, 3) := by decide +kernel
theorem dX9_lone_10 : decode cX9_lone 10 = .ok (.bipush (-2), 2) := by decide +kernel
theorem dX9_lone_12 : decode cX9_lone 12 = .ok (.ireturn, 1) := by decide +kernel
theorem dX9_lone_13 : decode cX9_lone 13 = .ok (.iconst 0, 1) := by decide +kernel
theorem dX9_lone_14 : decode cX9_lone 14 = .ok (.istore_n 1, 1) := by decide +kernel
theorem dX9_lone_15 : decode cX9_lone 15 = .ok (.iconst 0, 1) := by decide +kernel
theorem dX9_lone_16 : decode cX9_lone 16 = .ok (.istore_n 2, 1) := by decide +kernel
theorem dX9_lone_17 : decode cX9_lone 17 = .ok (.iload_n 2, 1) := by decide +kernel
theorem dX9_lone_18 : decode cX9_lone 18 = .ok (.aload_n 0, 1) := by decide +kernel
theorem dX9_lone_19 : decode cX9_lone 19 = .ok (.getfield 28, 3) := by decide +kernel
theorem dX9_lone_22 : decode cX9_lone 22 = .ok (.getfield 178, 3) := by decide +kernel
theorem dX9_lone_25 : decode cX9_lone 25 = .ok (.if_icmp .ge 40, 3) := by decide +kernel
theorem dX9_lone_28 : decode cX9_lone 28 = .ok (.iconst 0, 1) := by decide +kernel
theorem dX9_lone_29 : decode cX9_lone 29 = .ok (.istore_n 3, 1) := by decide +kernel
theorem dX9_lone_30 : decode cX9_lone 30 = .ok (.iload_n 3, 1) := by decide +kernel
theorem dX9_lone_31 : decode cX9_lone 31 = .ok (.aload_n 0, 1) := by decide +kernel
theorem dX9_lone_32 : decode cX9_lone 32 = .ok (.getfield 28, 3) := by decide +kernel
theorem dX9_lone_35 : decode cX9_lone 35 = .ok (.getfield 175, 3) := by decide +kernel
theorem dX9_lone_38 : decode cX9_lone 38 = .ok (.if_icmp .ge 21, 3) := by decide +kernel
theorem dX9_lone_41 : decode cX9_lone 41 = .ok (.iload_n 1, 1) := by decide +kernel
theorem dX9_lone_42 : decode cX9_lone 42 = .ok (.aload_n 0, 1) := by decide +kernel
theorem dX9_lone_43 : decode cX9_lone 43 = .ok (.getfield 48, 3) := by decide +kernel
theorem dX9_lone_46 : decode cX9_lone 46 = .ok (.iload_n 3, 1) := by decide +kernel
theorem dX9_lone_47 : decode cX9_lone 47 = .ok (.iload_n 2, 1) := by decide +kernel
theorem dX9_lone_48 : decode cX9_lone 48 = .ok (.invokevirtual 186, 3) := by decide +kernel
theorem dX9_lone_51 : decode cX9_lone 51 = .ok (.ior, 1) := by decide +kernel
theorem dX9_lone_52 : decode cX9_lone 52 = .ok (.istore_n 1, 1) := by decide +kernel
theorem dX9_lone_53 : decode cX9_lone 53 = .ok (.iinc 3 1, 3) := by decide +kernel
theorem dX9_lone_56 : decode cX9_lone 56 = .ok (.goto (-26), 3) := by decide +kernel
theorem dX9_lone_59 : decode cX9_lone 59 = .ok (.iinc 2 1, 3) := by decide +kernel
theorem dX9_lone_62 : decode cX9_lone 62 = .ok (.goto (-45), 3) := by decide +kernel
theorem dX9_lone_65 : decode cX9_lone 65 = .ok (.aload_n 0, 1) := by decide +kernel
theorem dX9_lone_66 : decode cX9_lone 66 = .ok (.getfield 28, 3) := by decide +kernel
theorem dX9_lone_69 : decode cX9_lone 69 = .ok (.invokevirtual 189, 3) := by decide +kernel
theorem dX9_lone_72 : decode cX9_lone 72 = .ok (.iload_n 1, 1) := by decide +kernel
theorem dX9_lone_73 : decode cX9_lone 73 = .ok (.iconst (-1), 1) := by decide +kernel
theorem dX9_lone_74 : decode cX9_lone 74 = .ok (.ixor, 1) := by decide +kernel
theorem dX9_lone_75 : decode cX9_lone 75 = .ok (.iand, 1) := by decide +kernel
theorem dX9_lone_76 : decode cX9_lone 76 = .ok (.ireturn, 1) := by decide +kernel
theorem dX9_over_0 : decode cX9_over 0 = .ok (.aload_n 0, 1) := by decide +kernel
theorem dX9_over_1 : decode cX9_over 1 = .ok (.getfield 28, 3) := by decide +kernel
theorem dX9_over_4 : decode cX9_over 4 = .ok (.iload_n 2, 1) := by decide +kernel
theorem dX9_over_5 : decode cX9_over 5 = .ok (.invokevirtual 98, 3) := by decide +kernel
theorem dX9_over_8 : decode cX9_over 8 = .ok (.ifCond .eq 15, 3) := by decide +kernel
theorem dX9_over_11 : decode cX9_over 11 = .ok (.aload_n 0, 1) := by decide +kernel
theorem dX9_over_12 : decode cX9_over 12 = .ok (.getfield 28, 3) := by decide +kernel
theorem dX9_over_15 : decode cX9_over 15 = .ok (.iload_n 1, 1) := by decide +kernel
theorem dX9_over_16 : decode cX9_over 16 = .ok (.iload_n 3, 1) := by decide +kernel
theorem dX9_over_17 : decode cX9_over 17 = .ok (.invokevirtual 155, 3) := by decide +kernel
theorem dX9_over_20 : decode cX9_over 20 = .ok (.ifCond .ne 6, 3) := by decide +kernel
theorem dX9_over_23 : decode cX9_over 23 = .ok (.bipush (-2), 2) := by decide +kernel
theorem dX9_over_25 : decode cX9_over 25 = .ok (.ireturn, 1) := by decide +kernel
theorem dX9_over_26 : decode cX9_over 26 = .ok (.aload_n 0, 1) := by decide +kernel
theorem dX9_over_27 : decode cX9_over 27 = .ok (.getfield 48, 3) := by decide +kernel
theorem dX9_over_30 : decode cX9_over 30 = .ok (.iload_n 1, 1) := by decide +kernel
theorem dX9_over_31 : decode cX9_over 31 = .ok (.iload_n 2, 1) := by decide +kernel
theorem dX9_over_32 : decode cX9_over 32 = .ok (.iload_n 3, 1) := by decide +kernel
theorem dX9_over_33 : decode cX9_over 33 = .ok (.invokevirtual 193, 3) := by decide +kernel
theorem dX9_over_36 : decode cX9_over 36 = .ok (.ifCond .eq 7, 3) := by decide +kernel
theorem dX9_over_39 : decode cX9_over 39 = .ok (.iconst 1, 1) := by decide +kernel
theorem dX9_over_40 : decode cX9_over 40 = .ok (.goto 4, 3) := by decide +kernel
theorem dX9_over_43 : decode cX9_over 43 = .ok (.iconst 0, 1) := by decide +kernel
theorem dX9_over_44 : decode cX9_over 44 = .ok (.ireturn, 1) := by decide +kernel
theorem dX9_comes_0 : decode cX9_comes 0 = .ok (.aload_n 0, 1) := by decide +kernel
theorem dX9_comes_1 : decode cX9_comes 1 = .ok (.getfield 28, 3) := by decide +kernel
theorem dX9_comes_4 : decode cX9_comes 4 = .ok (.iload_n 1, 1) := by decide +kernel
theorem dX9_comes_5 : decode cX9_comes 5 = .ok (.iload_n 2, 1) := by decide +kernel
theorem dX9_comes_6 : decode cX9_comes 6 = .ok (.invokevirtual 155, 3) := by decide +kernel
theorem dX9_comes_9 : decode cX9_comes 9 = .ok (.ifCond .eq 15, 3) := by decide +kernel
theorem dX9_comes_12 : decode cX9_comes 12 = .ok (.aload_n 0, 1) := by decide +kernel
theorem dX9_comes_13 : decode cX9_comes 13 = .ok (.getfield 48, 3) := by decide +kernel
theorem dX9_comes_16 : decode cX9_comes 16 = .ok (.iload_n 1, 1) := by decide +kernel
theorem dX9_comes_17 : decode cX9_comes 17 = .ok (.iload_n 2, 1) := by decide +kernel
theorem dX9_comes_18 : decode cX9_comes 18 = .ok (.invokevirtual 186, 3) := by decide +kernel
theorem dX9_comes_21 : decode cX9_comes 21 = .ok (.goto 5, 3) := by decide +kernel
theorem dX9_comes_24 : decode cX9_comes 24 = .ok (.bipush (-2), 2) := by decide +kernel
theorem dX9_comes_26 : decode cX9_comes 26 = .ok (.ireturn, 1) := by decide +kernel
theorem dX9_guests_0 : decode cX9_guests 0 = .ok (.aload_n 0, 1) := by decide +kernel
theorem dX9_guests_1 : decode cX9_guests 1 = .ok (.getfield 28, 3) := by decide +kernel
theorem dX9_guests_4 : decode cX9_guests 4 = .ok (.iload_n 1, 1) := by decide +kernel
theorem dX9_guests_5 : decode cX9_guests 5 = .ok (.iload_n 2, 1) := by decide +kernel
theorem dX9_guests_6 : decode cX9_guests 6 = .ok (.invokevirtual 155, 3) := by decide +kernel
theorem dX9_guests_9 : decode cX9_guests 9 = .ok (.ifCond .ne 6, 3) := by decide +kernel
theorem dX9_guests_12 : decode cX9_guests 12 = .ok (.bipush (-2), 2) := by decide +kernel
theorem dX9_guests_14 : decode cX9_guests 14 = .ok (.ireturn, 1) := by decide +kernel
theorem dX9_guests_15 : decode cX9_guests 15 = .ok (.iconst 0, 1) := by decide +kernel
theorem dX9_guests_16 : decode cX9_guests 16 = .ok (.istore_n 3, 1) := by decide +kernel
theorem dX9_guests_17 : decode cX9_guests 17 = .ok (.iconst 0, 1) := by decide +kernel
theorem dX9_guests_18 : decode cX9_guests 18 = .ok (.istore 4, 2) := by decide +kernel
theorem dX9_guests_20 : decode cX9_guests 20 = .ok (.iload 4, 2) := by decide +kernel
theorem dX9_guests_22 : decode cX9_guests 22 = .ok (.aload_n 0, 1) := by decide +kernel
theorem dX9_guests_23 : decode cX9_guests 23 = .ok (.getfield 28, 3) := by decide +kernel
theorem dX9_guests_26 : decode cX9_guests 26 = .ok (.getfield 175, 3) := by decide +kernel
theorem dX9_guests_29 : decode cX9_guests 29 = .ok (.if_icmp .ge 30, 3) := by decide +kernel
theorem dX9_guests_32 : decode cX9_guests 32 = .ok (.aload_n 0, 1) := by decide +kernel
theorem dX9_guests_33 : decode cX9_guests 33 = .ok (.getfield 48, 3) := by decide +kernel
theorem dX9_guests_36 : decode cX9_guests 36 = .ok (.iload 4, 2) := by decide +kernel
theorem dX9_guests_38 : decode cX9_guests 38 = .ok (.iload_n 1, 1) := by decide +kernel
theorem dX9_guests_39 : decode cX9_guests 39 = .ok (.iload_n 2, 1) := by decide +kernel
theorem dX9_guests_40 : decode cX9_guests 40 = .ok (.invokevirtual 197, 3) := by decide +kernel
theorem dX9_guests_43 : decode cX9_guests 43 = .ok (.ifCond .eq 10, 3) := by decide +kernel
theorem dX9_guests_46 : decode cX9_guests 46 = .ok (.iload_n 3, 1) := by decide +kernel
theorem dX9_guests_47 : decode cX9_guests 47 = .ok (.iconst 1, 1) := by decide +kernel
theorem dX9_guests_48 : decode cX9_guests 48 = .ok (.iload 4, 2) := by decide +kernel
theorem dX9_guests_50 : decode cX9_guests 50 = .ok (.ishl, 1) := by decide +kernel
theorem dX9_guests_51 : decode cX9_guests 51 = .ok (.ior, 1) := by decide +kernel
theorem dX9_guests_52 : decode cX9_guests 52 = .ok (.istore_n 3, 1) := by decide +kernel
theorem dX9_guests_53 : decode cX9_guests 53 = .ok (.iinc 4 1, 3) := by decide +kernel
theorem dX9_guests_56 : decode cX9_guests 56 = .ok (.goto (-36), 3) := by decide +kernel
theorem dX9_guests_59 : decode cX9_guests 59 = .ok (.iload_n 3, 1) := by decide +kernel
theorem dX9_guests_60 : decode cX9_guests 60 = .ok (.ireturn, 1) := by decide +kernel
theorem dX9_first_0 : decode cX9_first 0 = .ok (.aload_n 0, 1) := by decide +kernel
theorem dX9_first_1 : decode cX9_first 1 = .ok (.getfield 28, 3) := by decide +kernel
theorem dX9_first_4 : decode cX9_first 4 = .ok (.iload_n 1, 1) := by decide +kernel
theorem dX9_first_5 : decode cX9_first 5 = .ok (.iload_n 2, 1) := by decide +kernel
theorem dX9_first_6 : decode cX9_first 6 = .ok (.invokevirtual 200, 3) := by decide +kernel
theorem dX9_first_9 : decode cX9_first 9 = .ok (.ifCond .ne 6, 3) := by decide +kernel
theorem dX9_first_12 : decode cX9_first 12 = .ok (.bipush (-2), 2) := by decide +kernel
theorem dX9_first_14 : decode cX9_first 14 = .ok (.ireturn, 1) := by decide +kernel
theorem dX9_first_15 : decode cX9_first 15 = .ok (.iconst 0, 1) := by decide +kernel
theorem dX9_first_16 : decode cX9_first 16 = .ok (.istore_n 3, 1) := by decide +kernel
theorem dX9_first_17 : decode cX9_first 17 = .ok (.iload_n 3, 1) := by decide +kernel
theorem dX9_first_18 : decode cX9_first 18 = .ok (.aload_n 0, 1) := by decide +kernel
theorem dX9_first_19 : decode cX9_first 19 = .ok (.getfield 28, 3) := by decide +kernel
theorem dX9_first_22 : decode cX9_first 22 = .ok (.getfield 178, 3) := by decide +kernel
theorem dX9_first_25 : decode cX9_first 25 = .ok (.if_icmp .ge 24, 3) := by decide +kernel
theorem dX9_first_28 : decode cX9_first 28 = .ok (.aload_n 0, 1) := by decide +kernel
theorem dX9_first_29 : decode cX9_first 29 = .ok (.getfield 48, 3) := by decide +kernel
theorem dX9_first_32 : decode cX9_first 32 = .ok (.iload_n 1, 1) := by decide +kernel
theorem dX9_first_33 : decode cX9_first 33 = .ok (.iload_n 2, 1) := by decide +kernel
theorem dX9_first_34 : decode cX9_first 34 = .ok (.iload_n 3, 1) := by decide +kernel
theorem dX9_first_35 : decode cX9_first 35 = .ok (.invokevirtual 197, 3) := by decide +kernel
theorem dX9_first_38 : decode cX9_first 38 = .ok (.ifCond .eq 5, 3) := by decide +kernel
theorem dX9_first_41 : decode cX9_first 41 = .ok (.iload_n 3, 1) := by decide +kernel
theorem dX9_first_42 : decode cX9_first 42 = .ok (.ireturn, 1) := by decide +kernel
theorem dX9_first_43 : decode cX9_first 43 = .ok (.iinc 3 1, 3) := by decide +kernel
theorem dX9_first_46 : decode cX9_first 46 = .ok (.goto (-29), 3) := by decide +kernel
theorem dX9_first_49 : decode cX9_first 49 = .ok (.iconst (-1), 1) := by decide +kernel
theorem dX9_first_50 : decode cX9_first 50 = .ok (.ireturn, 1) := by decide +kernel
theorem dX9_often_0 : decode cX9_often 0 = .ok (.aload_n 0, 1) := by decide +kernel
theorem dX9_often_1 : decode cX9_often 1 = .ok (.getfield 28, 3) := by decide +kernel
theorem dX9_often_4 : decode cX9_often 4 = .ok (.iload_n 1, 1) := by decide +kernel
theorem dX9_often_5 : decode cX9_often 5 = .ok (.iload_n 2, 1) := by decide +kernel
theorem dX9_often_6 : decode cX9_often 6 = .ok (.invokevirtual 200, 3) := by decide +kernel
theorem dX9_often_9 : decode cX9_often 9 = .ok (.ifCond .ne 6, 3) := by decide +kernel
theorem dX9_often_12 : decode cX9_often 12 = .ok (.bipush (-2), 2) := by decide +kernel
theorem dX9_often_14 : decode cX9_often 14 = .ok (.ireturn, 1) := by decide +kernel
theorem dX9_often_15 : decode cX9_often 15 = .ok (.iconst 0, 1) := by decide +kernel
theorem dX9_often_16 : decode cX9_often 16 = .ok (.istore_n 3, 1) := by decide +kernel
theorem dX9_often_17 : decode cX9_often 17 = .ok (.iconst 0, 1) := by decide +kernel
theorem dX9_often_18 : decode cX9_often 18 = .ok (.istore 4, 2) := by decide +kernel
theorem dX9_often_20 : decode cX9_often 20 = .ok (.iload 4, 2) := by decide +kernel
theorem dX9_often_22 : decode cX9_often 22 = .ok (.aload_n 0, 1) := by decide +kernel
theorem dX9_often_23 : decode cX9_often 23 = .ok (.getfield 28, 3) := by decide +kernel
theorem dX9_often_26 : decode cX9_often 26 = .ok (.getfield 178, 3) := by decide +kernel
theorem dX9_often_29 : decode cX9_often 29 = .ok (.if_icmp .ge 26, 3) := by decide +kernel
theorem dX9_often_32 : decode cX9_often 32 = .ok (.aload_n 0, 1) := by decide +kernel
theorem dX9_often_33 : decode cX9_often 33 = .ok (.getfield 48, 3) := by decide +kernel
theorem dX9_often_36 : decode cX9_often 36 = .ok (.iload_n 1, 1) := by decide +kernel
theorem dX9_often_37 : decode cX9_often 37 = .ok (.iload_n 2, 1) := by decide +kernel
theorem dX9_often_38 : decode cX9_often 38 = .ok (.iload 4, 2) := by decide +kernel
theorem dX9_often_40 : decode cX9_often 40 = .ok (.invokevirtual 197, 3) := by decide +kernel
theorem dX9_often_43 : decode cX9_often 43 = .ok (.ifCond .eq 6, 3) := by decide +kernel
theorem dX9_often_46 : decode cX9_often 46 = .ok (.iinc 3 1, 3) := by decide +kernel
theorem dX9_often_49 : decode cX9_often 49 = .ok (.iinc 4 1, 3) := by decide +kernel
theorem dX9_often_52 : decode cX9_often 52 = .ok (.goto (-32), 3) := by decide +kernel
theorem dX9_often_55 : decode cX9_often 55 = .ok (.iload_n 3, 1) := by decide +kernel
theorem dX9_often_56 : decode cX9_often 56 = .ok (.ireturn, 1) := by decide +kernel
theorem dX9_news_0 : decode cX9_news 0 = .ok (.aload_n 0, 1) := by decide +kernel
theorem dX9_news_1 : decode cX9_news 1 = .ok (.getfield 28, 3) := by decide +kernel
theorem dX9_news_4 : decode cX9_news 4 = .ok (.iload_n 2, 1) := by decide +kernel
theorem dX9_news_5 : decode cX9_news 5 = .ok (.invokevirtual 98, 3) := by decide +kernel
theorem dX9_news_8 : decode cX9_news 8 = .ok (.ifCond .eq 15, 3) := by decide +kernel
theorem dX9_news_11 : decode cX9_news 11 = .ok (.aload_n 0, 1) := by decide +kernel
theorem dX9_news_12 : decode cX9_news 12 = .ok (.getfield 28, 3) := by decide +kernel
theorem dX9_news_15 : decode cX9_news 15 = .ok (.iload_n 1, 1) := by decide +kernel
theorem dX9_news_16 : decode cX9_news 16 = .ok (.iload_n 3, 1) := by decide +kernel
theorem dX9_news_17 : decode cX9_news 17 = .ok (.invokevirtual 155, 3) := by decide +kernel
theorem dX9_news_20 : decode cX9_news 20 = .ok (.ifCond .ne 6, 3) := by decide +kernel
theorem dX9_news_23 : decode cX9_news 23 = .ok (.bipush (-2), 2) := by decide +kernel
theorem dX9_news_25 : decode cX9_news 25 = .ok (.ireturn, 1) := by decide +kernel
theorem dX9_news_26 : decode cX9_news 26 = .ok (.iconst 1, 1) := by decide +kernel
theorem dX9_news_27 : decode cX9_news 27 = .ok (.iload_n 1, 1) := by decide +kernel
theorem dX9_news_28 : decode cX9_news 28 = .ok (.ishl, 1) := by decide +kernel
theorem dX9_news_29 : decode cX9_news 29 = .ok (.istore 4, 2) := by decide +kernel
theorem dX9_news_31 : decode cX9_news 31 = .ok (.iconst 0, 1) := by decide +kernel
theorem dX9_news_32 : decode cX9_news 32 = .ok (.istore 5, 2) := by decide +kernel
theorem dX9_news_34 : decode cX9_news 34 = .ok (.iload 5, 2) := by decide +kernel
theorem dX9_news_36 : decode cX9_news 36 = .ok (.aload_n 0, 1) := by decide +kernel
theorem dX9_news_37 : decode cX9_news 37 = .ok (.getfield 28, 3) := by decide +kernel
theorem dX9_news_40 : decode cX9_news 40 = .ok (.getfield 175, 3) := by decide +kernel
theorem dX9_news_43 : decode cX9_news 43 = .ok (.if_icmp .gt 33, 3) := by decide +kernel
theorem dX9_news_46 : decode cX9_news 46 = .ok (.iload 4, 2) := by decide +kernel
theorem dX9_news_48 : decode cX9_news 48 = .ok (.iload_n 2, 1) := by decide +kernel
theorem dX9_news_49 : decode cX9_news 49 = .ok (.ishr, 1) := by decide +kernel
theorem dX9_news_50 : decode cX9_news 50 = .ok (.iconst 1, 1) := by decide +kernel
theorem dX9_news_51 : decode cX9_news 51 = .ok (.iand, 1) := by decide +kernel
theorem dX9_news_52 : decode cX9_news 52 = .ok (.ifCond .eq 6, 3) := by decide +kernel
theorem dX9_news_55 : decode cX9_news 55 = .ok (.iload 5, 2) := by decide +kernel
theorem dX9_news_57 : decode cX9_news 57 = .ok (.ireturn, 1) := by decide +kernel
theorem dX9_news_58 : decode cX9_news 58 = .ok (.aload_n 0, 1) := by decide +kernel
theorem dX9_news_59 : decode cX9_news 59 = .ok (.getfield 48, 3) := by decide +kernel
theorem dX9_news_62 : decode cX9_news 62 = .ok (.iload 4, 2) := by decide +kernel
theorem dX9_news_64 : decode cX9_news 64 = .ok (.iload_n 3, 1) := by decide +kernel
theorem dX9_news_65 : decode cX9_news 65 = .ok (.invokevirtual 203, 3) := by decide +kernel
theorem dX9_news_68 : decode cX9_news 68 = .ok (.istore 4, 2) := by decide +kernel
theorem dX9_news_70 : decode cX9_news 70 = .ok (.iinc 5 1, 3) := by decide +kernel
theorem dX9_news_73 : decode cX9_news 73 = .ok (.goto (-39), 3) := by decide +kernel
theorem dX9_news_76 : decode cX9_news 76 = .ok (.iconst (-1), 1) := by decide +kernel
theorem dX9_news_77 : decode cX9_news 77 = .ok (.ireturn, 1) := by decide +kernel
theorem dX9_friends_0 : decode cX9_friends 0 = .ok (.aload_n 0, 1) := by decide +kernel
theorem dX9_friends_1 : decode cX9_friends 1 = .ok (.getfield 28, 3) := by decide +kernel
theorem dX9_friends_4 : decode cX9_friends 4 = .ok (.iload_n 1, 1) := by decide +kernel
theorem dX9_friends_5 : decode cX9_friends 5 = .ok (.invokevirtual 142, 3) := by decide +kernel
theorem dX9_friends_8 : decode cX9_friends 8 = .ok (.ifCond .eq 14, 3) := by decide +kernel
theorem dX9_friends_11 : decode cX9_friends 11 = .ok (.aload_n 0, 1) := by decide +kernel
theorem dX9_friends_12 : decode cX9_friends 12 = .ok (.getfield 48, 3) := by decide +kernel
theorem dX9_friends_15 : decode cX9_friends 15 = .ok (.iload_n 1, 1) := by decide +kernel
theorem dX9_friends_16 : decode cX9_friends 16 = .ok (.invokevirtual 206, 3) := by decide +kernel
theorem dX9_friends_19 : decode cX9_friends 19 = .ok (.goto 5, 3) := by decide +kernel
theorem dX9_friends_22 : decode cX9_friends 22 = .ok (.bipush (-2), 2) := by decide +kernel
theorem dX9_friends_24 : decode cX9_friends 24 = .ok (.ireturn, 1) := by decide +kernel
theorem dX9_fair_0 : decode cX9_fair 0 = .ok (.aload_n 0, 1) := by decide +kernel
theorem dX9_fair_1 : decode cX9_fair 1 = .ok (.getfield 28, 3) := by decide +kernel
theorem dX9_fair_4 : decode cX9_fair 4 = .ok (.invokevirtual 148, 3) := by decide +kernel
theorem dX9_fair_7 : decode cX9_fair 7 = .ok (.ifCond .ne 6, 3) := by decide +kernel
theorem dX9_fair_10 : decode cX9_fair 10 = .ok (.bipush (-2), 2) := by decide +kernel
theorem dX9_fair_12 : decode cX9_fair 12 = .ok (.ireturn, 1) := by decide +kernel
theorem dX9_fair_13 : decode cX9_fair 13 = .ok (.iconst 0, 1) := by decide +kernel
theorem dX9_fair_14 : decode cX9_fair 14 = .ok (.istore_n 1, 1) := by decide +kernel
