theorem dX5_plankLine_53 : decode cX5_plankLine 53 = .ok (.getfield 115, 3) := by decide +kernel
theorem dX5_plankLine_56 : decode cX5_plankLine 56 = .ok (.iconst 1, 1) := by decide +kernel
theorem dX5_plankLine_57 : decode cX5_plankLine 57 = .ok (.isub, 1) := by decide +kernel
theorem dX5_plankLine_58 : decode cX5_plankLine 58 = .ok (.invokevirtual 101, 3) := by decide +kernel
theorem dX5_plankLine_61 : decode cX5_plankLine 61 = .ok (.iastore, 1) := by decide +kernel
theorem dX5_plankLine_62 : decode cX5_plankLine 62 = .ok (.aload_n 1, 1) := by decide +kernel
theorem dX5_plankLine_63 : decode cX5_plankLine 63 = .ok (.dup, 1) := by decide +kernel
theorem dX5_plankLine_64 : decode cX5_plankLine 64 = .ok (.getfield 136, 3) := by decide +kernel
theorem dX5_plankLine_67 : decode cX5_plankLine 67 = .ok (.iconst 1, 1) := by decide +kernel
theorem dX5_plankLine_68 : decode cX5_plankLine 68 = .ok (.iadd, 1) := by decide +kernel
theorem dX5_plankLine_69 : decode cX5_plankLine 69 = .ok (.putfield 136, 3) := by decide +kernel
theorem dX5_plankLine_72 : decode cX5_plankLine 72 = .ok (.return_, 1) := by decide +kernel
set_option maxRecDepth 20000 in
theorem ggX5_rainLine_X5_fail : GoodIn wsX5_rainLine wsX5_fail := goodIn_r _ [5, 6, 7, 8, 112, 113, 114, 115, 116, 117, 118] (by decide +kernel) (by decide +kernel)
set_option maxRecDepth 20000 in
theorem gX5_rainLine_X5_fail : GoodIn wsX5_rainLine (wsV RX5 86 RX5 yX5_fail wsX5_fail) := goodIn_app (goodIn_of _ (by decide +kernel)) ggX5_rainLine_X5_fail
set_option maxRecDepth 20000 in
theorem ggX5_rainLine_X5_word : GoodIn wsX5_rainLine wsX5_word := goodIn_r _ [12, 13, 14, 15, 4, 16, 17, 18, 7, 19, 20, 21, 22, 23, 24, 25, 26, 27, 28, 29, 30, 31, 32, 33, 34, 35, 36, 37, 38, 39, 40, 41, 42, 43, 44, 45, 46, 47, 48, 49, 50, 51, 52, 53, 54, 55, 56, 57, 58, 59, 60, 61, 62, 63, 64, 65, 66, 67, 68, 69, 70, 71, 72, 73, 74, 1, 2, 3, 5, 6, 8, 75, 76, 77, 78, 79, 80, 81, 82, 83, 84, 85, 86, 87, 88, 89, 112, 113, 114, 115, 116, 117, 118, 119, 120] (by decide +kernel) (by decide +kernel)
set_option maxRecDepth 20000 in
theorem gX5_rainLine_X5_word : GoodIn wsX5_rainLine (wsV RX5 95 RX5 yX5_word wsX5_word) := goodIn_app (goodIn_of _ (by decide +kernel)) ggX5_rainLine_X5_word
set_option maxRecDepth 20000 in
theorem ggX5_rainLine_X5_number : GoodIn wsX5_rainLine wsX5_number := goodIn_r _ [93, 83, 17, 6, 1, 2, 3, 4, 5, 7, 8, 75, 76, 77, 78, 18, 19, 79, 80, 81, 82, 32, 33, 34, 35, 36, 37, 84, 85, 86, 87, 88, 89, 112, 113, 114, 115, 116, 117, 118, 119, 120] (by decide +kernel) (by decide +kernel)
set_option maxRecDepth 20000 in
theorem gX5_rainLine_X5_number : GoodIn wsX5_rainLine (wsV RX5 101 RX5 yX5_number wsX5_number) := goodIn_app (goodIn_of _ (by decide +kernel)) ggX5_rainLine_X5_number
theorem dX5_rainLine_0 : decode cX5_rainLine 0 = .ok (.aload_n 1, 1) := by decide +kernel
theorem dX5_rainLine_1 : decode cX5_rainLine 1 = .ok (.getfield 147, 3) := by decide +kernel
theorem dX5_rainLine_4 : decode cX5_rainLine 4 = .ok (.iconst 5, 1) := by decide +kernel
theorem dX5_rainLine_5 : decode cX5_rainLine 5 = .ok (.if_icmp .lt 9, 3) := by decide +kernel
theorem dX5_rainLine_8 : decode cX5_rainLine 8 = .ok (.aload_n 0, 1) := by decide +kernel
theorem dX5_rainLine_9 : decode cX5_rainLine 9 = .ok (.iconst 3, 1) := by decide +kernel
theorem dX5_rainLine_10 : decode cX5_rainLine 10 = .ok (.invokevirtual 86, 3) := by decide +kernel
theorem dX5_rainLine_13 : decode cX5_rainLine 13 = .ok (.return_, 1) := by decide +kernel
theorem dX5_rainLine_14 : decode cX5_rainLine 14 = .ok (.aload_n 0, 1) := by decide +kernel
theorem dX5_rainLine_15 : decode cX5_rainLine 15 = .ok (.ldc 66, 2) := by decide +kernel
theorem dX5_rainLine_17 : decode cX5_rainLine 17 = .ok (.invokevirtual 95, 3) := by decide +kernel
theorem dX5_rainLine_20 : decode cX5_rainLine 20 = .ok (.aload_n 0, 1) := by decide +kernel
theorem dX5_rainLine_21 : decode cX5_rainLine 21 = .ok (.iconst 1, 1) := by decide +kernel
theorem dX5_rainLine_22 : decode cX5_rainLine 22 = .ok (.bipush 40, 2) := by decide +kernel
theorem dX5_rainLine_24 : decode cX5_rainLine 24 = .ok (.invokevirtual 101, 3) := by decide +kernel
theorem dX5_rainLine_27 : decode cX5_rainLine 27 = .ok (.istore_n 2, 1) := by decide +kernel
theorem dX5_rainLine_28 : decode cX5_rainLine 28 = .ok (.aload_n 0, 1) := by decide +kernel
theorem dX5_rainLine_29 : decode cX5_rainLine 29 = .ok (.ldc 150, 2) := by decide +kernel
theorem dX5_rainLine_31 : decode cX5_rainLine 31 = .ok (.invokevirtual 95, 3) := by decide +kernel
theorem dX5_rainLine_34 : decode cX5_rainLine 34 = .ok (.aload_n 1, 1) := by decide +kernel
theorem dX5_rainLine_35 : decode cX5_rainLine 35 = .ok (.getfield 152, 3) := by decide +kernel
theorem dX5_rainLine_38 : decode cX5_rainLine 38 = .ok (.aload_n 0, 1) := by decide +kernel
theorem dX5_rainLine_39 : decode cX5_rainLine 39 = .ok (.iconst 0, 1) := by decide +kernel
theorem dX5_rainLine_40 : decode cX5_rainLine 40 = .ok (.bipush 15, 2) := by decide +kernel
theorem dX5_rainLine_42 : decode cX5_rainLine 42 = .ok (.invokevirtual 101, 3) := by decide +kernel
theorem dX5_rainLine_45 : decode cX5_rainLine 45 = .ok (.dup2, 1) := by decide +kernel
theorem dX5_rainLine_46 : decode cX5_rainLine 46 = .ok (.iaload, 1) := by decide +kernel
theorem dX5_rainLine_47 : decode cX5_rainLine 47 = .ok (.iload_n 2, 1) := by decide +kernel
theorem dX5_rainLine_48 : decode cX5_rainLine 48 = .ok (.iadd, 1) := by decide +kernel
theorem dX5_rainLine_49 : decode cX5_rainLine 49 = .ok (.iastore, 1) := by decide +kernel
theorem dX5_rainLine_50 : decode cX5_rainLine 50 = .ok (.aload_n 1, 1) := by decide +kernel
theorem dX5_rainLine_51 : decode cX5_rainLine 51 = .ok (.dup, 1) := by decide +kernel
theorem dX5_rainLine_52 : decode cX5_rainLine 52 = .ok (.getfield 147, 3) := by decide +kernel
theorem dX5_rainLine_55 : decode cX5_rainLine 55 = .ok (.iconst 1, 1) := by decide +kernel
theorem dX5_rainLine_56 : decode cX5_rainLine 56 = .ok (.iadd, 1) := by decide +kernel
theorem dX5_rainLine_57 : decode cX5_rainLine 57 = .ok (.putfield 147, 3) := by decide +kernel
theorem dX5_rainLine_60 : decode cX5_rainLine 60 = .ok (.return_, 1) := by decide +kernel
set_option maxRecDepth 20000 in
theorem ggX5_frostLine_X5_fail : GoodIn wsX5_frostLine wsX5_fail := goodIn_r _ [5, 6, 7, 8, 112, 113, 114, 115, 116, 117, 118] (by decide +kernel) (by decide +kernel)
set_option maxRecDepth 20000 in
theorem gX5_frostLine_X5_fail : GoodIn wsX5_frostLine (wsV RX5 86 RX5 yX5_fail wsX5_fail) := goodIn_app (goodIn_of _ (by decide +kernel)) ggX5_frostLine_X5_fail
set_option maxRecDepth 20000 in
theorem ggX5_frostLine_X5_word : GoodIn wsX5_frostLine wsX5_word := goodIn_r _ [12, 13, 14, 15, 4, 16, 17, 18, 7, 19, 20, 21, 22, 23, 24, 25, 26, 27, 28, 29, 30, 31, 32, 33, 34, 35, 36, 37, 38, 39, 40, 41, 42, 43, 44, 45, 46, 47, 48, 49, 50, 51, 52, 53, 54, 55, 56, 57, 58, 59, 60, 61, 62, 63, 64, 65, 66, 67, 68, 69, 70, 71, 72, 73, 74, 1, 2, 3, 5, 6, 8, 75, 76, 77, 78, 79, 80, 81, 82, 83, 84, 85, 86, 87, 88, 89, 112, 113, 114, 115, 116, 117, 118, 119, 120] (by decide +kernel) (by decide +kernel)
set_option maxRecDepth 20000 in
theorem gX5_frostLine_X5_word : GoodIn wsX5_frostLine (wsV RX5 95 RX5 yX5_word wsX5_word) := goodIn_app (goodIn_of _ (by decide +kernel)) ggX5_frostLine_X5_word
set_option maxRecDepth 20000 in
theorem ggX5_frostLine_X5_number : GoodIn wsX5_frostLine wsX5_number := goodIn_r _ [93, 83, 17, 6, 1, 2, 3, 4, 5, 7, 8, 75, 76, 77, 78, 18, 19, 79, 80, 81, 82, 32, 33, 34, 35, 36, 37, 84, 85, 86, 87, 88, 89, 112, 113, 114, 115, 116, 117, 118, 119, 120] (by decide +kernel) (by decide +kernel)
set_option maxRecDepth 20000 in
theorem gX5_frostLine_X5_number : GoodIn wsX5_frostLine (wsV RX5 101 RX5 yX5_number wsX5_number) := goodIn_app (goodIn_of _ (by decide +kernel)) ggX5_frostLine_X5_number
theorem dX5_frostLine_0 : decode cX5_frostLine 0 = .ok (.aload_n 1, 1) := by decide +kernel
theorem dX5_frostLine_1 : decode cX5_frostLine 1 = .ok (.getfield 155, 3) := by decide +kernel
theorem dX5_frostLine_4 : decode cX5_frostLine 4 = .ok (.iconst 4, 1) := by decide +kernel
theorem dX5_frostLine_5 : decode cX5_frostLine 5 = .ok (.if_icmp .lt 9, 3) := by decide +kernel
theorem dX5_frostLine_8 : decode cX5_frostLine 8 = .ok (.aload_n 0, 1) := by decide +kernel
theorem dX5_frostLine_9 : decode cX5_frostLine 9 = .ok (.iconst 3, 1) := by decide +kernel
theorem dX5_frostLine_10 : decode cX5_frostLine 10 = .ok (.invokevirtual 86, 3) := by decide +kernel
theorem dX5_frostLine_13 : decode cX5_frostLine 13 = .ok (.return_, 1) := by decide +kernel
theorem dX5_frostLine_14 : decode cX5_frostLine 14 = .ok (.aload_n 0, 1) := by decide +kernel
theorem dX5_frostLine_15 : decode cX5_frostLine 15 = .ok (.ldc 71, 2) := by decide +kernel
theorem dX5_frostLine_17 : decode cX5_frostLine 17 = .ok (.invokevirtual 95, 3) := by decide +kernel
theorem dX5_frostLine_20 : decode cX5_frostLine 20 = .ok (.aload_n 0, 1) := by decide +kernel
theorem dX5_frostLine_21 : decode cX5_frostLine 21 = .ok (.ldc 150, 2) := by decide +kernel
theorem dX5_frostLine_23 : decode cX5_frostLine 23 = .ok (.invokevirtual 95, 3) := by decide +kernel
theorem dX5_frostLine_26 : decode cX5_frostLine 26 = .ok (.aload_n 1, 1) := by decide +kernel
theorem dX5_frostLine_27 : decode cX5_frostLine 27 = .ok (.dup, 1) := by decide +kernel
theorem dX5_frostLine_28 : decode cX5_frostLine 28 = .ok (.getfield 158, 3) := by decide +kernel
theorem dX5_frostLine_31 : decode cX5_frostLine 31 = .ok (.iconst 1, 1) := by decide +kernel
theorem dX5_frostLine_32 : decode cX5_frostLine 32 = .ok (.aload_n 0, 1) := by decide +kernel
theorem dX5_frostLine_33 : decode cX5_frostLine 33 = .ok (.iconst 0, 1) := by decide +kernel
theorem dX5_frostLine_34 : decode cX5_frostLine 34 = .ok (.bipush 15, 2) := by decide +kernel
theorem dX5_frostLine_36 : decode cX5_frostLine 36 = .ok (.invokevirtual 101, 3) := by decide +kernel
theorem dX5_frostLine_39 : decode cX5_frostLine 39 = .ok (.ishl, 1) := by decide +kernel
theorem dX5_frostLine_40 : decode cX5_frostLine 40 = .ok (.ior, 1) := by decide +kernel
theorem dX5_frostLine_41 : decode cX5_frostLine 41 = .ok (.putfield 158, 3) := by decide +kernel
theorem dX5_frostLine_44 : decode cX5_frostLine 44 = .ok (.aload_n 1, 1) := by decide +kernel
theorem dX5_frostLine_45 : decode cX5_frostLine 45 = .ok (.dup, 1) := by decide +kernel
theorem dX5_frostLine_46 : decode cX5_frostLine 46 = .ok (.getfield 155, 3) := by decide +kernel
theorem dX5_frostLine_49 : decode cX5_frostLine 49 = .ok (.iconst 1, 1) := by decide +kernel
theorem dX5_frostLine_50 : decode cX5_frostLine 50 = .ok (.iadd, 1) := by decide +kernel
theorem dX5_frostLine_51 : decode cX5_frostLine 51 = .ok (.putfield 155, 3) := by decide +kernel
theorem dX5_frostLine_54 : decode cX5_frostLine 54 = .ok (.return_, 1) := by decide +kernel
set_option maxRecDepth 20000 in
theorem ggX5_inviteLine_X5_fail : GoodIn wsX5_inviteLine wsX5_fail := goodIn_r _ [8, 1, 9, 10, 116, 117, 118, 119, 120, 121, 122] (by decide +kernel) (by decide +kernel)
set_option maxRecDepth 20000 in
theorem gX5_inviteLine_X5_fail : GoodIn wsX5_inviteLine (wsV RX5 86 RX5 yX5_fail wsX5_fail) := goodIn_app (goodIn_of _ (by decide +kernel)) ggX5_inviteLine_X5_fail
set_option maxRecDepth 20000 in
theorem ggX5_inviteLine_X5_word : GoodIn wsX5_inviteLine wsX5_word := goodIn_r _ [14, 15, 16, 17, 7, 18, 2, 19, 9, 20, 21, 22, 23, 24, 25, 26, 27, 28, 29, 30, 31, 32, 33, 34, 35, 36, 37, 38, 39, 40, 41, 42, 43, 44, 45, 46, 47, 48, 49, 50, 51, 52, 53, 54, 55, 56, 57, 58, 59, 60, 61, 62, 63, 64, 65, 66, 67, 68, 69, 70, 71, 72, 73, 74, 75, 4, 5, 6, 8, 1, 10, 76, 77, 78, 79, 80, 81, 82, 83, 3, 84, 85, 86, 87, 88, 89, 116, 117, 118, 119, 120, 121, 122, 123, 124] (by decide +kernel) (by decide +kernel)
set_option maxRecDepth 20000 in
theorem gX5_inviteLine_X5_word : GoodIn wsX5_inviteLine (wsV RX5 95 RX5 yX5_word wsX5_word) := goodIn_app (goodIn_of _ (by decide +kernel)) ggX5_inviteLine_X5_word
set_option maxRecDepth 20000 in
theorem ggX5_inviteLine_X5_number : GoodIn wsX5_inviteLine wsX5_number := goodIn_r _ [93, 3, 2, 1, 4, 5, 6, 7, 8, 9, 10, 76, 77, 78, 79, 19, 20, 80, 81, 82, 83, 33, 34, 35, 36, 37, 38, 84, 85, 86, 87, 88, 89, 116, 117, 118, 119, 120, 121, 122, 123, 124] (by decide +kernel) (by decide +kernel)
set_option maxRecDepth 20000 in
theorem gX5_inviteLine_X5_number : GoodIn wsX5_inviteLine (wsV RX5 101 RX5 yX5_number wsX5_number) := goodIn_app (goodIn_of _ (by decide +kernel)) ggX5_inviteLine_X5_number
theorem dX5_inviteLine_0 : decode cX5_inviteLine 0 = .ok (.aload_n 2, 1) := by decide +kernel
theorem dX5_inviteLine_1 : decode cX5_inviteLine 1 = .ok (.getfield 161, 3) := by decide +kernel
theorem dX5_inviteLine_4 : decode cX5_inviteLine 4 = .ok (.bipush 8, 2) := by decide +kernel
theorem dX5_inviteLine_6 : decode cX5_inviteLine 6 = .ok (.if_icmp .lt 9, 3) := by decide +kernel
theorem dX5_inviteLine_9 : decode cX5_inviteLine 9 = .ok (.aload_n 0, 1) := by decide +kernel
theorem dX5_inviteLine_10 : decode cX5_inviteLine 10 = .ok (.iconst 3, 1) := by decide +kernel
theorem dX5_inviteLine_11 : decode cX5_inviteLine 11 = .ok (.invokevirtual 86, 3) := by decide +kernel
theorem dX5_inviteLine_14 : decode cX5_inviteLine 14 = .ok (.return_, 1) := by decide +kernel
theorem dX5_inviteLine_15 : decode cX5_inviteLine 15 = .ok (.aload_n 0, 1) := by decide +kernel
theorem dX5_inviteLine_16 : decode cX5_inviteLine 16 = .ok (.ldc 76, 2) := by decide +kernel
theorem dX5_inviteLine_18 : decode cX5_inviteLine 18 = .ok (.invokevirtual 95, 3) := by decide +kernel
theorem dX5_inviteLine_21 : decode cX5_inviteLine 21 = .ok (.aload_n 0, 1) := by decide +kernel
theorem dX5_inviteLine_22 : decode cX5_inviteLine 22 = .ok (.iconst 0, 1) := by decide +kernel
theorem dX5_inviteLine_23 : decode cX5_inviteLine 23 = .ok (.aload_n 1, 1) := by decide +kernel
theorem dX5_inviteLine_24 : decode cX5_inviteLine 24 = .ok (.getfield 115, 3) := by decide +kernel
theorem dX5_inviteLine_27 : decode cX5_inviteLine 27 = .ok (.iconst 1, 1) := by decide +kernel
theorem dX5_inviteLine_28 : decode cX5_inviteLine 28 = .ok (.isub, 1) := by decide +kernel
theorem dX5_inviteLine_29 : decode cX5_inviteLine 29 = .ok (.invokevirtual 101, 3) := by decide +kernel
theorem dX5_inviteLine_32 : decode cX5_inviteLine 32 = .ok (.istore_n 3, 1) := by decide +kernel
theorem dX5_inviteLine_33 : decode cX5_inviteLine 33 = .ok (.aload_n 0, 1) := by decide +kernel
theorem dX5_inviteLine_34 : decode cX5_inviteLine 34 = .ok (.getfield 9, 3) := by decide +kernel
theorem dX5_inviteLine_37 : decode cX5_inviteLine 37 = .ok (.ifCond .ne 24, 3) := by decide +kernel
theorem dX5_inviteLine_40 : decode cX5_inviteLine 40 = .ok (.aload_n 0, 1) := by decide +kernel
theorem dX5_inviteLine_41 : decode cX5_inviteLine 41 = .ok (.getfield 18, 3) := by decide +kernel
theorem dX5_inviteLine_44 : decode cX5_inviteLine 44 = .ok (.iconst 2, 1) := by decide +kernel
theorem dX5_inviteLine_45 : decode cX5_inviteLine 45 = .ok (.if_icmp .ne 16, 3) := by decide +kernel
theorem dX5_inviteLine_48 : decode cX5_inviteLine 48 = .ok (.aload_n 0, 1) := by decide +kernel
theorem dX5_inviteLine_49 : decode cX5_inviteLine 49 = .ok (.getfield 27, 3) := by decide +kernel
theorem dX5_inviteLine_52 : decode cX5_inviteLine 52 = .ok (.iload_n 3, 1) := by decide +kernel
theorem dX5_inviteLine_53 : decode cX5_inviteLine 53 = .ok (.if_icmp .ne 8, 3) := by decide +kernel
theorem dX5_inviteLine_56 : decode cX5_inviteLine 56 = .ok (.aload_n 0, 1) := by decide +kernel
theorem dX5_inviteLine_57 : decode cX5_inviteLine 57 = .ok (.iconst 2, 1) := by decide +kernel
theorem dX5_inviteLine_58 : decode cX5_inviteLine 58 = .ok (.invokevirtual 86, 3) := by decide +kernel
theorem dX5_inviteLine_61 : decode cX5_inviteLine 61 = .ok (.aload_n 0, 1) := by decide +kernel
theorem dX5_inviteLine_62 : decode cX5_inviteLine 62 = .ok (.iconst 0, 1) := by decide +kernel
theorem dX5_inviteLine_63 : decode cX5_inviteLine 63 = .ok (.aload_n 1, 1) := by decide +kernel
theorem dX5_inviteLine_64 : decode cX5_inviteLine 64 = .ok (.getfield 115, 3) := by decide +kernel
theorem dX5_inviteLine_67 : decode cX5_inviteLine 67 = .ok (.iconst 1, 1) := by decide +kernel
theorem dX5_inviteLine_68 : decode cX5_inviteLine 68 = .ok (.isub, 1) := by decide +kernel
theorem dX5_inviteLine_69 : decode cX5_inviteLine 69 = .ok (.invokevirtual 101, 3) := by decide +kernel
theorem dX5_inviteLine_72 : decode cX5_inviteLine 72 = .ok (.istore 4, 2) := by decide +kernel
theorem dX5_inviteLine_74 : decode cX5_inviteLine 74 = .ok (.aload_n 0, 1) := by decide +kernel
theorem dX5_inviteLine_75 : decode cX5_inviteLine 75 = .ok (.ldc 150, 2) := by decide +kernel
theorem dX5_inviteLine_77 : decode cX5_inviteLine 77 = .ok (.invokevirtual 95, 3) := by decide +kernel
theorem dX5_inviteLine_80 : decode cX5_inviteLine 80 = .ok (.aload_n 2, 1) := by decide +kernel
theorem dX5_inviteLine_81 : decode cX5_inviteLine 81 = .ok (.getfield 166, 3) := by decide +kernel
theorem dX5_inviteLine_84 : decode cX5_inviteLine 84 = .ok (.aload_n 2, 1) := by decide +kernel
theorem dX5_inviteLine_85 : decode cX5_inviteLine 85 = .ok (.getfield 161, 3) := by decide +kernel
theorem dX5_inviteLine_88 : decode cX5_inviteLine 88 = .ok (.iload_n 3, 1) := by decide +kernel
theorem dX5_inviteLine_89 : decode cX5_inviteLine 89 = .ok (.iastore, 1) := by decide +kernel
theorem dX5_inviteLine_90 : decode cX5_inviteLine 90 = .ok (.aload_n 2, 1) := by decide +kernel
theorem dX5_inviteLine_91 : decode cX5_inviteLine 91 = .ok (.getfield 169, 3) := by decide +kernel
theorem dX5_inviteLine_94 : decode cX5_inviteLine 94 = .ok (.aload_n 2, 1) := by decide +kernel
theorem dX5_inviteLine_95 : decode cX5_inviteLine 95 = .ok (.getfield 161, 3) := by decide +kernel
theorem dX5_inviteLine_98 : decode cX5_inviteLine 98 = .ok (.iload 4, 2) := by decide +kernel
theorem dX5_inviteLine_100 : decode cX5_inviteLine 100 = .ok (.iastore, 1) := by decide +kernel
theorem dX5_inviteLine_101 : decode cX5_inviteLine 101 = .ok (.aload_n 2, 1) := by decide +kernel
theorem dX5_inviteLine_102 : decode cX5_inviteLine 102 = .ok (.getfield 172, 3) := by decide +kernel
theorem dX5_inviteLine_105 : decode cX5_inviteLine 105 = .ok (.aload_n 2, 1) := by decide +kernel
theorem dX5_inviteLine_106 : decode cX5_inviteLine 106 = .ok (.getfield 161, 3) := by decide +kernel
theorem dX5_inviteLine_109 : decode cX5_inviteLine 109 = .ok (.aload_n 0, 1) := by decide +kernel
theorem dX5_inviteLine_110 : decode cX5_inviteLine 110 = .ok (.iconst 0, 1) := by decide +kernel
theorem dX5_inviteLine_111 : decode cX5_inviteLine 111 = .ok (.bipush 15, 2) := by decide +kernel
theorem dX5_inviteLine_113 : decode cX5_inviteLine 113 = .ok (.invokevirtual 101, 3) := by decide +kernel
theorem dX5_inviteLine_116 : decode cX5_inviteLine 116 = .ok (.iastore, 1) := by decide +kernel
theorem dX5_inviteLine_117 : decode cX5_inviteLine 117 = .ok (.aload_n 2, 1) := by decide +kernel
theorem dX5_inviteLine_118 : decode cX5_inviteLine 118 = .ok (.dup, 1) := by decide +kernel
theorem dX5_inviteLine_119 : decode cX5_inviteLine 119 = .ok (.getfield 161, 3) := by decide +kernel
theorem dX5_inviteLine_122 : decode cX5_inviteLine 122 = .ok (.iconst 1, 1) := by decide +kernel
theorem dX5_inviteLine_123 : decode cX5_inviteLine 123 = .ok (.iadd, 1) := by decide +kernel
theorem dX5_inviteLine_124 : decode cX5_inviteLine 124 = .ok (.putfield 161, 3) := by decide +kernel
theorem dX5_inviteLine_127 : decode cX5_inviteLine 127 = .ok (.return_, 1) := by decide +kernel
theorem dX5_fail_0 : decode cX5_fail 0 = .ok (.aload_n 0, 1) := by decide +kernel
theorem dX5_fail_1 : decode cX5_fail 1 = .ok (.getfield 9, 3) := by decide +kernel
theorem dX5_fail_4 : decode cX5_fail 4 = .ok (.ifCond .ne 16, 3) := by decide +kernel
theorem dX5_fail_7 : decode cX5_fail 7 = .ok (.aload_n 0, 1) := by decide +kernel
theorem dX5_fail_8 : decode cX5_fail 8 = .ok (.iload_n 1, 1) := by decide +kernel
theorem dX5_fail_9 : decode cX5_fail 9 = .ok (.putfield 9, 3) := by decide +kernel
theorem dX5_fail_12 : decode cX5_fail 12 = .ok (.aload_n 0, 1) := by decide +kernel
theorem dX5_fail_13 : decode cX5_fail 13 = .ok (.aload_n 0, 1) := by decide +kernel
theorem dX5_fail_14 : decode cX5_fail 14 = .ok (.getfield 21, 3) := by decide +kernel
theorem dX5_fail_17 : decode cX5_fail 17 = .ok (.putfield 15, 3) := by decide +kernel
theorem dX5_fail_20 : decode cX5_fail 20 = .ok (.return_, 1) := by decide +kernel
set_option maxRecDepth 20000 in
theorem ggX5_word_X5_isWord : GoodIn wsX5_word wsX5_isWord := goodIn_r _ [5, 6, 7, 8, 9, 10, 11, 12, 13, 14, 15, 16, 17, 18, 19, 20, 21, 22, 23, 24, 25, 26, 27, 28, 29, 30, 31, 32, 33, 34, 35, 36, 37, 38, 39, 40, 41, 42, 43, 44, 45, 46, 47, 48, 49, 50, 51, 52, 53, 54, 55, 56, 57, 58, 59, 60, 61, 62, 63, 64, 86, 87, 88, 89, 90, 91, 92, 93, 94] (by decide +kernel) (by decide +kernel)
set_option maxRecDepth 20000 in
theorem gX5_word_X5_isWord : GoodIn wsX5_word (wsV RX5 54 RX5 yX5_isWord wsX5_isWord) := goodIn_app (goodIn_of _ (by decide +kernel)) ggX5_word_X5_isWord
set_option maxRecDepth 20000 in
theorem ggX5_word_X5_fail : GoodIn wsX5_word wsX5_fail := goodIn_r _ [68, 69, 8, 70, 86, 87, 88, 89, 90, 91, 92] (by decide +kernel) (by decide +kernel)
set_option maxRecDepth 20000 in
theorem gX5_word_X5_fail : GoodIn wsX5_word (wsV RX5 86 RX5 yX5_fail wsX5_fail) := goodIn_app (goodIn_of _ (by decide +kernel)) ggX5_word_X5_fail
set_option maxRecDepth 20000 in
theorem ggX5_word_X5_step : GoodIn wsX5_word wsX5_step := goodIn_r _ [74, 69, 7, 8, 9, 6, 75, 76, 77, 78, 79, 22, 23, 24, 25, 26, 27, 80, 81, 4, 82, 83, 84, 85, 86, 87, 88, 89, 90, 91, 92, 93, 94] (by decide +kernel) (by decide +kernel)
set_option maxRecDepth 20000 in
theorem gX5_word_X5_step : GoodIn wsX5_word (wsV RX5 39 RX5 yX5_step wsX5_step) := goodIn_app (goodIn_of _ (by decide +kernel)) ggX5_word_X5_step
theorem dX5_word_0 : decode cX5_word 0 = .ok (.aload_n 0, 1) := by decide +kernel
theorem dX5_word_1 : decode cX5_word 1 = .ok (.aload_n 1, 1) := by decide +kernel
theorem dX5_word_2 : decode cX5_word 2 = .ok (.invokevirtual 54, 3) := by decide +kernel
theorem dX5_word_5 : decode cX5_word 5 = .ok (.ifCond .ne 8, 3) := by decide +kernel
theorem dX5_word_8 : decode cX5_word 8 = .ok (.aload_n 0, 1) := by decide +kernel
theorem dX5_word_9 : decode cX5_word 9 = .ok (.iconst 1, 1) := by decide +kernel
theorem dX5_word_10 : decode cX5_word 10 = .ok (.invokevirtual 86, 3) := by decide +kernel
theorem dX5_word_13 : decode cX5_word 13 = .ok (.aload_n 0, 1) := by decide +kernel
theorem dX5_word_14 : decode cX5_word 14 = .ok (.invokevirtual 39, 3) := by decide +kernel
theorem dX5_word_17 : decode cX5_word 17 = .ok (.return_, 1) := by decide +kernel
set_option maxRecDepth 20000 in
theorem ggX5_sign_X5_fail : GoodIn wsX5_sign wsX5_fail := goodIn_r _ [6, 7, 8, 9, 33, 34, 35, 36, 37, 38, 39] (by decide +kernel) (by decide +kernel)
set_option maxRecDepth 20000 in
theorem gX5_sign_X5_fail : GoodIn wsX5_sign (wsV RX5 86 RX5 yX5_fail wsX5_fail) := goodIn_app (goodIn_of _ (by decide +kernel)) ggX5_sign_X5_fail
set_option maxRecDepth 20000 in
theorem ggX5_sign_X5_step : GoodIn wsX5_sign wsX5_step := goodIn_r _ [13, 7, 14, 8, 15, 1, 16, 17, 18, 19, 20, 21, 22, 23, 24, 25, 26, 27, 28, 5, 29, 30, 31, 32, 33, 34, 35, 36, 37, 38, 39, 40, 41] (by decide +kernel) (by decide +kernel)
set_option maxRecDepth 20000 in
theorem gX5_sign_X5_step : GoodIn wsX5_sign (wsV RX5 39 RX5 yX5_step wsX5_step) := goodIn_app (goodIn_of _ (by decide +kernel)) ggX5_sign_X5_step
theorem dX5_sign_0 : decode cX5_sign 0 = .ok (.aload_n 0, 1) := by decide +kernel
theorem dX5_sign_1 : decode cX5_sign 1 = .ok (.getfield 18, 3) := by decide +kernel
theorem dX5_sign_4 : decode cX5_sign 4 = .ok (.iconst 3, 1) := by decide +kernel
theorem dX5_sign_5 : decode cX5_sign 5 = .ok (.if_icmp .eq 8, 3) := by decide +kernel
theorem dX5_sign_8 : decode cX5_sign 8 = .ok (.aload_n 0, 1) := by decide +kernel
theorem dX5_sign_9 : decode cX5_sign 9 = .ok (.iconst 1, 1) := by decide +kernel
theorem dX5_sign_10 : decode cX5_sign 10 = .ok (.invokevirtual 86, 3) := by decide +kernel
theorem dX5_sign_13 : decode cX5_sign 13 = .ok (.aload_n 0, 1) := by decide +kernel
theorem dX5_sign_14 : decode cX5_sign 14 = .ok (.invokevirtual 39, 3) := by decide +kernel
theorem dX5_sign_17 : decode cX5_sign 17 = .ok (.return_, 1) := by decide +kernel
set_option maxRecDepth 20000 in
theorem ggX5_number_X5_fail : GoodIn wsX5_number wsX5_fail := goodIn_r _ [8, 3, 9, 10, 33, 34, 35, 36, 37, 38, 39] (by decide +kernel) (by decide +kernel)
set_option maxRecDepth 20000 in
theorem gX5_number_X5_fail : GoodIn wsX5_number (wsV RX5 86 RX5 yX5_fail wsX5_fail) := goodIn_app (goodIn_of _ (by decide +kernel)) ggX5_number_X5_fail
set_option maxRecDepth 20000 in
theorem ggX5_number_X5_step : GoodIn wsX5_number wsX5_step := goodIn_r _ [14, 3, 15, 9, 16, 2, 17, 18, 19, 20, 1, 21, 22, 23, 24, 25, 26, 27, 28, 7, 29, 30, 31, 32, 33, 34, 35, 36, 37, 38, 39, 40, 41] (by decide +kernel) (by decide +kernel)
set_option maxRecDepth 20000 in
theorem gX5_number_X5_step : GoodIn wsX5_number (wsV RX5 39 RX5 yX5_step wsX5_step) := goodIn_app (goodIn_of _ (by decide +kernel)) ggX5_number_X5_step
theorem dX5_number_0 : decode cX5_number 0 = .ok (.aload_n 0, 1) := by decide +kernel
theorem dX5_number_1 : decode cX5_number 1 = .ok (.getfield 27, 3) := by decide +kernel
theorem dX5_number_4 : decode cX5_number 4 = .ok (.istore_n 3, 1) := by decide +kernel
theorem dX5_number_5 : decode cX5_number 5 = .ok (.aload_n 0, 1) := by decide +kernel
theorem dX5_number_6 : decode cX5_number 6 = .ok (.getfield 18, 3) := by decide +kernel
theorem dX5_number_9 : decode cX5_number 9 = .ok (.iconst 2, 1) := by decide +kernel
theorem dX5_number_10 : decode cX5_number 10 = .ok (.if_icmp .eq 11, 3) := by decide +kernel
theorem dX5_number_13 : decode cX5_number 13 = .ok (.aload_n 0, 1) := by decide +kernel
theorem dX5_number_14 : decode cX5_number 14 = .ok (.iconst 1, 1) := by decide +kernel
theorem dX5_number_15 : decode cX5_number 15 = .ok (.invokevirtual 86, 3) := by decide +kernel
theorem dX5_number_18 : decode cX5_number 18 = .ok (.goto 18, 3) := by decide +kernel
theorem dX5_number_21 : decode cX5_number 21 = .ok (.iload_n 3, 1) := by decide +kernel
theorem dX5_number_22 : decode cX5_number 22 = .ok (.iload_n 1, 1) := by decide +kernel
theorem dX5_number_23 : decode cX5_number 23 = .ok (.if_icmp .lt 8, 3) := by decide +kernel
theorem dX5_number_26 : decode cX5_number 26 = .ok (.iload_n 3, 1) := by decide +kernel
theorem dX5_number_27 : decode cX5_number 27 = .ok (.iload_n 2, 1) := by decide +kernel
theorem dX5_number_28 : decode cX5_number 28 = .ok (.if_icmp .le 8, 3) := by decide +kernel
theorem dX5_number_31 : decode cX5_number 31 = .ok (.aload_n 0, 1) := by decide +kernel
theorem dX5_number_32 : decode cX5_number 32 = .ok (.iconst 2, 1) := by decide +kernel
theorem dX5_number_33 : decode cX5_number 33 = .ok (.invokevirtual 86, 3) := by decide +kernel
theorem dX5_number_36 : decode cX5_number 36 = .ok (.aload_n 0, 1) := by decide +kernel
theorem dX5_number_37 : decode cX5_number 37 = .ok (.invokevirtual 39, 3) := by decide +kernel
theorem dX5_number_40 : decode cX5_number 40 = .ok (.aload_n 0, 1) := by decide +kernel
theorem dX5_number_41 : decode cX5_number 41 = .ok (.getfield 9, 3) := by decide +kernel
theorem dX5_number_44 : decode cX5_number 44 = .ok (.ifCond .ne 7, 3) := by decide +kernel
theorem dX5_number_47 : decode cX5_number 47 = .ok (.iload_n 3, 1) := by decide +kernel
theorem dX5_number_48 : decode cX5_number 48 = .ok (.goto 4, 3) := by decide +kernel
theorem dX5_number_51 : decode cX5_number 51 = .ok (.iload_n 1, 1) := by decide +kernel
theorem dX5_number_52 : decode cX5_number 52 = .ok (.ireturn, 1) := by decide +kernel
set_option maxRecDepth 20000 in
theorem ggX5_isWord_J0_length_8abf5 : GoodIn wsX5_isWord wsJ0_length_8abf5 := goodIn_r _ [9, 10, 11, 12, 13, 8, 14, 15, 16] (by decide +kernel) (by decide +kernel)
set_option maxRecDepth 20000 in
theorem gX5_isWord_J0_length_8abf5 : GoodIn wsX5_isWord (wsV RX5 175 RJ0 yJ0_length_8abf5 wsJ0_length_8abf5) := goodIn_app (goodIn_of _ (by decide +kernel)) ggX5_isWord_J0_length_8abf5
set_option maxRecDepth 20000 in
theorem ggX5_isWord_X8_at : GoodIn wsX5_isWord wsX8_at := goodIn_r _ [20, 21, 22, 67, 68] (by decide +kernel) (by decide +kernel)
set_option maxRecDepth 20000 in
theorem gX5_isWord_X8_at_n181 : GoodIn wsX5_isWord (wsX8_at) := ggX5_isWord_X8_at
set_option maxRecDepth 20000 in
theorem ggX5_isWord_J0_charAt_5068e : GoodIn wsX5_isWord wsJ0_charAt_5068e := goodIn_r _ [26, 10, 27, 28, 29, 8, 30, 15, 16, 31, 32, 33, 34, 35, 36, 37, 38, 39, 40, 41, 42, 43, 44, 45, 46, 47, 48, 49, 50, 51, 52, 53, 54, 55, 56, 57, 58, 59] (by decide +kernel) (by decide +kernel)
set_option maxRecDepth 20000 in
theorem gX5_isWord_J0_charAt_5068e : GoodIn wsX5_isWord (wsV RX5 186 RJ0 yJ0_charAt_5068e wsJ0_charAt_5068e) := goodIn_app (goodIn_of _ (by decide +kernel)) ggX5_isWord_J0_charAt_5068e
theorem dX5_isWord_0 : decode cX5_isWord 0 = .ok (.aload_n 0, 1) := by decide +kernel
theorem dX5_isWord_1 : decode cX5_isWord 1 = .ok (.getfield 18, 3) := by decide +kernel
theorem dX5_isWord_4 : decode cX5_isWord 4 = .ok (.iconst 1, 1) := by decide +kernel
theorem dX5_isWord_5 : decode cX5_isWord 5 = .ok (.if_icmp .ne 19, 3) := by decide +kernel
theorem dX5_isWord_8 : decode cX5_isWord 8 = .ok (.aload_n 0, 1) := by decide +kernel
theorem dX5_isWord_9 : decode cX5_isWord 9 = .ok (.getfield 24, 3) := by decide +kernel
theorem dX5_isWord_12 : decode cX5_isWord 12 = .ok (.aload_n 0, 1) := by decide +kernel
theorem dX5_isWord_13 : decode cX5_isWord 13 = .ok (.getfield 21, 3) := by decide +kernel
theorem dX5_isWord_16 : decode cX5_isWord 16 = .ok (.isub, 1) := by decide +kernel
theorem dX5_isWord_17 : decode cX5_isWord 17 = .ok (.aload_n 1, 1) := by decide +kernel
theorem dX5_isWord_18 : decode cX5_isWord 18 = .ok (.invokevirtual 175, 3) := by decide +kernel
theorem dX5_isWord_21 : decode cX5_isWord 21 = .ok (.if_icmp .eq 5, 3) := by decide +kernel
theorem dX5_isWord_24 : decode cX5_isWord 24 = .ok (.iconst 0, 1) := by decide +kernel
theorem dX5_isWord_25 : decode cX5_isWord 25 = .ok (.ireturn, 1) := by decide +kernel
theorem dX5_isWord_26 : decode cX5_isWord 26 = .ok (.iconst 0, 1) := by decide +kernel
theorem dX5_isWord_27 : decode cX5_isWord 27 = .ok (.istore_n 2, 1) := by decide +kernel
theorem dX5_isWord_28 : decode cX5_isWord 28 = .ok (.iload_n 2, 1) := by decide +kernel
theorem dX5_isWord_29 : decode cX5_isWord 29 = .ok (.aload_n 1, 1) := by decide +kernel
theorem dX5_isWord_30 : decode cX5_isWord 30 = .ok (.invokevirtual 175, 3) := by decide +kernel
theorem dX5_isWord_33 : decode cX5_isWord 33 = .ok (.if_icmp .ge 32, 3) := by decide +kernel
theorem dX5_isWord_36 : decode cX5_isWord 36 = .ok (.aload_n 0, 1) := by decide +kernel
theorem dX5_isWord_37 : decode cX5_isWord 37 = .ok (.getfield 30, 3) := by decide +kernel
theorem dX5_isWord_40 : decode cX5_isWord 40 = .ok (.aload_n 0, 1) := by decide +kernel
theorem dX5_isWord_41 : decode cX5_isWord 41 = .ok (.getfield 21, 3) := by decide +kernel
theorem dX5_isWord_44 : decode cX5_isWord 44 = .ok (.iload_n 2, 1) := by decide +kernel
theorem dX5_isWord_45 : decode cX5_isWord 45 = .ok (.iadd, 1) := by decide +kernel
theorem dX5_isWord_46 : decode cX5_isWord 46 = .ok (.invokevirtual 181, 3) := by decide +kernel
theorem dX5_isWord_49 : decode cX5_isWord 49 = .ok (.aload_n 1, 1) := by decide +kernel
theorem dX5_isWord_50 : decode cX5_isWord 50 = .ok (.iload_n 2, 1) := by decide +kernel
theorem dX5_isWord_51 : decode cX5_isWord 51 = .ok (.invokevirtual 186, 3) := by decide +kernel
theorem dX5_isWord_54 : decode cX5_isWord 54 = .ok (.if_icmp .eq 5, 3) := by decide +kernel
theorem dX5_isWord_57 : decode cX5_isWord 57 = .ok (.iconst 0, 1) := by decide +kernel
theorem dX5_isWord_58 : decode cX5_isWord 58 = .ok (.ireturn, 1) := by decide +kernel
theorem dX5_isWord_59 : decode cX5_isWord 59 = .ok (.iinc 2 1, 3) := by decide +kernel
theorem dX5_isWord_62 : decode cX5_isWord 62 = .ok (.goto (-34), 3) := by decide +kernel
theorem dX5_isWord_65 : decode cX5_isWord 65 = .ok (.iconst 1, 1) := by decide +kernel
theorem dX5_isWord_66 : decode cX5_isWord 66 = .ok (.ireturn, 1) := by decide +kernel
set_option maxRecDepth 20000 in
theorem ggX5_step_X8_at : GoodIn wsX5_step wsX8_at := goodIn_r _ [14, 15, 16, 31, 32] (by decide +kernel) (by decide +kernel)
set_option maxRecDepth 20000 in
theorem gX5_step_X8_at_n181 : GoodIn wsX5_step (wsX8_at) := ggX5_step_X8_at
set_option maxRecDepth 20000 in
theorem ggX5_step_X5_kindOf : GoodIn wsX5_step wsX5_kindOf := goodIn_r _ [20] (by decide +kernel) (by decide +kernel)
set_option maxRecDepth 20000 in
theorem gX5_step_X5_kindOf : GoodIn wsX5_step (va_wsS RX5 191 yX5_kindOf wsX5_kindOf) := goodIn_app (goodIn_of _ (by decide +kernel)) ggX5_step_X5_kindOf
set_option maxRecDepth 20000 in
theorem ggX5_step_X5_isLong : GoodIn wsX5_step wsX5_isLong := goodIn_r _ [23] (by decide +kernel) (by decide +kernel)
set_option maxRecDepth 20000 in
theorem gX5_step_X5_isLong : GoodIn wsX5_step (va_wsS RX5 199 yX5_isLong wsX5_isLong) := goodIn_app (goodIn_of _ (by decide +kernel)) ggX5_step_X5_isLong
theorem dX5_step_0 : decode cX5_step 0 = .ok (.aload_n 0, 1) := by decide +kernel
theorem dX5_step_1 : decode cX5_step 1 = .ok (.getfield 9, 3) := by decide +kernel
theorem dX5_step_4 : decode cX5_step 4 = .ok (.ifCond .eq 4, 3) := by decide +kernel
theorem dX5_step_7 : decode cX5_step 7 = .ok (.return_, 1) := by decide +kernel
theorem dX5_step_8 : decode cX5_step 8 = .ok (.aload_n 0, 1) := by decide +kernel
theorem dX5_step_9 : decode cX5_step 9 = .ok (.aload_n 0, 1) := by decide +kernel
theorem dX5_step_10 : decode cX5_step 10 = .ok (.getfield 24, 3) := by decide +kernel
theorem dX5_step_13 : decode cX5_step 13 = .ok (.putfield 21, 3) := by decide +kernel
theorem dX5_step_16 : decode cX5_step 16 = .ok (.aload_n 0, 1) := by decide +kernel
theorem dX5_step_17 : decode cX5_step 17 = .ok (.getfield 21, 3) := by decide +kernel
theorem dX5_step_20 : decode cX5_step 20 = .ok (.aload_n 0, 1) := by decide +kernel
theorem dX5_step_21 : decode cX5_step 21 = .ok (.getfield 30, 3) := by decide +kernel
theorem dX5_step_24 : decode cX5_step 24 = .ok (.getfield 190, 3) := by decide +kernel
theorem dX5_step_27 : decode cX5_step 27 = .ok (.if_icmp .ge 48, 3) := by decide +kernel
theorem dX5_step_30 : decode cX5_step 30 = .ok (.aload_n 0, 1) := by decide +kernel
theorem dX5_step_31 : decode cX5_step 31 = .ok (.getfield 30, 3) := by decide +kernel
theorem dX5_step_34 : decode cX5_step 34 = .ok (.aload_n 0, 1) := by decide +kernel
theorem dX5_step_35 : decode cX5_step 35 = .ok (.getfield 21, 3) := by decide +kernel
theorem dX5_step_38 : decode cX5_step 38 = .ok (.invokevirtual 181, 3) := by decide +kernel
theorem dX5_step_41 : decode cX5_step 41 = .ok (.bipush 32, 2) := by decide +kernel
theorem dX5_step_43 : decode cX5_step 43 = .ok (.if_icmp .eq 19, 3) := by decide +kernel
theorem dX5_step_46 : decode cX5_step 46 = .ok (.aload_n 0, 1) := by decide +kernel
theorem dX5_step_47 : decode cX5_step 47 = .ok (.getfield 30, 3) := by decide +kernel
theorem dX5_step_50 : decode cX5_step 50 = .ok (.aload_n 0, 1) := by decide +kernel
theorem dX5_step_51 : decode cX5_step 51 = .ok (.getfield 21, 3) := by decide +kernel
theorem dX5_step_54 : decode cX5_step 54 = .ok (.invokevirtual 181, 3) := by decide +kernel
theorem dX5_step_57 : decode cX5_step 57 = .ok (.bipush 10, 2) := by decide +kernel
theorem dX5_step_59 : decode cX5_step 59 = .ok (.if_icmp .ne 16, 3) := by decide +kernel
theorem dX5_step_62 : decode cX5_step 62 = .ok (.aload_n 0, 1) := by decide +kernel
theorem dX5_step_63 : decode cX5_step 63 = .ok (.dup, 1) := by decide +kernel
theorem dX5_step_64 : decode cX5_step 64 = .ok (.getfield 21, 3) := by decide +kernel
theorem dX5_step_67 : decode cX5_step 67 = .ok (.iconst 1, 1) := by decide +kernel
theorem dX5_step_68 : decode cX5_step 68 = .ok (.iadd, 1) := by decide +kernel
theorem dX5_step_69 : decode cX5_step 69 = .ok (.putfield 21, 3) := by decide +kernel
theorem dX5_step_72 : decode cX5_step 72 = .ok (.goto (-56), 3) := by decide +kernel
theorem dX5_step_75 : decode cX5_step 75 = .ok (.aload_n 0, 1) := by decide +kernel
theorem dX5_step_76 : decode cX5_step 76 = .ok (.aload_n 0, 1) := by decide +kernel
theorem dX5_step_77 : decode cX5_step 77 = .ok (.getfield 30, 3) := by decide +kernel
theorem dX5_step_80 : decode cX5_step 80 = .ok (.aload_n 0, 1) := by decide +kernel
theorem dX5_step_81 : decode cX5_step 81 = .ok (.getfield 21, 3) := by decide +kernel
theorem dX5_step_84 : decode cX5_step 84 = .ok (.invokevirtual 181, 3) := by decide +kernel
theorem dX5_step_87 : decode cX5_step 87 = .ok (.invokestatic 191, 3) := by decide +kernel
theorem dX5_step_90 : decode cX5_step 90 = .ok (.putfield 18, 3) := by decide +kernel
theorem dX5_step_93 : decode cX5_step 93 = .ok (.aload_n 0, 1) := by decide +kernel
theorem dX5_step_94 : decode cX5_step 94 = .ok (.aload_n 0, 1) := by decide +kernel
theorem dX5_step_95 : decode cX5_step 95 = .ok (.getfield 21, 3) := by decide +kernel
theorem dX5_step_98 : decode cX5_step 98 = .ok (.iconst 1, 1) := by decide +kernel
theorem dX5_step_99 : decode cX5_step 99 = .ok (.iadd, 1) := by decide +kernel
theorem dX5_step_100 : decode cX5_step 100 = .ok (.aload_n 0, 1) := by decide +kernel
theorem dX5_step_101 : decode cX5_step 101 = .ok (.getfield 30, 3) := by decide +kernel
theorem dX5_step_104 : decode cX5_step 104 = .ok (.getfield 190, 3) := by decide +kernel
theorem dX5_step_107 : decode cX5_step 107 = .ok (.invokestatic 194, 3) := by decide +kernel
theorem dX5_step_110 : decode cX5_step 110 = .ok (.putfield 24, 3) := by decide +kernel
theorem dX5_step_113 : decode cX5_step 113 = .ok (.aload_n 0, 1) := by decide +kernel
theorem dX5_step_114 : decode cX5_step 114 = .ok (.getfield 24, 3) := by decide +kernel
theorem dX5_step_117 : decode cX5_step 117 = .ok (.aload_n 0, 1) := by decide +kernel
theorem dX5_step_118 : decode cX5_step 118 = .ok (.getfield 30, 3) := by decide +kernel
theorem dX5_step_121 : decode cX5_step 121 = .ok (.getfield 190, 3) := by decide +kernel
theorem dX5_step_124 : decode cX5_step 124 = .ok (.if_icmp .ge 47, 3) := by decide +kernel
theorem dX5_step_127 : decode cX5_step 127 = .ok (.aload_n 0, 1) := by decide +kernel
theorem dX5_step_128 : decode cX5_step 128 = .ok (.getfield 18, 3) := by decide +kernel
theorem dX5_step_131 : decode cX5_step 131 = .ok (.invokestatic 199, 3) := by decide +kernel
theorem dX5_step_134 : decode cX5_step 134 = .ok (.ifCond .eq 37, 3) := by decide +kernel
theorem dX5_step_137 : decode cX5_step 137 = .ok (.aload_n 0, 1) := by decide +kernel
theorem dX5_step_138 : decode cX5_step 138 = .ok (.getfield 30, 3) := by decide +kernel
theorem dX5_step_141 : decode cX5_step 141 = .ok (.aload_n 0, 1) := by decide +kernel
theorem dX5_step_142 : decode cX5_step 142 = .ok (.getfield 24, 3) := by decide +kernel
theorem dX5_step_145 : decode cX5_step 145 = .ok (.invokevirtual 181, 3) := by decide +kernel
theorem dX5_step_148 : decode cX5_step 148 = .ok (.invokestatic 191, 3) := by decide +kernel
theorem dX5_step_151 : decode cX5_step 151 = .ok (.aload_n 0, 1) := by decide +kernel
theorem dX5_step_152 : decode cX5_step 152 = .ok (.getfield 18, 3) := by decide +kernel
theorem dX5_step_155 : decode cX5_step 155 = .ok (.if_icmp .ne 16, 3) := by decide +kernel
theorem dX5_step_158 : decode cX5_step 158 = .ok (.aload_n 0, 1) := by decide +kernel
theorem dX5_step_159 : decode cX5_step 159 = .ok (.dup, 1) := by decide +kernel
theorem dX5_step_160 : decode cX5_step 160 = .ok (.getfield 24, 3) := by decide +kernel
theorem dX5_step_163 : decode cX5_step 163 = .ok (.iconst 1, 1) := by decide +kernel
theorem dX5_step_164 : decode cX5_step 164 = .ok (.iadd, 1) := by decide +kernel
theorem dX5_step_165 : decode cX5_step 165 = .ok (.putfield 24, 3) := by decide +kernel
theorem dX5_step_168 : decode cX5_step 168 = .ok (.goto (-55), 3) := by decide +kernel
theorem dX5_step_171 : decode cX5_step 171 = .ok (.aload_n 0, 1) := by decide +kernel
theorem dX5_step_172 : decode cX5_step 172 = .ok (.iconst 0, 1) := by decide +kernel
theorem dX5_step_173 : decode cX5_step 173 = .ok (.putfield 27, 3) := by decide +kernel
theorem dX5_step_176 : decode cX5_step 176 = .ok (.aload_n 0, 1) := by decide +kernel
theorem dX5_step_177 : decode cX5_step 177 = .ok (.getfield 21, 3) := by decide +kernel
theorem dX5_step_180 : decode cX5_step 180 = .ok (.istore_n 1, 1) := by decide +kernel
theorem dX5_step_181 : decode cX5_step 181 = .ok (.aload_n 0, 1) := by decide +kernel
theorem dX5_step_182 : decode cX5_step 182 = .ok (.getfield 18, 3) := by decide +kernel
theorem dX5_step_185 : decode cX5_step 185 = .ok (.iconst 2, 1) := by decide +kernel
theorem dX5_step_186 : decode cX5_step 186 = .ok (.if_icmp .ne 46, 3) := by decide +kernel
theorem dX5_step_189 : decode cX5_step 189 = .ok (.iload_n 1, 1) := by decide +kernel
theorem dX5_step_190 : decode cX5_step 190 = .ok (.aload_n 0, 1) := by decide +kernel
theorem dX5_step_191 : decode cX5_step 191 = .ok (.getfield 24, 3) := by decide +kernel
theorem dX5_step_194 : decode cX5_step 194 = .ok (.if_icmp .ge 38, 3) := by decide +kernel
theorem dX5_step_197 : decode cX5_step 197 = .ok (.aload_n 0, 1) := by decide +kernel
theorem dX5_step_198 : decode cX5_step 198 = .ok (.aload_n 0, 1) := by decide +kernel
theorem dX5_step_199 : decode cX5_step 199 = .ok (.getfield 27, 3) := by decide +kernel
theorem dX5_step_202 : decode cX5_step 202 = .ok (.bipush 10, 2) := by decide +kernel
theorem dX5_step_204 : decode cX5_step 204 = .ok (.imul, 1) := by decide +kernel
theorem dX5_step_205 : decode cX5_step 205 = .ok (.aload_n 0, 1) := by decide +kernel
theorem dX5_step_206 : decode cX5_step 206 = .ok (.getfield 30, 3) := by decide +kernel
theorem dX5_step_209 : decode cX5_step 209 = .ok (.iload_n 1, 1) := by decide +kernel
theorem dX5_step_210 : decode cX5_step 210 = .ok (.invokevirtual 181, 3) := by decide +kernel
theorem dX5_step_213 : decode cX5_step 213 = .ok (.iadd, 1) := by decide +kernel
theorem dX5_step_214 : decode cX5_step 214 = .ok (.bipush 48, 2) := by decide +kernel
theorem dX5_step_216 : decode cX5_step 216 = .ok (.isub, 1) := by decide +kernel
theorem dX5_step_217 : decode cX5_step 217 = .ok (.sipush 1000, 3) := by decide +kernel
theorem dX5_step_220 : decode cX5_step 220 = .ok (.invokestatic 194, 3) := by decide +kernel
theorem dX5_step_223 : decode cX5_step 223 = .ok (.putfield 27, 3) := by decide +kernel
theorem dX5_step_226 : decode cX5_step 226 = .ok (.iinc 1 1, 3) := by decide +kernel
theorem dX5_step_229 : decode cX5_step 229 = .ok (.goto (-48), 3) := by decide +kernel
theorem dX5_step_232 : decode cX5_step 232 = .ok (.return_, 1) := by decide +kernel
theorem dX5_isLong_0 : decode cX5_isLong 0 = .ok (.iload_n 0, 1) := by decide +kernel
theorem dX5_isLong_1 : decode cX5_isLong 1 = .ok (.iconst 1, 1) := by decide +kernel
theorem dX5_isLong_2 : decode cX5_isLong 2 = .ok (.if_icmp .eq 8, 3) := by decide +kernel
theorem dX5_isLong_5 : decode cX5_isLong 5 = .ok (.iload_n 0, 1) := by decide +kernel
theorem dX5_isLong_6 : decode cX5_isLong 6 = .ok (.iconst 2, 1) := by decide +kernel
theorem dX5_isLong_7 : decode cX5_isLong 7 = .ok (.if_icmp .ne 7, 3) := by decide +kernel
theorem dX5_isLong_10 : decode cX5_isLong 10 = .ok (.iconst 1, 1) := by decide +kernel
theorem dX5_isLong_11 : decode cX5_isLong 11 = .ok (.goto 4, 3) := by decide +kernel
theorem dX5_isLong_14 : decode cX5_isLong 14 = .ok (.iconst 0, 1) := by decide +kernel
theorem dX5_isLong_15 : decode cX5_isLong 15 = .ok (.ireturn, 1) := by decide +kernel
theorem dX5_kindOf_0 : decode cX5_kindOf 0 = .ok (.iload_n 0, 1) := by decide +kernel
theorem dX5_kindOf_1 : decode cX5_kindOf 1 = .ok (.iconst (-1), 1) := by decide +kernel
theorem dX5_kindOf_2 : decode cX5_kindOf 2 = .ok (.if_icmp .ne 5, 3) := by decide +kernel
theorem dX5_kindOf_5 : decode cX5_kindOf 5 = .ok (.iconst 0, 1) := by decide +kernel
theorem dX5_kindOf_6 : decode cX5_kindOf 6 = .ok (.ireturn, 1) := by decide +kernel
theorem dX5_kindOf_7 : decode cX5_kindOf 7 = .ok (.iload_n 0, 1) := by decide +kernel
theorem dX5_kindOf_8 : decode cX5_kindOf 8 = .ok (.bipush 97, 2) := by decide +kernel
theorem dX5_kindOf_10 : decode cX5_kindOf 10 = .ok (.if_icmp .lt 11, 3) := by decide +kernel
theorem dX5_kindOf_13 : decode cX5_kindOf 13 = .ok (.iload_n 0, 1) := by decide +kernel
theorem dX5_kindOf_14 : decode cX5_kindOf 14 = .ok (.bipush 122, 2) := by decide +kernel
theorem dX5_kindOf_16 : decode cX5_kindOf 16 = .ok (.if_icmp .gt 5, 3) := by decide +kernel
theorem dX5_kindOf_19 : decode cX5_kindOf 19 = .ok (.iconst 1, 1) := by decide +kernel
theorem dX5_kindOf_20 : decode cX5_kindOf 20 = .ok (.ireturn, 1) := by decide +kernel
theorem dX5_kindOf_21 : decode cX5_kindOf 21 = .ok (.iload_n 0, 1) := by decide +kernel
theorem dX5_kindOf_22 : decode cX5_kindOf 22 = .ok (.bipush 48, 2) := by decide +kernel
theorem dX5_kindOf_24 : decode cX5_kindOf 24 = .ok (.if_icmp .lt 11, 3) := by decide +kernel
theorem dX5_kindOf_27 : decode cX5_kindOf 27 = .ok (.iload_n 0, 1) := by decide +kernel
theorem dX5_kindOf_28 : decode cX5_kindOf 28 = .ok (.bipush 57, 2) := by decide +kernel
theorem dX5_kindOf_30 : decode cX5_kindOf 30 = .ok (.if_icmp .gt 5, 3) := by decide +kernel
theorem dX5_kindOf_33 : decode cX5_kindOf 33 = .ok (.iconst 2, 1) := by decide +kernel
theorem dX5_kindOf_34 : decode cX5_kindOf 34 = .ok (.ireturn, 1) := by decide +kernel
theorem dX5_kindOf_35 : decode cX5_kindOf 35 = .ok (.iload_n 0, 1) := by decide +kernel
theorem dX5_kindOf_36 : decode cX5_kindOf 36 = .ok (.bipush 59, 2) := by decide +kernel
theorem dX5_kindOf_38 : decode cX5_kindOf 38 = .ok (.if_icmp .ne 7, 3) := by decide +kernel
theorem dX5_kindOf_41 : decode cX5_kindOf 41 = .ok (.iconst 3, 1) := by decide +kernel
theorem dX5_kindOf_42 : decode cX5_kindOf 42 = .ok (.goto 4, 3) := by decide +kernel
theorem dX5_kindOf_45 : decode cX5_kindOf 45 = .ok (.iconst 4, 1) := by decide +kernel
theorem dX5_kindOf_46 : decode cX5_kindOf 46 = .ok (.ireturn, 1) := by decide +kernel
set_option maxRecDepth 20000 in
theorem ggX6_init_X3_init : GoodIn wsX6_init wsX3_init := goodIn_r _ [30, 31, 2, 3, 32, 9, 33, 34, 35, 61, 62, 63, 64] (by decide +kernel) (by decide +kernel)
set_option maxRecDepth 20000 in
theorem gX6_init_X3_init_n63 : GoodIn wsX6_init (wsX3_init) := ggX6_init_X3_init
set_option maxRecDepth 20000 in
theorem ggX6_init_X0_init : GoodIn wsX6_init wsX0_init := goodIn_r _ [37, 38, 2, 3, 39, 9, 40, 41, 42, 65, 66, 67, 68] (by decide +kernel) (by decide +kernel)
set_option maxRecDepth 20000 in
theorem gX6_init_X0_init_n70 : GoodIn wsX6_init (wsX0_init) := ggX6_init_X0_init
theorem dX6_init_0 : decode cX6_init 0 = .ok (.aload_n 0, 1) := by decide +kernel
theorem dX6_init_1 : decode cX6_init 1 = .ok (.invokespecial 3, 3) := by decide +kernel
theorem dX6_init_4 : decode cX6_init 4 = .ok (.aload_n 0, 1) := by decide +kernel
theorem dX6_init_5 : decode cX6_init 5 = .ok (.iconst 0, 1) := by decide +kernel
theorem dX6_init_6 : decode cX6_init 6 = .ok (.putfield 9, 3) := by decide +kernel
theorem dX6_init_9 : decode cX6_init 9 = .ok (.aload_n 0, 1) := by decide +kernel
theorem dX6_init_10 : decode cX6_init 10 = .ok (.iconst 0, 1) := by decide +kernel
theorem dX6_init_11 : decode cX6_init 11 = .ok (.putfield 15, 3) := by decide +kernel
theorem dX6_init_14 : decode cX6_init 14 = .ok (.aload_n 0, 1) := by decide +kernel
theorem dX6_init_15 : decode cX6_init 15 = .ok (.iconst 0, 1) := by decide +kernel
theorem dX6_init_16 : decode cX6_init 16 = .ok (.putfield 18, 3) := by decide +kernel
theorem dX6_init_19 : decode cX6_init 19 = .ok (.aload_n 0, 1) := by decide +kernel
theorem dX6_init_20 : decode cX6_init 20 = .ok (.iconst 0, 1) := by decide +kernel
theorem dX6_init_21 : decode cX6_init 21 = .ok (.putfield 21, 3) := by decide +kernel
theorem dX6_init_24 : decode cX6_init 24 = .ok (.aload_n 0, 1) := by decide +kernel
theorem dX6_init_25 : decode cX6_init 25 = .ok (.iconst 0, 1) := by decide +kernel
theorem dX6_init_26 : decode cX6_init 26 = .ok (.putfield 24, 3) := by decide +kernel
theorem dX6_init_29 : decode cX6_init 29 = .ok (.aload_n 0, 1) := by decide +kernel
theorem dX6_init_30 : decode cX6_init 30 = .ok (.bipush 6, 2) := by decide +kernel
theorem dX6_init_32 : decode cX6_init 32 = .ok (.newarray .int, 2) := by decide +kernel
theorem dX6_init_34 : decode cX6_init 34 = .ok (.putfield 27, 3) := by decide +kernel
theorem dX6_init_37 : decode cX6_init 37 = .ok (.aload_n 0, 1) := by decide +kernel
theorem dX6_init_38 : decode cX6_init 38 = .ok (.bipush 6, 2) := by decide +kernel
theorem dX6_init_40 : decode cX6_init 40 = .ok (.newarray .int, 2) := by decide +kernel
theorem dX6_init_42 : decode cX6_init 42 = .ok (.putfield 31, 3) := by decide +kernel
theorem dX6_init_45 : decode cX6_init 45 = .ok (.aload_n 0, 1) := by decide +kernel
theorem dX6_init_46 : decode cX6_init 46 = .ok (.bipush 6, 2) := by decide +kernel
theorem dX6_init_48 : decode cX6_init 48 = .ok (.newarray .int, 2) := by decide +kernel
theorem dX6_init_50 : decode cX6_init 50 = .ok (.putfield 34, 3) := by decide +kernel
theorem dX6_init_53 : decode cX6_init 53 = .ok (.aload_n 0, 1) := by decide +kernel
theorem dX6_init_54 : decode cX6_init 54 = .ok (.bipush 6, 2) := by decide +kernel
theorem dX6_init_56 : decode cX6_init 56 = .ok (.newarray .int, 2) := by decide +kernel
theorem dX6_init_58 : decode cX6_init 58 = .ok (.putfield 37, 3) := by decide +kernel
theorem dX6_init_61 : decode cX6_init 61 = .ok (.aload_n 0, 1) := by decide +kernel
theorem dX6_init_62 : decode cX6_init 62 = .ok (.iconst 0, 1) := by decide +kernel
theorem dX6_init_63 : decode cX6_init 63 = .ok (.putfield 40, 3) := by decide +kernel
theorem dX6_init_66 : decode cX6_init 66 = .ok (.aload_n 0, 1) := by decide +kernel
theorem dX6_init_67 : decode cX6_init 67 = .ok (.iconst 5, 1) := by decide +kernel
theorem dX6_init_68 : decode cX6_init 68 = .ok (.newarray .int, 2) := by decide +kernel
theorem dX6_init_70 : decode cX6_init 70 = .ok (.putfield 43, 3) := by decide +kernel
theorem dX6_init_73 : decode cX6_init 73 = .ok (.aload_n 0, 1) := by decide +kernel
theorem dX6_init_74 : decode cX6_init 74 = .ok (.iconst 5, 1) := by decide +kernel
theorem dX6_init_75 : decode cX6_init 75 = .ok (.newarray .int, 2) := by decide +kernel
theorem dX6_init_77 : decode cX6_init 77 = .ok (.putfield 46, 3) := by decide +kernel
theorem dX6_init_80 : decode cX6_init 80 = .ok (.aload_n 0, 1) := by decide +kernel
theorem dX6_init_81 : decode cX6_init 81 = .ok (.iconst 0, 1) := by decide +kernel
theorem dX6_init_82 : decode cX6_init 82 = .ok (.putfield 49, 3) := by decide +kernel
theorem dX6_init_85 : decode cX6_init 85 = .ok (.aload_n 0, 1) := by decide +kernel
theorem dX6_init_86 : decode cX6_init 86 = .ok (.bipush 16, 2) := by decide +kernel
theorem dX6_init_88 : decode cX6_init 88 = .ok (.newarray .int, 2) := by decide +kernel
theorem dX6_init_90 : decode cX6_init 90 = .ok (.putfield 52, 3) := by decide +kernel
theorem dX6_init_93 : decode cX6_init 93 = .ok (.aload_n 0, 1) := by decide +kernel
theorem dX6_init_94 : decode cX6_init 94 = .ok (.iconst 0, 1) := by decide +kernel
theorem dX6_init_95 : decode cX6_init 95 = .ok (.putfield 55, 3) := by decide +kernel
theorem dX6_init_98 : decode cX6_init 98 = .ok (.aload_n 0, 1) := by decide +kernel
theorem dX6_init_99 : decode cX6_init 99 = .ok (.iconst 0, 1) := by decide +kernel
theorem dX6_init_100 : decode cX6_init 100 = .ok (.putfield 58, 3) := by decide +kernel
theorem dX6_init_103 : decode cX6_init 103 = .ok (.aload_n 0, 1) := by decide +kernel
theorem dX6_init_104 : decode cX6_init 104 = .ok (.new 61, 3) := by decide +kernel
theorem dX6_init_107 : decode cX6_init 107 = .ok (.dup, 1) := by decide +kernel
theorem dX6_init_108 : decode cX6_init 108 = .ok (.invokespecial 63, 3) := by decide +kernel
theorem dX6_init_111 : decode cX6_init 111 = .ok (.putfield 64, 3) := by decide +kernel
theorem dX6_init_114 : decode cX6_init 114 = .ok (.aload_n 0, 1) := by decide +kernel
theorem dX6_init_115 : decode cX6_init 115 = .ok (.new 68, 3) := by decide +kernel
theorem dX6_init_118 : decode cX6_init 118 = .ok (.dup, 1) := by decide +kernel
theorem dX6_init_119 : decode cX6_init 119 = .ok (.invokespecial 70, 3) := by decide +kernel
theorem dX6_init_122 : decode cX6_init 122 = .ok (.putfield 71, 3) := by decide +kernel
theorem dX6_init_125 : decode cX6_init 125 = .ok (.return_, 1) := by decide +kernel
set_option maxRecDepth 20000 in
theorem ggX6_clear_J7_fill_53178 : GoodIn wsX6_clear wsJ7_fill_53178 := goodIn_r _ [16] (by decide +kernel) (by decide +kernel)
set_option maxRecDepth 20000 in
theorem gX6_clear_J7_fill_53178 : GoodIn wsX6_clear (va_wsS RX6 75 yJ7_fill_53178 wsJ7_fill_53178) := goodIn_app (goodIn_of _ (by decide +kernel)) ggX6_clear_J7_fill_53178
theorem dX6_clear_0 : decode cX6_clear 0 = .ok (.aload_n 0, 1) := by decide +kernel
theorem dX6_clear_1 : decode cX6_clear 1 = .ok (.iconst 0, 1) := by decide +kernel
theorem dX6_clear_2 : decode cX6_clear 2 = .ok (.putfield 9, 3) := by decide +kernel
theorem dX6_clear_5 : decode cX6_clear 5 = .ok (.aload_n 0, 1) := by decide +kernel
theorem dX6_clear_6 : decode cX6_clear 6 = .ok (.iconst 0, 1) := by decide +kernel
theorem dX6_clear_7 : decode cX6_clear 7 = .ok (.putfield 15, 3) := by decide +kernel
theorem dX6_clear_10 : decode cX6_clear 10 = .ok (.aload_n 0, 1) := by decide +kernel
theorem dX6_clear_11 : decode cX6_clear 11 = .ok (.iconst 0, 1) := by decide +kernel
theorem dX6_clear_12 : decode cX6_clear 12 = .ok (.putfield 18, 3) := by decide +kernel
theorem dX6_clear_15 : decode cX6_clear 15 = .ok (.aload_n 0, 1) := by decide +kernel
theorem dX6_clear_16 : decode cX6_clear 16 = .ok (.iconst 0, 1) := by decide +kernel
theorem dX6_clear_17 : decode cX6_clear 17 = .ok (.putfield 21, 3) := by decide +kernel
theorem dX6_clear_20 : decode cX6_clear 20 = .ok (.aload_n 0, 1) := by decide +kernel
theorem dX6_clear_21 : decode cX6_clear 21 = .ok (.iconst 0, 1) := by decide +kernel
theorem dX6_clear_22 : decode cX6_clear 22 = .ok (.putfield 24, 3) := by decide +kernel
theorem dX6_clear_25 : decode cX6_clear 25 = .ok (.aload_n 0, 1) := by decide +kernel
theorem dX6_clear_26 : decode cX6_clear 26 = .ok (.iconst 0, 1) := by decide +kernel
theorem dX6_clear_27 : decode cX6_clear 27 = .ok (.putfield 40, 3) := by decide +kernel
theorem dX6_clear_30 : decode cX6_clear 30 = .ok (.aload_n 0, 1) := by decide +kernel
theorem dX6_clear_31 : decode cX6_clear 31 = .ok (.iconst 0, 1) := by decide +kernel
theorem dX6_clear_32 : decode cX6_clear 32 = .ok (.putfield 49, 3) := by decide +kernel
theorem dX6_clear_35 : decode cX6_clear 35 = .ok (.aload_n 0, 1) := by decide +kernel
theorem dX6_clear_36 : decode cX6_clear 36 = .ok (.iconst 0, 1) := by decide +kernel
theorem dX6_clear_37 : decode cX6_clear 37 = .ok (.putfield 55, 3) := by decide +kernel
theorem dX6_clear_40 : decode cX6_clear 40 = .ok (.aload_n 0, 1) := by decide +kernel
theorem dX6_clear_41 : decode cX6_clear 41 = .ok (.iconst 0, 1) := by decide +kernel
theorem dX6_clear_42 : decode cX6_clear 42 = .ok (.putfield 58, 3) := by decide +kernel
theorem dX6_clear_45 : decode cX6_clear 45 = .ok (.aload_n 0, 1) := by decide +kernel
theorem dX6_clear_46 : decode cX6_clear 46 = .ok (.getfield 52, 3) := by decide +kernel
theorem dX6_clear_49 : decode cX6_clear 49 = .ok (.iconst 0, 1) := by decide +kernel
theorem dX6_clear_50 : decode cX6_clear 50 = .ok (.invokestatic 75, 3) := by decide +kernel
theorem dX6_clear_53 : decode cX6_clear 53 = .ok (.aload_n 0, 1) := by decide +kernel
theorem dX6_clear_54 : decode cX6_clear 54 = .ok (.getfield 64, 3) := by decide +kernel
theorem dX6_clear_57 : decode cX6_clear 57 = .ok (.iconst 0, 1) := by decide +kernel
theorem dX6_clear_58 : decode cX6_clear 58 = .ok (.putfield 81, 3) := by decide +kernel
theorem dX6_clear_61 : decode cX6_clear 61 = .ok (.aload_n 0, 1) := by decide +kernel
theorem dX6_clear_62 : decode cX6_clear 62 = .ok (.getfield 71, 3) := by decide +kernel
theorem dX6_clear_65 : decode cX6_clear 65 = .ok (.iconst 0, 1) := by decide +kernel
theorem dX6_clear_66 : decode cX6_clear 66 = .ok (.putfield 84, 3) := by decide +kernel
theorem dX6_clear_69 : decode cX6_clear 69 = .ok (.return_, 1) := by decide +kernel
set_option maxRecDepth 20000 in
theorem ggX6_copy_X3_copy : GoodIn wsX6_copy wsX3_copy := goodIn_r _ [26, 27, 28, 29, 12, 13, 14, 30, 31, 59, 60, 61, 62] (by decide +kernel) (by decide +kernel)
set_option maxRecDepth 20000 in
theorem gX6_copy_X3_copy_n91 : GoodIn wsX6_copy (wsX3_copy) := ggX6_copy_X3_copy
set_option maxRecDepth 20000 in
theorem ggX6_copy_X0_copy : GoodIn wsX6_copy wsX0_copy := goodIn_r _ [35, 36, 37, 38, 12, 13, 14, 39, 40, 63, 64, 65, 66] (by decide +kernel) (by decide +kernel)
set_option maxRecDepth 20000 in
theorem gX6_copy_X0_copy_n95 : GoodIn wsX6_copy (wsX0_copy) := ggX6_copy_X0_copy
theorem dX6_copy_0 : decode cX6_copy 0 = .ok (.aload_n 0, 1) := by decide +kernel
theorem dX6_copy_1 : decode cX6_copy 1 = .ok (.aload_n 1, 1) := by decide +kernel
theorem dX6_copy_2 : decode cX6_copy 2 = .ok (.getfield 9, 3) := by decide +kernel
theorem dX6_copy_5 : decode cX6_copy 5 = .ok (.putfield 9, 3) := by decide +kernel
theorem dX6_copy_8 : decode cX6_copy 8 = .ok (.aload_n 0, 1) := by decide +kernel
theorem dX6_copy_9 : decode cX6_copy 9 = .ok (.aload_n 1, 1) := by decide +kernel
theorem dX6_copy_10 : decode cX6_copy 10 = .ok (.getfield 15, 3) := by decide +kernel
theorem dX6_copy_13 : decode cX6_copy 13 = .ok (.putfield 15, 3) := by decide +kernel
theorem dX6_copy_16 : decode cX6_copy 16 = .ok (.aload_n 0, 1) := by decide +kernel
theorem dX6_copy_17 : decode cX6_copy 17 = .ok (.aload_n 1, 1) := by decide +kernel
theorem dX6_copy_18 : decode cX6_copy 18 = .ok (.getfield 18, 3) := by decide +kernel
theorem dX6_copy_21 : decode cX6_copy 21 = .ok (.putfield 18, 3) := by decide +kernel
theorem dX6_copy_24 : decode cX6_copy 24 = .ok (.aload_n 0, 1) := by decide +kernel
theorem dX6_copy_25 : decode cX6_copy 25 = .ok (.aload_n 1, 1) := by decide +kernel
theorem dX6_copy_26 : decode cX6_copy 26 = .ok (.getfield 21, 3) := by decide +kernel
theorem dX6_copy_29 : decode cX6_copy 29 = .ok (.putfield 21, 3) := by decide +kernel
theorem dX6_copy_32 : decode cX6_copy 32 = .ok (.aload_n 0, 1) := by decide +kernel
theorem dX6_copy_33 : decode cX6_copy 33 = .ok (.aload_n 1, 1) := by decide +kernel
theorem dX6_copy_34 : decode cX6_copy 34 = .ok (.getfield 24, 3) := by decide +kernel
theorem dX6_copy_37 : decode cX6_copy 37 = .ok (.putfield 24, 3) := by decide +kernel
theorem dX6_copy_40 : decode cX6_copy 40 = .ok (.aload_n 0, 1) := by decide +kernel
theorem dX6_copy_41 : decode cX6_copy 41 = .ok (.aload_n 1, 1) := by decide +kernel
theorem dX6_copy_42 : decode cX6_copy 42 = .ok (.getfield 40, 3) := by decide +kernel
theorem dX6_copy_45 : decode cX6_copy 45 = .ok (.putfield 40, 3) := by decide +kernel
theorem dX6_copy_48 : decode cX6_copy 48 = .ok (.aload_n 0, 1) := by decide +kernel
theorem dX6_copy_49 : decode cX6_copy 49 = .ok (.aload_n 1, 1) := by decide +kernel
theorem dX6_copy_50 : decode cX6_copy 50 = .ok (.getfield 49, 3) := by decide +kernel
theorem dX6_copy_53 : decode cX6_copy 53 = .ok (.putfield 49, 3) := by decide +kernel
theorem dX6_copy_56 : decode cX6_copy 56 = .ok (.aload_n 0, 1) := by decide +kernel
theorem dX6_copy_57 : decode cX6_copy 57 = .ok (.aload_n 1, 1) := by decide +kernel
theorem dX6_copy_58 : decode cX6_copy 58 = .ok (.getfield 55, 3) := by decide +kernel
theorem dX6_copy_61 : decode cX6_copy 61 = .ok (.putfield 55, 3) := by decide +kernel
theorem dX6_copy_64 : decode cX6_copy 64 = .ok (.aload_n 0, 1) := by decide +kernel
theorem dX6_copy_65 : decode cX6_copy 65 = .ok (.aload_n 1, 1) := by decide +kernel
theorem dX6_copy_66 : decode cX6_copy 66 = .ok (.getfield 58, 3) := by decide +kernel
theorem dX6_copy_69 : decode cX6_copy 69 = .ok (.putfield 58, 3) := by decide +kernel
theorem dX6_copy_72 : decode cX6_copy 72 = .ok (.aload_n 1, 1) := by decide +kernel
theorem dX6_copy_73 : decode cX6_copy 73 = .ok (.getfield 27, 3) := by decide +kernel
theorem dX6_copy_76 : decode cX6_copy 76 = .ok (.iconst 0, 1) := by decide +kernel
theorem dX6_copy_77 : decode cX6_copy 77 = .ok (.aload_n 0, 1) := by decide +kernel
theorem dX6_copy_78 : decode cX6_copy 78 = .ok (.getfield 27, 3) := by decide +kernel
theorem dX6_copy_81 : decode cX6_copy 81 = .ok (.iconst 0, 1) := by decide +kernel
theorem dX6_copy_82 : decode cX6_copy 82 = .ok (.bipush 6, 2) := by decide +kernel
theorem dX6_copy_84 : decode cX6_copy 84 = .ok (.invokestatic 85, 3) := by decide +kernel
theorem dX6_copy_87 : decode cX6_copy 87 = .ok (.aload_n 1, 1) := by decide +kernel
theorem dX6_copy_88 : decode cX6_copy 88 = .ok (.getfield 31, 3) := by decide +kernel
theorem dX6_copy_91 : decode cX6_copy 91 = .ok (.iconst 0, 1) := by decide +kernel
theorem dX6_copy_92 : decode cX6_copy 92 = .ok (.aload_n 0, 1) := by decide +kernel
theorem dX6_copy_93 : decode cX6_copy 93 = .ok (.getfield 31, 3) := by decide +kernel
theorem dX6_copy_96 : decode cX6_copy 96 = .ok (.iconst 0, 1) := by decide +kernel
theorem dX6_copy_97 : decode cX6_copy 97 = .ok (.bipush 6, 2) := by decide +kernel
theorem dX6_copy_99 : decode cX6_copy 99 = .ok (.invokestatic 85, 3) := by decide +kernel
theorem dX6_copy_102 : decode cX6_copy 102 = .ok (.aload_n 1, 1) := by decide +kernel
theorem dX6_copy_103 : decode cX6_copy 103 = .ok (.getfield 34, 3) := by decide +kernel
theorem dX6_copy_106 : decode cX6_copy 106 = .ok (.iconst 0, 1) := by decide +kernel
theorem dX6_copy_107 : decode cX6_copy 107 = .ok (.aload_n 0, 1) := by decide +kernel
theorem dX6_copy_108 : decode cX6_copy 108 = .ok (.getfield 34, 3) := by decide +kernel
theorem dX6_copy_111 : decode cX6_copy 111 = .ok (.iconst 0, 1) := by decide +kernel
theorem dX6_copy_112 : decode cX6_copy 112 = .ok (.bipush 6, 2) := by decide +kernel
theorem dX6_copy_114 : decode cX6_copy 114 = .ok (.invokestatic 85, 3) := by decide +kernel
theorem dX6_copy_117 : decode cX6_copy 117 = .ok (.aload_n 1, 1) := by decide +kernel
theorem dX6_copy_118 : decode cX6_copy 118 = .ok (.getfield 37, 3) := by decide +kernel
theorem dX6_copy_121 : decode cX6_copy 121 = .ok (.iconst 0, 1) := by decide +kernel
theorem dX6_copy_122 : decode cX6_copy 122 = .ok (.aload_n 0, 1) := by decide +kernel
theorem dX6_copy_123 : decode cX6_copy 123 = .ok (.getfield 37, 3) := by decide +kernel
theorem dX6_copy_126 : decode cX6_copy 126 = .ok (.iconst 0, 1) := by decide +kernel
theorem dX6_copy_127 : decode cX6_copy 127 = .ok (.bipush 6, 2) := by decide +kernel
theorem dX6_copy_129 : decode cX6_copy 129 = .ok (.invokestatic 85, 3) := by decide +kernel
theorem dX6_copy_132 : decode cX6_copy 132 = .ok (.aload_n 1, 1) := by decide +kernel
theorem dX6_copy_133 : decode cX6_copy 133 = .ok (.getfield 43, 3) := by decide +kernel
theorem dX6_copy_136 : decode cX6_copy 136 = .ok (.iconst 0, 1) := by decide +kernel
theorem dX6_copy_137 : decode cX6_copy 137 = .ok (.aload_n 0, 1) := by decide +kernel
theorem dX6_copy_138 : decode cX6_copy 138 = .ok (.getfield 43, 3) := by decide +kernel
theorem dX6_copy_141 : decode cX6_copy 141 = .ok (.iconst 0, 1) := by decide +kernel
theorem dX6_copy_142 : decode cX6_copy 142 = .ok (.iconst 5, 1) := by decide +kernel
theorem dX6_copy_143 : decode cX6_copy 143 = .ok (.invokestatic 85, 3) := by decide +kernel
theorem dX6_copy_146 : decode cX6_copy 146 = .ok (.aload_n 1, 1) := by decide +kernel
theorem dX6_copy_147 : decode cX6_copy 147 = .ok (.getfield 46, 3) := by decide +kernel
theorem dX6_copy_150 : decode cX6_copy 150 = .ok (.iconst 0, 1) := by decide +kernel
theorem dX6_copy_151 : decode cX6_copy 151 = .ok (.aload_n 0, 1) := by decide +kernel
theorem dX6_copy_152 : decode cX6_copy 152 = .ok (.getfield 46, 3) := by decide +kernel
theorem dX6_copy_155 : decode cX6_copy 155 = .ok (.iconst 0, 1) := by decide +kernel
theorem dX6_copy_156 : decode cX6_copy 156 = .ok (.iconst 5, 1) := by decide +kernel
theorem dX6_copy_157 : decode cX6_copy 157 = .ok (.invokestatic 85, 3) := by decide +kernel
theorem dX6_copy_160 : decode cX6_copy 160 = .ok (.aload_n 1, 1) := by decide +kernel
theorem dX6_copy_161 : decode cX6_copy 161 = .ok (.getfield 52, 3) := by decide +kernel
theorem dX6_copy_164 : decode cX6_copy 164 = .ok (.iconst 0, 1) := by decide +kernel
theorem dX6_copy_165 : decode cX6_copy 165 = .ok (.aload_n 0, 1) := by decide +kernel
theorem dX6_copy_166 : decode cX6_copy 166 = .ok (.getfield 52, 3) := by decide +kernel
theorem dX6_copy_169 : decode cX6_copy 169 = .ok (.iconst 0, 1) := by decide +kernel
theorem dX6_copy_170 : decode cX6_copy 170 = .ok (.bipush 16, 2) := by decide +kernel
theorem dX6_copy_172 : decode cX6_copy 172 = .ok (.invokestatic 85, 3) := by decide +kernel
theorem dX6_copy_175 : decode cX6_copy 175 = .ok (.aload_n 0, 1) := by decide +kernel
theorem dX6_copy_176 : decode cX6_copy 176 = .ok (.getfield 64, 3) := by decide +kernel
theorem dX6_copy_179 : decode cX6_copy 179 = .ok (.aload_n 1, 1) := by decide +kernel
theorem dX6_copy_180 : decode cX6_copy 180 = .ok (.getfield 64, 3) := by decide +kernel
theorem dX6_copy_183 : decode cX6_copy 183 = .ok (.invokevirtual 91, 3) := by decide +kernel
theorem dX6_copy_186 : decode cX6_copy 186 = .ok (.aload_n 0, 1) := by decide +kernel
theorem dX6_copy_187 : decode cX6_copy 187 = .ok (.getfield 71, 3) := by decide +kernel
theorem dX6_copy_190 : decode cX6_copy 190 = .ok (.aload_n 1, 1) := by decide +kernel
theorem dX6_copy_191 : decode cX6_copy 191 = .ok (.getfield 71, 3) := by decide +kernel
theorem dX6_copy_194 : decode cX6_copy 194 = .ok (.invokevirtual 95, 3) := by decide +kernel
theorem dX6_copy_197 : decode cX6_copy 197 = .ok (.return_, 1) := by decide +kernel
theorem dX6_isTold_0 : decode cX6_isTold 0 = .ok (.aload_n 0, 1) := by decide +kernel
theorem dX6_isTold_1 : decode cX6_isTold 1 = .ok (.getfield 9, 3) := by decide +kernel
theorem dX6_isTold_4 : decode cX6_isTold 4 = .ok (.ifCond .le 7, 3) := by decide +kernel
theorem dX6_isTold_7 : decode cX6_isTold 7 = .ok (.iconst 1, 1) := by decide +kernel
theorem dX6_isTold_8 : decode cX6_isTold 8 = .ok (.goto 4, 3) := by decide +kernel
theorem dX6_isTold_11 : decode cX6_isTold 11 = .ok (.iconst 0, 1) := by decide +kernel
theorem dX6_isTold_12 : decode cX6_isTold 12 = .ok (.ireturn, 1) := by decide +kernel
theorem dX6_hasRank_0 : decode cX6_hasRank 0 = .ok (.iload_n 1, 1) := by decide +kernel
theorem dX6_hasRank_1 : decode cX6_hasRank 1 = .ok (.ifCond .lt 15, 3) := by decide +kernel
theorem dX6_hasRank_4 : decode cX6_hasRank 4 = .ok (.iload_n 1, 1) := by decide +kernel
theorem dX6_hasRank_5 : decode cX6_hasRank 5 = .ok (.aload_n 0, 1) := by decide +kernel
theorem dX6_hasRank_6 : decode cX6_hasRank 6 = .ok (.getfield 24, 3) := by decide +kernel
theorem dX6_hasRank_9 : decode cX6_hasRank 9 = .ok (.if_icmp .ge 7, 3) := by decide +kernel
theorem dX6_hasRank_12 : decode cX6_hasRank 12 = .ok (.iconst 1, 1) := by decide +kernel
theorem dX6_hasRank_13 : decode cX6_hasRank 13 = .ok (.goto 4, 3) := by decide +kernel
theorem dX6_hasRank_16 : decode cX6_hasRank 16 = .ok (.iconst 0, 1) := by decide +kernel
theorem dX6_hasRank_17 : decode cX6_hasRank 17 = .ok (.ireturn, 1) := by decide +kernel
theorem dX6_hasYear_0 : decode cX6_hasYear 0 = .ok (.iload_n 1, 1) := by decide +kernel
theorem dX6_hasYear_1 : decode cX6_hasYear 1 = .ok (.ifCond .lt 15, 3) := by decide +kernel
theorem dX6_hasYear_4 : decode cX6_hasYear 4 = .ok (.iload_n 1, 1) := by decide +kernel
theorem dX6_hasYear_5 : decode cX6_hasYear 5 = .ok (.aload_n 0, 1) := by decide +kernel
theorem dX6_hasYear_6 : decode cX6_hasYear 6 = .ok (.getfield 15, 3) := by decide +kernel
theorem dX6_hasYear_9 : decode cX6_hasYear 9 = .ok (.if_icmp .ge 7, 3) := by decide +kernel
theorem dX6_hasYear_12 : decode cX6_hasYear 12 = .ok (.iconst 1, 1) := by decide +kernel
theorem dX6_hasYear_13 : decode cX6_hasYear 13 = .ok (.goto 4, 3) := by decide +kernel
theorem dX6_hasYear_16 : decode cX6_hasYear 16 = .ok (.iconst 0, 1) := by decide +kernel
theorem dX6_hasYear_17 : decode cX6_hasYear 17 = .ok (.ireturn, 1) := by decide +kernel
set_option maxRecDepth 20000 in
theorem ggX6_hasBoth_X6_hasRank : GoodIn wsX6_hasBoth wsX6_hasRank := goodIn_r _ [5, 6, 12, 13, 14, 15, 16, 17, 18, 19, 20, 21, 22, 23, 24, 25, 26, 27, 28, 29] (by decide +kernel) (by decide +kernel)
set_option maxRecDepth 20000 in
theorem gX6_hasBoth_X6_hasRank : GoodIn wsX6_hasBoth (wsV RX6 98 RX6 yX6_hasRank wsX6_hasRank) := goodIn_app (goodIn_of _ (by decide +kernel)) ggX6_hasBoth_X6_hasRank
set_option maxRecDepth 20000 in
theorem ggX6_hasBoth_X6_hasYear : GoodIn wsX6_hasBoth wsX6_hasYear := goodIn_r _ [10, 11, 12, 13, 14, 15, 16, 17, 18, 19, 20, 21, 22, 23, 24, 25, 26, 27, 28, 29] (by decide +kernel) (by decide +kernel)
set_option maxRecDepth 20000 in
theorem gX6_hasBoth_X6_hasYear : GoodIn wsX6_hasBoth (wsV RX6 102 RX6 yX6_hasYear wsX6_hasYear) := goodIn_app (goodIn_of _ (by decide +kernel)) ggX6_hasBoth_X6_hasYear
theorem dX6_hasBoth_0 : decode cX6_hasBoth 0 = .ok (.aload_n 0, 1) := by decide +kernel
theorem dX6_hasBoth_1 : decode cX6_hasBoth 1 = .ok (.iload_n 1, 1) := by decide +kernel
theorem dX6_hasBoth_2 : decode cX6_hasBoth 2 = .ok (.invokevirtual 98, 3) := by decide +kernel
theorem dX6_hasBoth_5 : decode cX6_hasBoth 5 = .ok (.ifCond .eq 15, 3) := by decide +kernel
theorem dX6_hasBoth_8 : decode cX6_hasBoth 8 = .ok (.aload_n 0, 1) := by decide +kernel
theorem dX6_hasBoth_9 : decode cX6_hasBoth 9 = .ok (.iload_n 2, 1) := by decide +kernel
theorem dX6_hasBoth_10 : decode cX6_hasBoth 10 = .ok (.invokevirtual 102, 3) := by decide +kernel
theorem dX6_hasBoth_13 : decode cX6_hasBoth 13 = .ok (.ifCond .eq 7, 3) := by decide +kernel
theorem dX6_hasBoth_16 : decode cX6_hasBoth 16 = .ok (.iconst 1, 1) := by decide +kernel
theorem dX6_hasBoth_17 : decode cX6_hasBoth 17 = .ok (.goto 4, 3) := by decide +kernel
theorem dX6_hasBoth_20 : decode cX6_hasBoth 20 = .ok (.iconst 0, 1) := by decide +kernel
theorem dX6_hasBoth_21 : decode cX6_hasBoth 21 = .ok (.ireturn, 1) := by decide +kernel
set_option maxRecDepth 20000 in
theorem ggX6_hasTwo_X6_hasRank : GoodIn wsX6_hasTwo wsX6_hasRank := goodIn_r _ [5, 6, 7, 8, 9, 10, 11, 12, 13, 14, 15, 16, 17, 18, 19, 20, 21, 22, 23, 24] (by decide +kernel) (by decide +kernel)
set_option maxRecDepth 20000 in
theorem gX6_hasTwo_X6_hasRank : GoodIn wsX6_hasTwo (wsV RX6 98 RX6 yX6_hasRank wsX6_hasRank) := goodIn_app (goodIn_of _ (by decide +kernel)) ggX6_hasTwo_X6_hasRank
theorem dX6_hasTwo_0 : decode cX6_hasTwo 0 = .ok (.aload_n 0, 1) := by decide +kernel
theorem dX6_hasTwo_1 : decode cX6_hasTwo 1 = .ok (.iload_n 1, 1) := by decide +kernel
theorem dX6_hasTwo_2 : decode cX6_hasTwo 2 = .ok (.invokevirtual 98, 3) := by decide +kernel
theorem dX6_hasTwo_5 : decode cX6_hasTwo 5 = .ok (.ifCond .eq 20, 3) := by decide +kernel
theorem dX6_hasTwo_8 : decode cX6_hasTwo 8 = .ok (.aload_n 0, 1) := by decide +kernel
theorem dX6_hasTwo_9 : decode cX6_hasTwo 9 = .ok (.iload_n 2, 1) := by decide +kernel
theorem dX6_hasTwo_10 : decode cX6_hasTwo 10 = .ok (.invokevirtual 98, 3) := by decide +kernel
theorem dX6_hasTwo_13 : decode cX6_hasTwo 13 = .ok (.ifCond .eq 12, 3) := by decide +kernel
theorem dX6_hasTwo_16 : decode cX6_hasTwo 16 = .ok (.iload_n 1, 1) := by decide +kernel
theorem dX6_hasTwo_17 : decode cX6_hasTwo 17 = .ok (.iload_n 2, 1) := by decide +kernel
theorem dX6_hasTwo_18 : decode cX6_hasTwo 18 = .ok (.if_icmp .eq 7, 3) := by decide +kernel
theorem dX6_hasTwo_21 : decode cX6_hasTwo 21 = .ok (.iconst 1, 1) := by decide +kernel
theorem dX6_hasTwo_22 : decode cX6_hasTwo 22 = .ok (.goto 4, 3) := by decide +kernel
theorem dX6_hasTwo_25 : decode cX6_hasTwo 25 = .ok (.iconst 0, 1) := by decide +kernel
theorem dX6_hasTwo_26 : decode cX6_hasTwo 26 = .ok (.ireturn, 1) := by decide +kernel
theorem dX6_hasPlank_0 : decode cX6_hasPlank 0 = .ok (.iload_n 1, 1) := by decide +kernel
theorem dX6_hasPlank_1 : decode cX6_hasPlank 1 = .ok (.ifCond .lt 15, 3) := by decide +kernel
theorem dX6_hasPlank_4 : decode cX6_hasPlank 4 = .ok (.iload_n 1, 1) := by decide +kernel
theorem dX6_hasPlank_5 : decode cX6_hasPlank 5 = .ok (.aload_n 0, 1) := by decide +kernel
theorem dX6_hasPlank_6 : decode cX6_hasPlank 6 = .ok (.getfield 40, 3) := by decide +kernel
theorem dX6_hasPlank_9 : decode cX6_hasPlank 9 = .ok (.if_icmp .ge 7, 3) := by decide +kernel
theorem dX6_hasPlank_12 : decode cX6_hasPlank 12 = .ok (.iconst 1, 1) := by decide +kernel
theorem dX6_hasPlank_13 : decode cX6_hasPlank 13 = .ok (.goto 4, 3) := by decide +kernel
theorem dX6_hasPlank_16 : decode cX6_hasPlank 16 = .ok (.iconst 0, 1) := by decide +kernel
theorem dX6_hasPlank_17 : decode cX6_hasPlank 17 = .ok (.ireturn, 1) := by decide +kernel
theorem dX6_everyRank_0 : decode cX6_everyRank 0 = .ok (.iconst 1, 1) := by decide +kernel
theorem dX6_everyRank_1 : decode cX6_everyRank 1 = .ok (.aload_n 0, 1) := by decide +kernel
theorem dX6_everyRank_2 : decode cX6_everyRank 2 = .ok (.getfield 24, 3) := by decide +kernel
theorem dX6_everyRank_5 : decode cX6_everyRank 5 = .ok (.ishl, 1) := by decide +kernel
theorem dX6_everyRank_6 : decode cX6_everyRank 6 = .ok (.iconst 1, 1) := by decide +kernel
theorem dX6_everyRank_7 : decode cX6_everyRank 7 = .ok (.isub, 1) := by decide +kernel
theorem dX6_everyRank_8 : decode cX6_everyRank 8 = .ok (.ireturn, 1) := by decide +kernel
set_option maxRecDepth 20000 in
theorem ggX6_opened_X6_hasRank : GoodIn wsX6_opened wsX6_hasRank := goodIn_r _ [6, 7, 8, 9, 10, 11, 12, 13, 14, 15, 16, 17, 18, 19, 20, 21, 22, 23, 24, 25] (by decide +kernel) (by decide +kernel)
set_option maxRecDepth 20000 in
theorem gX6_opened_X6_hasRank : GoodIn wsX6_opened (wsV RX6 98 RX6 yX6_hasRank wsX6_hasRank) := goodIn_app (goodIn_of _ (by decide +kernel)) ggX6_opened_X6_hasRank
theorem dX6_opened_0 : decode cX6_opened 0 = .ok (.aload_n 0, 1) := by decide +kernel
theorem dX6_opened_1 : decode cX6_opened 1 = .ok (.iload_n 1, 1) := by decide +kernel
theorem dX6_opened_2 : decode cX6_opened 2 = .ok (.invokevirtual 98, 3) := by decide +kernel
theorem dX6_opened_5 : decode cX6_opened 5 = .ok (.ifCond .eq 19, 3) := by decide +kernel
theorem dX6_opened_8 : decode cX6_opened 8 = .ok (.iload_n 2, 1) := by decide +kernel
theorem dX6_opened_9 : decode cX6_opened 9 = .ok (.aload_n 0, 1) := by decide +kernel
theorem dX6_opened_10 : decode cX6_opened 10 = .ok (.getfield 27, 3) := by decide +kernel
theorem dX6_opened_13 : decode cX6_opened 13 = .ok (.iload_n 1, 1) := by decide +kernel
theorem dX6_opened_14 : decode cX6_opened 14 = .ok (.iaload, 1) := by decide +kernel
theorem dX6_opened_15 : decode cX6_opened 15 = .ok (.if_icmp .lt 9, 3) := by decide +kernel
theorem dX6_opened_18 : decode cX6_opened 18 = .ok (.iconst 1, 1) := by decide +kernel
theorem dX6_opened_19 : decode cX6_opened 19 = .ok (.iload_n 1, 1) := by decide +kernel
theorem dX6_opened_20 : decode cX6_opened 20 = .ok (.ishl, 1) := by decide +kernel
theorem dX6_opened_21 : decode cX6_opened 21 = .ok (.goto 4, 3) := by decide +kernel
theorem dX6_opened_24 : decode cX6_opened 24 = .ok (.iconst 0, 1) := by decide +kernel
theorem dX6_opened_25 : decode cX6_opened 25 = .ok (.ireturn, 1) := by decide +kernel
set_option maxRecDepth 20000 in
theorem ggX6_openedByTold_X6_opened : GoodIn wsX6_openedByTold wsX6_opened := goodIn_r _ [8, 9, 10, 11, 12, 7, 13, 14, 15, 16, 17, 18, 19, 20, 21, 22, 23, 24, 25, 26, 27, 28, 29, 30, 31, 32] (by decide +kernel) (by decide +kernel)
set_option maxRecDepth 20000 in
theorem gX6_openedByTold_X6_opened : GoodIn wsX6_openedByTold (wsV RX6 105 RX6 yX6_opened wsX6_opened) := goodIn_app (goodIn_of _ (by decide +kernel)) ggX6_openedByTold_X6_opened
theorem dX6_openedByTold_0 : decode cX6_openedByTold 0 = .ok (.iconst 0, 1) := by decide +kernel
theorem dX6_openedByTold_1 : decode cX6_openedByTold 1 = .ok (.istore_n 2, 1) := by decide +kernel
theorem dX6_openedByTold_2 : decode cX6_openedByTold 2 = .ok (.iconst 0, 1) := by decide +kernel
theorem dX6_openedByTold_3 : decode cX6_openedByTold 3 = .ok (.istore_n 3, 1) := by decide +kernel
theorem dX6_openedByTold_4 : decode cX6_openedByTold 4 = .ok (.iload_n 3, 1) := by decide +kernel
theorem dX6_openedByTold_5 : decode cX6_openedByTold 5 = .ok (.aload_n 0, 1) := by decide +kernel
theorem dX6_openedByTold_6 : decode cX6_openedByTold 6 = .ok (.getfield 40, 3) := by decide +kernel
theorem dX6_openedByTold_9 : decode cX6_openedByTold 9 = .ok (.if_icmp .ge 33, 3) := by decide +kernel
theorem dX6_openedByTold_12 : decode cX6_openedByTold 12 = .ok (.iload_n 3, 1) := by decide +kernel
theorem dX6_openedByTold_13 : decode cX6_openedByTold 13 = .ok (.iload_n 1, 1) := by decide +kernel
theorem dX6_openedByTold_14 : decode cX6_openedByTold 14 = .ok (.if_icmp .eq 22, 3) := by decide +kernel
theorem dX6_openedByTold_17 : decode cX6_openedByTold 17 = .ok (.iload_n 2, 1) := by decide +kernel
theorem dX6_openedByTold_18 : decode cX6_openedByTold 18 = .ok (.aload_n 0, 1) := by decide +kernel
theorem dX6_openedByTold_19 : decode cX6_openedByTold 19 = .ok (.aload_n 0, 1) := by decide +kernel
theorem dX6_openedByTold_20 : decode cX6_openedByTold 20 = .ok (.getfield 46, 3) := by decide +kernel
theorem dX6_openedByTold_23 : decode cX6_openedByTold 23 = .ok (.iload_n 3, 1) := by decide +kernel
theorem dX6_openedByTold_24 : decode cX6_openedByTold 24 = .ok (.iaload, 1) := by decide +kernel
theorem dX6_openedByTold_25 : decode cX6_openedByTold 25 = .ok (.aload_n 0, 1) := by decide +kernel
theorem dX6_openedByTold_26 : decode cX6_openedByTold 26 = .ok (.getfield 43, 3) := by decide +kernel
theorem dX6_openedByTold_29 : decode cX6_openedByTold 29 = .ok (.iload_n 3, 1) := by decide +kernel
theorem dX6_openedByTold_30 : decode cX6_openedByTold 30 = .ok (.iaload, 1) := by decide +kernel
theorem dX6_openedByTold_31 : decode cX6_openedByTold 31 = .ok (.invokevirtual 105, 3) := by decide +kernel
theorem dX6_openedByTold_34 : decode cX6_openedByTold 34 = .ok (.ior, 1) := by decide +kernel
theorem dX6_openedByTold_35 : decode cX6_openedByTold 35 = .ok (.istore_n 2, 1) := by decide +kernel
theorem dX6_openedByTold_36 : decode cX6_openedByTold 36 = .ok (.iinc 3 1, 3) := by decide +kernel
theorem dX6_openedByTold_39 : decode cX6_openedByTold 39 = .ok (.goto (-35), 3) := by decide +kernel
theorem dX6_openedByTold_42 : decode cX6_openedByTold 42 = .ok (.iload_n 2, 1) := by decide +kernel
theorem dX6_openedByTold_43 : decode cX6_openedByTold 43 = .ok (.ireturn, 1) := by decide +kernel
set_option maxRecDepth 20000 in
theorem ggX6_openedByActs_X6_opened : GoodIn wsX6_openedByActs wsX6_opened := goodIn_r _ [6, 7, 8, 9, 10, 5, 11, 12, 13, 14, 15, 16, 17, 18, 19, 20, 21, 22, 23, 24, 25, 26, 27, 28, 29, 30] (by decide +kernel) (by decide +kernel)
set_option maxRecDepth 20000 in
theorem gX6_openedByActs_X6_opened : GoodIn wsX6_openedByActs (wsV RX6 105 RX6 yX6_opened wsX6_opened) := goodIn_app (goodIn_of _ (by decide +kernel)) ggX6_openedByActs_X6_opened
theorem dX6_openedByActs_0 : decode cX6_openedByActs 0 = .ok (.iconst 0, 1) := by decide +kernel
theorem dX6_openedByActs_1 : decode cX6_openedByActs 1 = .ok (.istore_n 1, 1) := by decide +kernel
theorem dX6_openedByActs_2 : decode cX6_openedByActs 2 = .ok (.iconst 0, 1) := by decide +kernel
theorem dX6_openedByActs_3 : decode cX6_openedByActs 3 = .ok (.istore_n 2, 1) := by decide +kernel
theorem dX6_openedByActs_4 : decode cX6_openedByActs 4 = .ok (.iload_n 2, 1) := by decide +kernel
theorem dX6_openedByActs_5 : decode cX6_openedByActs 5 = .ok (.aload_n 0, 1) := by decide +kernel
theorem dX6_openedByActs_6 : decode cX6_openedByActs 6 = .ok (.getfield 71, 3) := by decide +kernel
theorem dX6_openedByActs_9 : decode cX6_openedByActs 9 = .ok (.getfield 84, 3) := by decide +kernel
theorem dX6_openedByActs_12 : decode cX6_openedByActs 12 = .ok (.if_icmp .ge 46, 3) := by decide +kernel
theorem dX6_openedByActs_15 : decode cX6_openedByActs 15 = .ok (.aload_n 0, 1) := by decide +kernel
theorem dX6_openedByActs_16 : decode cX6_openedByActs 16 = .ok (.getfield 71, 3) := by decide +kernel
theorem dX6_openedByActs_19 : decode cX6_openedByActs 19 = .ok (.getfield 109, 3) := by decide +kernel
theorem dX6_openedByActs_22 : decode cX6_openedByActs 22 = .ok (.iload_n 2, 1) := by decide +kernel
theorem dX6_openedByActs_23 : decode cX6_openedByActs 23 = .ok (.iaload, 1) := by decide +kernel
theorem dX6_openedByActs_24 : decode cX6_openedByActs 24 = .ok (.ifCond .eq 28, 3) := by decide +kernel
theorem dX6_openedByActs_27 : decode cX6_openedByActs 27 = .ok (.iload_n 1, 1) := by decide +kernel
theorem dX6_openedByActs_28 : decode cX6_openedByActs 28 = .ok (.aload_n 0, 1) := by decide +kernel
theorem dX6_openedByActs_29 : decode cX6_openedByActs 29 = .ok (.aload_n 0, 1) := by decide +kernel
theorem dX6_openedByActs_30 : decode cX6_openedByActs 30 = .ok (.getfield 71, 3) := by decide +kernel
theorem dX6_openedByActs_33 : decode cX6_openedByActs 33 = .ok (.getfield 110, 3) := by decide +kernel
theorem dX6_openedByActs_36 : decode cX6_openedByActs 36 = .ok (.iload_n 2, 1) := by decide +kernel
theorem dX6_openedByActs_37 : decode cX6_openedByActs 37 = .ok (.iaload, 1) := by decide +kernel
theorem dX6_openedByActs_38 : decode cX6_openedByActs 38 = .ok (.aload_n 0, 1) := by decide +kernel
theorem dX6_openedByActs_39 : decode cX6_openedByActs 39 = .ok (.getfield 71, 3) := by decide +kernel
theorem dX6_openedByActs_42 : decode cX6_openedByActs 42 = .ok (.getfield 109, 3) := by decide +kernel
theorem dX6_openedByActs_45 : decode cX6_openedByActs 45 = .ok (.iload_n 2, 1) := by decide +kernel
theorem dX6_openedByActs_46 : decode cX6_openedByActs 46 = .ok (.iaload, 1) := by decide +kernel
theorem dX6_openedByActs_47 : decode cX6_openedByActs 47 = .ok (.invokevirtual 105, 3) := by decide +kernel
theorem dX6_openedByActs_50 : decode cX6_openedByActs 50 = .ok (.ior, 1) := by decide +kernel
theorem dX6_openedByActs_51 : decode cX6_openedByActs 51 = .ok (.istore_n 1, 1) := by decide +kernel
theorem dX6_openedByActs_52 : decode cX6_openedByActs 52 = .ok (.iinc 2 1, 3) := by decide +kernel
theorem dX6_openedByActs_55 : decode cX6_openedByActs 55 = .ok (.goto (-51), 3) := by decide +kernel
theorem dX6_openedByActs_58 : decode cX6_openedByActs 58 = .ok (.iload_n 1, 1) := by decide +kernel
theorem dX6_openedByActs_59 : decode cX6_openedByActs 59 = .ok (.ireturn, 1) := by decide +kernel
theorem dX7_init_0 : decode cX7_init 0 = .ok (.aload_n 0, 1) := by decide +kernel
theorem dX7_init_1 : decode cX7_init 1 = .ok (.invokespecial 3, 3) := by decide +kernel
theorem dX7_init_4 : decode cX7_init 4 = .ok (.aload_n 0, 1) := by decide +kernel
theorem dX7_init_5 : decode cX7_init 5 = .ok (.iconst (-1), 1) := by decide +kernel
theorem dX7_init_6 : decode cX7_init 6 = .ok (.putfield 9, 3) := by decide +kernel
theorem dX7_init_9 : decode cX7_init 9 = .ok (.aload_n 0, 1) := by decide +kernel
theorem dX7_init_10 : decode cX7_init 10 = .ok (.iconst 0, 1) := by decide +kernel
theorem dX7_init_11 : decode cX7_init 11 = .ok (.putfield 15, 3) := by decide +kernel
theorem dX7_init_14 : decode cX7_init 14 = .ok (.aload_n 0, 1) := by decide +kernel
theorem dX7_init_15 : decode cX7_init 15 = .ok (.bipush 60, 2) := by decide +kernel
theorem dX7_init_17 : decode cX7_init 17 = .ok (.newarray .long, 2) := by decide +kernel
theorem dX7_init_19 : decode cX7_init 19 = .ok (.putfield 18, 3) := by decide +kernel
theorem dX7_init_22 : decode cX7_init 22 = .ok (.return_, 1) := by decide +kernel
set_option maxRecDepth 20000 in
theorem ggX7_make_J7_fill_d0a16 : GoodIn wsX7_make wsJ7_fill_d0a16 := goodIn_r _ [7] (by decide +kernel) (by decide +kernel)
set_option maxRecDepth 20000 in
theorem gX7_make_J7_fill_d0a16 : GoodIn wsX7_make (va_wsS RX7 22 yJ7_fill_d0a16 wsJ7_fill_d0a16) := goodIn_app (goodIn_of _ (by decide +kernel)) ggX7_make_J7_fill_d0a16
theorem dX7_make_0 : decode cX7_make 0 = .ok (.aload_n 0, 1) := by decide +kernel
theorem dX7_make_1 : decode cX7_make 1 = .ok (.iload_n 1, 1) := by decide +kernel
theorem dX7_make_2 : decode cX7_make 2 = .ok (.putfield 9, 3) := by decide +kernel
theorem dX7_make_5 : decode cX7_make 5 = .ok (.aload_n 0, 1) := by decide +kernel
theorem dX7_make_6 : decode cX7_make 6 = .ok (.iload_n 2, 1) := by decide +kernel
theorem dX7_make_7 : decode cX7_make 7 = .ok (.putfield 15, 3) := by decide +kernel
theorem dX7_make_10 : decode cX7_make 10 = .ok (.aload_n 0, 1) := by decide +kernel
theorem dX7_make_11 : decode cX7_make 11 = .ok (.getfield 18, 3) := by decide +kernel
theorem dX7_make_14 : decode cX7_make 14 = .ok (.lconst 0, 1) := by decide +kernel
theorem dX7_make_15 : decode cX7_make 15 = .ok (.invokestatic 22, 3) := by decide +kernel
theorem dX7_make_18 : decode cX7_make 18 = .ok (.return_, 1) := by decide +kernel
theorem dX7_isThere_0 : decode cX7_isThere 0 = .ok (.aload_n 0, 1) := by decide +kernel
theorem dX7_isThere_1 : decode cX7_isThere 1 = .ok (.getfield 9, 3) := by decide +kernel
theorem dX7_isThere_4 : decode cX7_isThere 4 = .ok (.iconst (-1), 1) := by decide +kernel
theorem dX7_isThere_5 : decode cX7_isThere 5 = .ok (.if_icmp .eq 7, 3) := by decide +kernel
theorem dX7_isThere_8 : decode cX7_isThere 8 = .ok (.iconst 1, 1) := by decide +kernel
theorem dX7_isThere_9 : decode cX7_isThere 9 = .ok (.goto 4, 3) := by decide +kernel
theorem dX7_isThere_12 : decode cX7_isThere 12 = .ok (.iconst 0, 1) := by decide +kernel
theorem dX7_isThere_13 : decode cX7_isThere 13 = .ok (.ireturn, 1) := by decide +kernel
theorem dX7_hasRange_0 : decode cX7_hasRange 0 = .ok (.iload_n 1, 1) := by decide +kernel
theorem dX7_hasRange_1 : decode cX7_hasRange 1 = .ok (.ifCond .lt 25, 3) := by decide +kernel
theorem dX7_hasRange_4 : decode cX7_hasRange 4 = .ok (.iload_n 2, 1) := by decide +kernel
theorem dX7_hasRange_5 : decode cX7_hasRange 5 = .ok (.ifCond .lt 21, 3) := by decide +kernel
theorem dX7_hasRange_8 : decode cX7_hasRange 8 = .ok (.iload_n 1, 1) := by decide +kernel
theorem dX7_hasRange_9 : decode cX7_hasRange 9 = .ok (.i2l, 1) := by decide +kernel
theorem dX7_hasRange_10 : decode cX7_hasRange 10 = .ok (.iload_n 2, 1) := by decide +kernel
theorem dX7_hasRange_11 : decode cX7_hasRange 11 = .ok (.i2l, 1) := by decide +kernel
theorem dX7_hasRange_12 : decode cX7_hasRange 12 = .ok (.ladd, 1) := by decide +kernel
theorem dX7_hasRange_13 : decode cX7_hasRange 13 = .ok (.aload_n 0, 1) := by decide +kernel
theorem dX7_hasRange_14 : decode cX7_hasRange 14 = .ok (.getfield 15, 3) := by decide +kernel
theorem dX7_hasRange_17 : decode cX7_hasRange 17 = .ok (.i2l, 1) := by decide +kernel
theorem dX7_hasRange_18 : decode cX7_hasRange 18 = .ok (.lcmp, 1) := by decide +kernel
theorem dX7_hasRange_19 : decode cX7_hasRange 19 = .ok (.ifCond .gt 7, 3) := by decide +kernel
theorem dX7_hasRange_22 : decode cX7_hasRange 22 = .ok (.iconst 1, 1) := by decide +kernel
theorem dX7_hasRange_23 : decode cX7_hasRange 23 = .ok (.goto 4, 3) := by decide +kernel
theorem dX7_hasRange_26 : decode cX7_hasRange 26 = .ok (.iconst 0, 1) := by decide +kernel
theorem dX7_hasRange_27 : decode cX7_hasRange 27 = .ok (.ireturn, 1) := by decide +kernel
set_option maxRecDepth 20000 in
theorem ggX7_tellsOf_X7_isBelow : GoodIn wsX7_tellsOf wsX7_isBelow := goodIn_r _ [6] (by decide +kernel) (by decide +kernel)
set_option maxRecDepth 20000 in
theorem gX7_tellsOf_X7_isBelow : GoodIn wsX7_tellsOf (va_wsS RX7 33 yX7_isBelow wsX7_isBelow) := goodIn_app (goodIn_of _ (by decide +kernel)) ggX7_tellsOf_X7_isBelow
theorem dX7_tellsOf_0 : decode cX7_tellsOf 0 = .ok (.aload_n 0, 1) := by decide +kernel
theorem dX7_tellsOf_1 : decode cX7_tellsOf 1 = .ok (.getfield 15, 3) := by decide +kernel
theorem dX7_tellsOf_4 : decode cX7_tellsOf 4 = .ok (.iconst 3, 1) := by decide +kernel
theorem dX7_tellsOf_5 : decode cX7_tellsOf 5 = .ok (.irem, 1) := by decide +kernel
theorem dX7_tellsOf_6 : decode cX7_tellsOf 6 = .ok (.ifCond .eq 5, 3) := by decide +kernel
theorem dX7_tellsOf_9 : decode cX7_tellsOf 9 = .ok (.iconst 0, 1) := by decide +kernel
theorem dX7_tellsOf_10 : decode cX7_tellsOf 10 = .ok (.ireturn, 1) := by decide +kernel
theorem dX7_tellsOf_11 : decode cX7_tellsOf 11 = .ok (.iconst 0, 1) := by decide +kernel
theorem dX7_tellsOf_12 : decode cX7_tellsOf 12 = .ok (.istore_n 2, 1) := by decide +kernel
theorem dX7_tellsOf_13 : decode cX7_tellsOf 13 = .ok (.iload_n 2, 1) := by decide +kernel
theorem dX7_tellsOf_14 : decode cX7_tellsOf 14 = .ok (.iconst 2, 1) := by decide +kernel
theorem dX7_tellsOf_15 : decode cX7_tellsOf 15 = .ok (.iadd, 1) := by decide +kernel
theorem dX7_tellsOf_16 : decode cX7_tellsOf 16 = .ok (.aload_n 0, 1) := by decide +kernel
theorem dX7_tellsOf_17 : decode cX7_tellsOf 17 = .ok (.getfield 15, 3) := by decide +kernel
theorem dX7_tellsOf_20 : decode cX7_tellsOf 20 = .ok (.if_icmp .ge 71, 3) := by decide +kernel
theorem dX7_tellsOf_23 : decode cX7_tellsOf 23 = .ok (.aload_n 0, 1) := by decide +kernel
theorem dX7_tellsOf_24 : decode cX7_tellsOf 24 = .ok (.getfield 18, 3) := by decide +kernel
theorem dX7_tellsOf_27 : decode cX7_tellsOf 27 = .ok (.iload_n 2, 1) := by decide +kernel
theorem dX7_tellsOf_28 : decode cX7_tellsOf 28 = .ok (.laload, 1) := by decide +kernel
theorem dX7_tellsOf_29 : decode cX7_tellsOf 29 = .ok (.aload_n 1, 1) := by decide +kernel
theorem dX7_tellsOf_30 : decode cX7_tellsOf 30 = .ok (.getfield 28, 3) := by decide +kernel
theorem dX7_tellsOf_33 : decode cX7_tellsOf 33 = .ok (.invokestatic 33, 3) := by decide +kernel
theorem dX7_tellsOf_36 : decode cX7_tellsOf 36 = .ok (.ifCond .eq 25, 3) := by decide +kernel
theorem dX7_tellsOf_39 : decode cX7_tellsOf 39 = .ok (.aload_n 0, 1) := by decide +kernel
theorem dX7_tellsOf_40 : decode cX7_tellsOf 40 = .ok (.getfield 18, 3) := by decide +kernel
theorem dX7_tellsOf_43 : decode cX7_tellsOf 43 = .ok (.iload_n 2, 1) := by decide +kernel
theorem dX7_tellsOf_44 : decode cX7_tellsOf 44 = .ok (.iconst 1, 1) := by decide +kernel
theorem dX7_tellsOf_45 : decode cX7_tellsOf 45 = .ok (.iadd, 1) := by decide +kernel
theorem dX7_tellsOf_46 : decode cX7_tellsOf 46 = .ok (.laload, 1) := by decide +kernel
theorem dX7_tellsOf_47 : decode cX7_tellsOf 47 = .ok (.aload_n 1, 1) := by decide +kernel
theorem dX7_tellsOf_48 : decode cX7_tellsOf 48 = .ok (.getfield 37, 3) := by decide +kernel
theorem dX7_tellsOf_51 : decode cX7_tellsOf 51 = .ok (.invokestatic 33, 3) := by decide +kernel
theorem dX7_tellsOf_54 : decode cX7_tellsOf 54 = .ok (.ifCond .eq 7, 3) := by decide +kernel
theorem dX7_tellsOf_57 : decode cX7_tellsOf 57 = .ok (.iconst 1, 1) := by decide +kernel
theorem dX7_tellsOf_58 : decode cX7_tellsOf 58 = .ok (.goto 4, 3) := by decide +kernel
theorem dX7_tellsOf_61 : decode cX7_tellsOf 61 = .ok (.iconst 0, 1) := by decide +kernel
theorem dX7_tellsOf_62 : decode cX7_tellsOf 62 = .ok (.istore_n 3, 1) := by decide +kernel
theorem dX7_tellsOf_63 : decode cX7_tellsOf 63 = .ok (.iload_n 3, 1) := by decide +kernel
theorem dX7_tellsOf_64 : decode cX7_tellsOf 64 = .ok (.ifCond .eq 19, 3) := by decide +kernel
theorem dX7_tellsOf_67 : decode cX7_tellsOf 67 = .ok (.aload_n 0, 1) := by decide +kernel
theorem dX7_tellsOf_68 : decode cX7_tellsOf 68 = .ok (.getfield 18, 3) := by decide +kernel
theorem dX7_tellsOf_71 : decode cX7_tellsOf 71 = .ok (.iload_n 2, 1) := by decide +kernel
theorem dX7_tellsOf_72 : decode cX7_tellsOf 72 = .ok (.iconst 2, 1) := by decide +kernel
theorem dX7_tellsOf_73 : decode cX7_tellsOf 73 = .ok (.iadd, 1) := by decide +kernel
theorem dX7_tellsOf_74 : decode cX7_tellsOf 74 = .ok (.laload, 1) := by decide +kernel
theorem dX7_tellsOf_75 : decode cX7_tellsOf 75 = .ok (.bipush 100, 2) := by decide +kernel
theorem dX7_tellsOf_77 : decode cX7_tellsOf 77 = .ok (.invokestatic 33, 3) := by decide +kernel
theorem dX7_tellsOf_80 : decode cX7_tellsOf 80 = .ok (.ifCond .ne 5, 3) := by decide +kernel
theorem dX7_tellsOf_83 : decode cX7_tellsOf 83 = .ok (.iconst 0, 1) := by decide +kernel
theorem dX7_tellsOf_84 : decode cX7_tellsOf 84 = .ok (.ireturn, 1) := by decide +kernel
theorem dX7_tellsOf_85 : decode cX7_tellsOf 85 = .ok (.iinc 2 3, 3) := by decide +kernel
theorem dX7_tellsOf_88 : decode cX7_tellsOf 88 = .ok (.goto (-75), 3) := by decide +kernel
theorem dX7_tellsOf_91 : decode cX7_tellsOf 91 = .ok (.iconst 1, 1) := by decide +kernel
theorem dX7_tellsOf_92 : decode cX7_tellsOf 92 = .ok (.ireturn, 1) := by decide +kernel
theorem dX7_isBelow_0 : decode cX7_isBelow 0 = .ok (.lload_n 0, 1) := by decide +kernel
theorem dX7_isBelow_1 : decode cX7_isBelow 1 = .ok (.lconst 0, 1) := by decide +kernel
theorem dX7_isBelow_2 : decode cX7_isBelow 2 = .ok (.lcmp, 1) := by decide +kernel
theorem dX7_isBelow_3 : decode cX7_isBelow 3 = .ok (.ifCond .lt 14, 3) := by decide +kernel
theorem dX7_isBelow_6 : decode cX7_isBelow 6 = .ok (.lload_n 0, 1) := by decide +kernel
theorem dX7_isBelow_7 : decode cX7_isBelow 7 = .ok (.iload_n 2, 1) := by decide +kernel
theorem dX7_isBelow_8 : decode cX7_isBelow 8 = .ok (.i2l, 1) := by decide +kernel
theorem dX7_isBelow_9 : decode cX7_isBelow 9 = .ok (.lcmp, 1) := by decide +kernel
theorem dX7_isBelow_10 : decode cX7_isBelow 10 = .ok (.ifCond .ge 7, 3) := by decide +kernel
theorem dX7_isBelow_13 : decode cX7_isBelow 13 = .ok (.iconst 1, 1) := by decide +kernel
theorem dX7_isBelow_14 : decode cX7_isBelow 14 = .ok (.goto 4, 3) := by decide +kernel
theorem dX7_isBelow_17 : decode cX7_isBelow 17 = .ok (.iconst 0, 1) := by decide +kernel
theorem dX7_isBelow_18 : decode cX7_isBelow 18 = .ok (.ireturn, 1) := by decide +kernel
set_option maxRecDepth 20000 in
theorem ggX7_isSeenIn_X9_cell : GoodIn wsX7_isSeenIn wsX9_cell := goodIn_r _ [5] (by decide +kernel) (by decide +kernel)
set_option maxRecDepth 20000 in
theorem gX7_isSeenIn_X9_cell_n40 : GoodIn wsX7_isSeenIn (wsX9_cell) := ggX7_isSeenIn_X9_cell
theorem dX7_isSeenIn_0 : decode cX7_isSeenIn 0 = .ok (.iconst 0, 1) := by decide +kernel
theorem dX7_isSeenIn_1 : decode cX7_isSeenIn 1 = .ok (.istore_n 2, 1) := by decide +kernel
theorem dX7_isSeenIn_2 : decode cX7_isSeenIn 2 = .ok (.iload_n 2, 1) := by decide +kernel
theorem dX7_isSeenIn_3 : decode cX7_isSeenIn 3 = .ok (.iconst 2, 1) := by decide +kernel
theorem dX7_isSeenIn_4 : decode cX7_isSeenIn 4 = .ok (.iadd, 1) := by decide +kernel
theorem dX7_isSeenIn_5 : decode cX7_isSeenIn 5 = .ok (.aload_n 0, 1) := by decide +kernel
theorem dX7_isSeenIn_6 : decode cX7_isSeenIn 6 = .ok (.getfield 15, 3) := by decide +kernel
theorem dX7_isSeenIn_9 : decode cX7_isSeenIn 9 = .ok (.if_icmp .ge 50, 3) := by decide +kernel
theorem dX7_isSeenIn_12 : decode cX7_isSeenIn 12 = .ok (.aload_n 0, 1) := by decide +kernel
theorem dX7_isSeenIn_13 : decode cX7_isSeenIn 13 = .ok (.getfield 18, 3) := by decide +kernel
theorem dX7_isSeenIn_16 : decode cX7_isSeenIn 16 = .ok (.iload_n 2, 1) := by decide +kernel
theorem dX7_isSeenIn_17 : decode cX7_isSeenIn 17 = .ok (.laload, 1) := by decide +kernel
theorem dX7_isSeenIn_18 : decode cX7_isSeenIn 18 = .ok (.l2i, 1) := by decide +kernel
theorem dX7_isSeenIn_19 : decode cX7_isSeenIn 19 = .ok (.aload_n 0, 1) := by decide +kernel
theorem dX7_isSeenIn_20 : decode cX7_isSeenIn 20 = .ok (.getfield 18, 3) := by decide +kernel
theorem dX7_isSeenIn_23 : decode cX7_isSeenIn 23 = .ok (.iload_n 2, 1) := by decide +kernel
theorem dX7_isSeenIn_24 : decode cX7_isSeenIn 24 = .ok (.iconst 1, 1) := by decide +kernel
theorem dX7_isSeenIn_25 : decode cX7_isSeenIn 25 = .ok (.iadd, 1) := by decide +kernel
theorem dX7_isSeenIn_26 : decode cX7_isSeenIn 26 = .ok (.laload, 1) := by decide +kernel
theorem dX7_isSeenIn_27 : decode cX7_isSeenIn 27 = .ok (.l2i, 1) := by decide +kernel
theorem dX7_isSeenIn_28 : decode cX7_isSeenIn 28 = .ok (.invokestatic 40, 3) := by decide +kernel
theorem dX7_isSeenIn_31 : decode cX7_isSeenIn 31 = .ok (.istore_n 3, 1) := by decide +kernel
theorem dX7_isSeenIn_32 : decode cX7_isSeenIn 32 = .ok (.aload_n 1, 1) := by decide +kernel
theorem dX7_isSeenIn_33 : decode cX7_isSeenIn 33 = .ok (.getfield 44, 3) := by decide +kernel
theorem dX7_isSeenIn_36 : decode cX7_isSeenIn 36 = .ok (.iload_n 3, 1) := by decide +kernel
theorem dX7_isSeenIn_37 : decode cX7_isSeenIn 37 = .ok (.iaload, 1) := by decide +kernel
theorem dX7_isSeenIn_38 : decode cX7_isSeenIn 38 = .ok (.i2l, 1) := by decide +kernel
theorem dX7_isSeenIn_39 : decode cX7_isSeenIn 39 = .ok (.aload_n 0, 1) := by decide +kernel
theorem dX7_isSeenIn_40 : decode cX7_isSeenIn 40 = .ok (.getfield 18, 3) := by decide +kernel
theorem dX7_isSeenIn_43 : decode cX7_isSeenIn 43 = .ok (.iload_n 2, 1) := by decide +kernel
theorem dX7_isSeenIn_44 : decode cX7_isSeenIn 44 = .ok (.iconst 2, 1) := by decide +kernel
theorem dX7_isSeenIn_45 : decode cX7_isSeenIn 45 = .ok (.iadd, 1) := by decide +kernel
theorem dX7_isSeenIn_46 : decode cX7_isSeenIn 46 = .ok (.laload, 1) := by decide +kernel
theorem dX7_isSeenIn_47 : decode cX7_isSeenIn 47 = .ok (.lcmp, 1) := by decide +kernel
theorem dX7_isSeenIn_48 : decode cX7_isSeenIn 48 = .ok (.ifCond .eq 5, 3) := by decide +kernel
theorem dX7_isSeenIn_51 : decode cX7_isSeenIn 51 = .ok (.iconst 0, 1) := by decide +kernel
theorem dX7_isSeenIn_52 : decode cX7_isSeenIn 52 = .ok (.ireturn, 1) := by decide +kernel
theorem dX7_isSeenIn_53 : decode cX7_isSeenIn 53 = .ok (.iinc 2 3, 3) := by decide +kernel
theorem dX7_isSeenIn_56 : decode cX7_isSeenIn 56 = .ok (.goto (-54), 3) := by decide +kernel
theorem dX7_isSeenIn_59 : decode cX7_isSeenIn 59 = .ok (.iconst 1, 1) := by decide +kernel
theorem dX7_isSeenIn_60 : decode cX7_isSeenIn 60 = .ok (.ireturn, 1) := by decide +kernel
theorem dX8_init_0 : decode cX8_init 0 = .ok (.aload_n 0, 1) := by decide +kernel
theorem dX8_init_1 : decode cX8_init 1 = .ok (.invokespecial 3, 3) := by decide +kernel
theorem dX8_init_4 : decode cX8_init 4 = .ok (.aload_n 0, 1) := by decide +kernel
theorem dX8_init_5 : decode cX8_init 5 = .ok (.sipush 900, 3) := by decide +kernel
theorem dX8_init_8 : decode cX8_init 8 = .ok (.newarray .byte, 2) := by decide +kernel
theorem dX8_init_10 : decode cX8_init 10 = .ok (.putfield 9, 3) := by decide +kernel
theorem dX8_init_13 : decode cX8_init 13 = .ok (.aload_n 0, 1) := by decide +kernel
theorem dX8_init_14 : decode cX8_init 14 = .ok (.iconst 0, 1) := by decide +kernel
theorem dX8_init_15 : decode cX8_init 15 = .ok (.putfield 15, 3) := by decide +kernel
theorem dX8_init_18 : decode cX8_init 18 = .ok (.return_, 1) := by decide +kernel
theorem dX8_put_0 : decode cX8_put 0 = .ok (.bipush 24, 2) := by decide +kernel
theorem dX8_put_2 : decode cX8_put 2 = .ok (.istore_n 2, 1) := by decide +kernel
theorem dX8_put_3 : decode cX8_put 3 = .ok (.iload_n 2, 1) := by decide +kernel
theorem dX8_put_4 : decode cX8_put 4 = .ok (.ifCond .lt 42, 3) := by decide +kernel
theorem dX8_put_7 : decode cX8_put 7 = .ok (.aload_n 0, 1) := by decide +kernel
theorem dX8_put_8 : decode cX8_put 8 = .ok (.getfield 15, 3) := by decide +kernel
theorem dX8_put_11 : decode cX8_put 11 = .ok (.sipush 900, 3) := by decide +kernel
theorem dX8_put_14 : decode cX8_put 14 = .ok (.if_icmp .ge 32, 3) := by decide +kernel
theorem dX8_put_17 : decode cX8_put 17 = .ok (.aload_n 0, 1) := by decide +kernel
theorem dX8_put_18 : decode cX8_put 18 = .ok (.getfield 9, 3) := by decide +kernel
theorem dX8_put_21 : decode cX8_put 21 = .ok (.aload_n 0, 1) := by decide +kernel
theorem dX8_put_22 : decode cX8_put 22 = .ok (.getfield 15, 3) := by decide +kernel
theorem dX8_put_25 : decode cX8_put 25 = .ok (.iload_n 1, 1) := by decide +kernel
theorem dX8_put_26 : decode cX8_put 26 = .ok (.iload_n 2, 1) := by decide +kernel
theorem dX8_put_27 : decode cX8_put 27 = .ok (.ishr, 1) := by decide +kernel
theorem dX8_put_28 : decode cX8_put 28 = .ok (.i2b, 1) := by decide +kernel
theorem dX8_put_29 : decode cX8_put 29 = .ok (.bastore, 1) := by decide +kernel
theorem dX8_put_30 : decode cX8_put 30 = .ok (.aload_n 0, 1) := by decide +kernel
theorem dX8_put_31 : decode cX8_put 31 = .ok (.dup, 1) := by decide +kernel
theorem dX8_put_32 : decode cX8_put 32 = .ok (.getfield 15, 3) := by decide +kernel
theorem dX8_put_35 : decode cX8_put 35 = .ok (.iconst 1, 1) := by decide +kernel
theorem dX8_put_36 : decode cX8_put 36 = .ok (.iadd, 1) := by decide +kernel
theorem dX8_put_37 : decode cX8_put 37 = .ok (.putfield 15, 3) := by decide +kernel
theorem dX8_put_40 : decode cX8_put 40 = .ok (.iinc 2 (-8), 3) := by decide +kernel
theorem dX8_put_43 : decode cX8_put 43 = .ok (.goto (-40), 3) := by decide +kernel
theorem dX8_put_46 : decode cX8_put 46 = .ok (.return_, 1) := by decide +kernel
theorem dX8_at_0 : decode cX8_at 0 = .ok (.iload_n 1, 1) := by decide +kernel
theorem dX8_at_1 : decode cX8_at 1 = .ok (.ifCond .lt 24, 3) := by decide +kernel
theorem dX8_at_4 : decode cX8_at 4 = .ok (.iload_n 1, 1) := by decide +kernel
theorem dX8_at_5 : decode cX8_at 5 = .ok (.aload_n 0, 1) := by decide +kernel
theorem dX8_at_6 : decode cX8_at 6 = .ok (.getfield 15, 3) := by decide +kernel
theorem dX8_at_9 : decode cX8_at 9 = .ok (.if_icmp .ge 16, 3) := by decide +kernel
theorem dX8_at_12 : decode cX8_at 12 = .ok (.aload_n 0, 1) := by decide +kernel
theorem dX8_at_13 : decode cX8_at 13 = .ok (.getfield 9, 3) := by decide +kernel
theorem dX8_at_16 : decode cX8_at 16 = .ok (.iload_n 1, 1) := by decide +kernel
theorem dX8_at_17 : decode cX8_at 17 = .ok (.baload, 1) := by decide +kernel
theorem dX8_at_18 : decode cX8_at 18 = .ok (.sipush 255, 3) := by decide +kernel
theorem dX8_at_21 : decode cX8_at 21 = .ok (.iand, 1) := by decide +kernel
theorem dX8_at_22 : decode cX8_at 22 = .ok (.goto 4, 3) := by decide +kernel
theorem dX8_at_25 : decode cX8_at 25 = .ok (.iconst (-1), 1) := by decide +kernel
theorem dX8_at_26 : decode cX8_at 26 = .ok (.ireturn, 1) := by decide +kernel
set_option maxRecDepth 20000 in
theorem ggX9_init_X8_init : GoodIn wsX9_init wsX8_init := goodIn_r _ [37, 38, 2, 3, 39, 40, 41, 129, 130] (by decide +kernel) (by decide +kernel)
set_option maxRecDepth 20000 in
theorem gX9_init_X8_init_n11 : GoodIn wsX9_init (wsX8_init) := ggX9_init_X8_init
set_option maxRecDepth 20000 in
theorem ggX9_init_X5_init : GoodIn wsX9_init wsX5_init := goodIn_r _ [43, 44, 2, 3, 45, 46, 47, 48, 49, 50, 51, 142, 143, 144, 145, 146, 147, 148] (by decide +kernel) (by decide +kernel)
set_option maxRecDepth 20000 in
theorem gX9_init_X5_init_n18 : GoodIn wsX9_init (wsX5_init) := ggX9_init_X5_init
set_option maxRecDepth 20000 in
theorem ggX9_init_X6_init : GoodIn wsX9_init wsX6_init := goodIn_r _ [53, 54, 2, 3, 55, 56, 57, 58, 59, 60, 61, 62, 63, 64, 65, 66, 67, 68, 69, 70, 71, 72, 73, 74, 75, 76, 77, 78, 79, 80, 81, 82, 83, 84, 85, 86, 87, 88, 89, 90, 91, 92, 93, 149, 150, 151, 152, 153, 154, 155, 156, 157, 158, 159, 160, 161, 162, 163, 164, 165, 166, 189, 190, 191, 192, 193, 194, 195, 196] (by decide +kernel) (by decide +kernel)
set_option maxRecDepth 20000 in
theorem gX9_init_X6_init_n27 : GoodIn wsX9_init (wsX6_init) := ggX9_init_X6_init
set_option maxRecDepth 20000 in
theorem ggX9_init_X1_init : GoodIn wsX9_init wsX1_init := goodIn_r _ [95, 96, 2, 3, 97, 98, 99, 60, 100, 101, 102, 103, 104, 105, 106, 107, 108, 167, 168, 169, 170, 171, 172, 173, 174, 175, 176, 177, 178] (by decide +kernel) (by decide +kernel)
set_option maxRecDepth 20000 in
theorem gX9_init_X1_init_n45 : GoodIn wsX9_init (wsX1_init) := ggX9_init_X1_init
set_option maxRecDepth 20000 in
theorem ggX9_init_X4_init : GoodIn wsX9_init wsX4_init := goodIn_r _ [110, 111, 2, 3, 60, 112, 113, 114, 179, 180, 181] (by decide +kernel) (by decide +kernel)
set_option maxRecDepth 20000 in
theorem gX9_init_X4_init_n57 : GoodIn wsX9_init (wsX4_init) := ggX9_init_X4_init
set_option maxRecDepth 20000 in
theorem ggX9_init_X2_init : GoodIn wsX9_init wsX2_init := goodIn_r _ [116, 117, 2, 3, 118, 119, 120, 60, 121, 182, 183, 184, 185] (by decide +kernel) (by decide +kernel)
set_option maxRecDepth 20000 in
theorem gX9_init_X2_init_n64 : GoodIn wsX9_init (wsX2_init) := ggX9_init_X2_init
set_option maxRecDepth 20000 in
theorem ggX9_init_X7_init : GoodIn wsX9_init wsX7_init := goodIn_r _ [123, 124, 2, 3, 125, 126, 127, 128, 186, 187, 188] (by decide +kernel) (by decide +kernel)
set_option maxRecDepth 20000 in
theorem gX9_init_X7_init_n75 : GoodIn wsX9_init (wsX7_init) := ggX9_init_X7_init
theorem dX9_init_0 : decode cX9_init 0 = .ok (.aload_n 0, 1) := by decide +kernel
theorem dX9_init_1 : decode cX9_init 1 = .ok (.invokespecial 3, 3) := by decide +kernel
theorem dX9_init_4 : decode cX9_init 4 = .ok (.aload_n 0, 1) := by decide +kernel
theorem dX9_init_5 : decode cX9_init 5 = .ok (.new 9, 3) := by decide +kernel
theorem dX9_init_8 : decode cX9_init 8 = .ok (.dup, 1) := by decide +kernel
theorem dX9_init_9 : decode cX9_init 9 = .ok (.invokespecial 11, 3) := by decide +kernel
theorem dX9_init_12 : decode cX9_init 12 = .ok (.putfield 12, 3) := by decide +kernel
theorem dX9_init_15 : decode cX9_init 15 = .ok (.aload_n 0, 1) := by decide +kernel
theorem dX9_init_16 : decode cX9_init 16 = .ok (.new 16, 3) := by decide +kernel
theorem dX9_init_19 : decode cX9_init 19 = .ok (.dup, 1) := by decide +kernel
theorem dX9_init_20 : decode cX9_init 20 = .ok (.aload_n 0, 1) := by decide +kernel
theorem dX9_init_21 : decode cX9_init 21 = .ok (.getfield 12, 3) := by decide +kernel
theorem dX9_init_24 : decode cX9_init 24 = .ok (.invokespecial 18, 3) := by decide +kernel
theorem dX9_init_27 : decode cX9_init 27 = .ok (.putfield 21, 3) := by decide +kernel
theorem dX9_init_30 : decode cX9_init 30 = .ok (.aload_n 0, 1) := by decide +kernel
theorem dX9_init_31 : decode cX9_init 31 = .ok (.new 25, 3) := by decide +kernel
theorem dX9_init_34 : decode cX9_init 34 = .ok (.dup, 1) := by decide +kernel
theorem dX9_init_35 : decode cX9_init 35 = .ok (.invokespecial 27, 3) := by decide +kernel
theorem dX9_init_38 : decode cX9_init 38 = .ok (.putfield 28, 3) := by decide +kernel
theorem dX9_init_41 : decode cX9_init 41 = .ok (.aload_n 0, 1) := by decide +kernel
theorem dX9_init_42 : decode cX9_init 42 = .ok (.new 25, 3) := by decide +kernel
theorem dX9_init_45 : decode cX9_init 45 = .ok (.dup, 1) := by decide +kernel
theorem dX9_init_46 : decode cX9_init 46 = .ok (.invokespecial 27, 3) := by decide +kernel
theorem dX9_init_49 : decode cX9_init 49 = .ok (.putfield 32, 3) := by decide +kernel
theorem dX9_init_52 : decode cX9_init 52 = .ok (.aload_n 0, 1) := by decide +kernel
theorem dX9_init_53 : decode cX9_init 53 = .ok (.iconst 3, 1) := by decide +kernel
theorem dX9_init_54 : decode cX9_init 54 = .ok (.anewarray 25, 3) := by decide +kernel
theorem dX9_init_57 : decode cX9_init 57 = .ok (.putfield 35, 3) := by decide +kernel
theorem dX9_init_60 : decode cX9_init 60 = .ok (.aload_n 0, 1) := by decide +kernel
theorem dX9_init_61 : decode cX9_init 61 = .ok (.iconst 0, 1) := by decide +kernel
theorem dX9_init_62 : decode cX9_init 62 = .ok (.putfield 39, 3) := by decide +kernel
theorem dX9_init_65 : decode cX9_init 65 = .ok (.aload_n 0, 1) := by decide +kernel
theorem dX9_init_66 : decode cX9_init 66 = .ok (.new 43, 3) := by decide +kernel
theorem dX9_init_69 : decode cX9_init 69 = .ok (.dup, 1) := by decide +kernel
theorem dX9_init_70 : decode cX9_init 70 = .ok (.aload_n 0, 1) := by decide +kernel
theorem dX9_init_71 : decode cX9_init 71 = .ok (.getfield 28, 3) := by decide +kernel
theorem dX9_init_74 : decode cX9_init 74 = .ok (.invokespecial 45, 3) := by decide +kernel
theorem dX9_init_77 : decode cX9_init 77 = .ok (.putfield 48, 3) := by decide +kernel
theorem dX9_init_80 : decode cX9_init 80 = .ok (.aload_n 0, 1) := by decide +kernel
theorem dX9_init_81 : decode cX9_init 81 = .ok (.new 43, 3) := by decide +kernel
theorem dX9_init_84 : decode cX9_init 84 = .ok (.dup, 1) := by decide +kernel
theorem dX9_init_85 : decode cX9_init 85 = .ok (.aload_n 0, 1) := by decide +kernel
theorem dX9_init_86 : decode cX9_init 86 = .ok (.getfield 28, 3) := by decide +kernel
theorem dX9_init_89 : decode cX9_init 89 = .ok (.invokespecial 45, 3) := by decide +kernel
theorem dX9_init_92 : decode cX9_init 92 = .ok (.putfield 52, 3) := by decide +kernel
theorem dX9_init_95 : decode cX9_init 95 = .ok (.aload_n 0, 1) := by decide +kernel
theorem dX9_init_96 : decode cX9_init 96 = .ok (.new 55, 3) := by decide +kernel
theorem dX9_init_99 : decode cX9_init 99 = .ok (.dup, 1) := by decide +kernel
theorem dX9_init_100 : decode cX9_init 100 = .ok (.invokespecial 57, 3) := by decide +kernel
theorem dX9_init_103 : decode cX9_init 103 = .ok (.putfield 58, 3) := by decide +kernel
theorem dX9_init_106 : decode cX9_init 106 = .ok (.aload_n 0, 1) := by decide +kernel
theorem dX9_init_107 : decode cX9_init 107 = .ok (.new 62, 3) := by decide +kernel
theorem dX9_init_110 : decode cX9_init 110 = .ok (.dup, 1) := by decide +kernel
theorem dX9_init_111 : decode cX9_init 111 = .ok (.invokespecial 64, 3) := by decide +kernel
theorem dX9_init_114 : decode cX9_init 114 = .ok (.putfield 65, 3) := by decide +kernel
theorem dX9_init_117 : decode cX9_init 117 = .ok (.aload_n 0, 1) := by decide +kernel
theorem dX9_init_118 : decode cX9_init 118 = .ok (.iconst 4, 1) := by decide +kernel
theorem dX9_init_119 : decode cX9_init 119 = .ok (.anewarray 69, 3) := by decide +kernel
theorem dX9_init_122 : decode cX9_init 122 = .ok (.putfield 71, 3) := by decide +kernel
theorem dX9_init_125 : decode cX9_init 125 = .ok (.iconst 0, 1) := by decide +kernel
theorem dX9_init_126 : decode cX9_init 126 = .ok (.istore_n 1, 1) := by decide +kernel
theorem dX9_init_127 : decode cX9_init 127 = .ok (.iload_n 1, 1) := by decide +kernel
theorem dX9_init_128 : decode cX9_init 128 = .ok (.iconst 3, 1) := by decide +kernel
theorem dX9_init_129 : decode cX9_init 129 = .ok (.if_icmp .ge 22, 3) := by decide +kernel
theorem dX9_init_132 : decode cX9_init 132 = .ok (.aload_n 0, 1) := by decide +kernel
theorem dX9_init_133 : decode cX9_init 133 = .ok (.getfield 35, 3) := by decide +kernel
theorem dX9_init_136 : decode cX9_init 136 = .ok (.iload_n 1, 1) := by decide +kernel
theorem dX9_init_137 : decode cX9_init 137 = .ok (.new 25, 3) := by decide +kernel
theorem dX9_init_140 : decode cX9_init 140 = .ok (.dup, 1) := by decide +kernel
theorem dX9_init_141 : decode cX9_init 141 = .ok (.invokespecial 27, 3) := by decide +kernel
theorem dX9_init_144 : decode cX9_init 144 = .ok (.aastore, 1) := by decide +kernel
theorem dX9_init_145 : decode cX9_init 145 = .ok (.iinc 1 1, 3) := by decide +kernel
theorem dX9_init_148 : decode cX9_init 148 = .ok (.goto (-21), 3) := by decide +kernel
theorem dX9_init_151 : decode cX9_init 151 = .ok (.iconst 0, 1) := by decide +kernel
theorem dX9_init_152 : decode cX9_init 152 = .ok (.istore_n 1, 1) := by decide +kernel
theorem dX9_init_153 : decode cX9_init 153 = .ok (.iload_n 1, 1) := by decide +kernel
theorem dX9_init_154 : decode cX9_init 154 = .ok (.iconst 4, 1) := by decide +kernel
theorem dX9_init_155 : decode cX9_init 155 = .ok (.if_icmp .ge 22, 3) := by decide +kernel
theorem dX9_init_158 : decode cX9_init 158 = .ok (.aload_n 0, 1) := by decide +kernel
theorem dX9_init_159 : decode cX9_init 159 = .ok (.getfield 71, 3) := by decide +kernel
theorem dX9_init_162 : decode cX9_init 162 = .ok (.iload_n 1, 1) := by decide +kernel
theorem dX9_init_163 : decode cX9_init 163 = .ok (.new 69, 3) := by decide +kernel
theorem dX9_init_166 : decode cX9_init 166 = .ok (.dup, 1) := by decide +kernel
theorem dX9_init_167 : decode cX9_init 167 = .ok (.invokespecial 75, 3) := by decide +kernel
theorem dX9_init_170 : decode cX9_init 170 = .ok (.aastore, 1) := by decide +kernel
theorem dX9_init_171 : decode cX9_init 171 = .ok (.iinc 1 1, 3) := by decide +kernel
theorem dX9_init_174 : decode cX9_init 174 = .ok (.goto (-21), 3) := by decide +kernel
theorem dX9_init_177 : decode cX9_init 177 = .ok (.return_, 1) := by decide +kernel
set_option maxRecDepth 20000 in
theorem ggX9_feed_X8_put : GoodIn wsX9_feed wsX8_put := goodIn_r _ [5, 6, 7, 19, 20] (by decide +kernel) (by decide +kernel)
set_option maxRecDepth 20000 in
theorem gX9_feed_X8_put_n79 : GoodIn wsX9_feed (wsX8_put) := ggX9_feed_X8_put
theorem dX9_feed_0 : decode cX9_feed 0 = .ok (.aload_n 0, 1) := by decide +kernel
theorem dX9_feed_1 : decode cX9_feed 1 = .ok (.getfield 12, 3) := by decide +kernel
theorem dX9_feed_4 : decode cX9_feed 4 = .ok (.getfield 76, 3) := by decide +kernel
theorem dX9_feed_7 : decode cX9_feed 7 = .ok (.bipush 20, 2) := by decide +kernel
theorem dX9_feed_9 : decode cX9_feed 9 = .ok (.iadd, 1) := by decide +kernel
theorem dX9_feed_10 : decode cX9_feed 10 = .ok (.sipush 900, 3) := by decide +kernel
theorem dX9_feed_13 : decode cX9_feed 13 = .ok (.if_icmp .le 5, 3) := by decide +kernel
theorem dX9_feed_16 : decode cX9_feed 16 = .ok (.iconst (-1), 1) := by decide +kernel
theorem dX9_feed_17 : decode cX9_feed 17 = .ok (.ireturn, 1) := by decide +kernel
theorem dX9_feed_18 : decode cX9_feed 18 = .ok (.aload_n 0, 1) := by decide +kernel
theorem dX9_feed_19 : decode cX9_feed 19 = .ok (.getfield 12, 3) := by decide +kernel
theorem dX9_feed_22 : decode cX9_feed 22 = .ok (.iload_n 1, 1) := by decide +kernel
theorem dX9_feed_23 : decode cX9_feed 23 = .ok (.invokevirtual 79, 3) := by decide +kernel
theorem dX9_feed_26 : decode cX9_feed 26 = .ok (.aload_n 0, 1) := by decide +kernel
theorem dX9_feed_27 : decode cX9_feed 27 = .ok (.getfield 12, 3) := by decide +kernel
theorem dX9_feed_30 : decode cX9_feed 30 = .ok (.iload_n 2, 1) := by decide +kernel
theorem dX9_feed_31 : decode cX9_feed 31 = .ok (.invokevirtual 79, 3) := by decide +kernel
theorem dX9_feed_34 : decode cX9_feed 34 = .ok (.aload_n 0, 1) := by decide +kernel
theorem dX9_feed_35 : decode cX9_feed 35 = .ok (.getfield 12, 3) := by decide +kernel
theorem dX9_feed_38 : decode cX9_feed 38 = .ok (.iload_n 3, 1) := by decide +kernel
theorem dX9_feed_39 : decode cX9_feed 39 = .ok (.invokevirtual 79, 3) := by decide +kernel
theorem dX9_feed_42 : decode cX9_feed 42 = .ok (.aload_n 0, 1) := by decide +kernel
theorem dX9_feed_43 : decode cX9_feed 43 = .ok (.getfield 12, 3) := by decide +kernel
theorem dX9_feed_46 : decode cX9_feed 46 = .ok (.iload 4, 2) := by decide +kernel
theorem dX9_feed_48 : decode cX9_feed 48 = .ok (.invokevirtual 79, 3) := by decide +kernel
theorem dX9_feed_51 : decode cX9_feed 51 = .ok (.aload_n 0, 1) := by decide +kernel
theorem dX9_feed_52 : decode cX9_feed 52 = .ok (.getfield 12, 3) := by decide +kernel
theorem dX9_feed_55 : decode cX9_feed 55 = .ok (.iload 5, 2) := by decide +kernel
theorem dX9_feed_57 : decode cX9_feed 57 = .ok (.invokevirtual 79, 3) := by decide +kernel
theorem dX9_feed_60 : decode cX9_feed 60 = .ok (.aload_n 0, 1) := by decide +kernel
theorem dX9_feed_61 : decode cX9_feed 61 = .ok (.getfield 12, 3) := by decide +kernel
theorem dX9_feed_64 : decode cX9_feed 64 = .ok (.getfield 76, 3) := by decide +kernel
theorem dX9_feed_67 : decode cX9_feed 67 = .ok (.ireturn, 1) := by decide +kernel
theorem dX9_end_0 : decode cX9_end 0 = .ok (.iload_n 1, 1) := by decide +kernel
theorem dX9_end_1 : decode cX9_end 1 = .ok (.ifCond .lt 14, 3) := by decide +kernel
theorem dX9_end_4 : decode cX9_end 4 = .ok (.iload_n 1, 1) := by decide +kernel
theorem dX9_end_5 : decode cX9_end 5 = .ok (.aload_n 0, 1) := by decide +kernel
theorem dX9_end_6 : decode cX9_end 6 = .ok (.getfield 12, 3) := by decide +kernel
theorem dX9_end_9 : decode cX9_end 9 = .ok (.getfield 76, 3) := by decide +kernel
theorem dX9_end_12 : decode cX9_end 12 = .ok (.if_icmp .le 5, 3) := by decide +kernel
theorem dX9_end_15 : decode cX9_end 15 = .ok (.iconst (-1), 1) := by decide +kernel
theorem dX9_end_16 : decode cX9_end 16 = .ok (.ireturn, 1) := by decide +kernel
theorem dX9_end_17 : decode cX9_end 17 = .ok (.aload_n 0, 1) := by decide +kernel
theorem dX9_end_18 : decode cX9_end 18 = .ok (.getfield 12, 3) := by decide +kernel
theorem dX9_end_21 : decode cX9_end 21 = .ok (.iload_n 1, 1) := by decide +kernel
theorem dX9_end_22 : decode cX9_end 22 = .ok (.putfield 76, 3) := by decide +kernel
theorem dX9_end_25 : decode cX9_end 25 = .ok (.iload_n 1, 1) := by decide +kernel
theorem dX9_end_26 : decode cX9_end 26 = .ok (.ireturn, 1) := by decide +kernel
set_option maxRecDepth 20000 in
theorem ggX9_dukedom_X5_read : GoodIn wsX9_dukedom wsX5_read := goodIn_r _ [8, 9, 10, 11, 12, 13, 14, 15, 16, 17, 18, 19, 20, 21, 22, 23, 24, 25, 26, 27, 28, 29, 30, 31, 32, 33, 34, 35, 6, 36, 37, 38, 39, 40, 41, 42, 43, 44, 45, 46, 47, 48, 49, 50, 51, 52, 53, 54, 55, 56, 57, 58, 59, 60, 61, 62, 63, 64, 65, 66, 67, 68, 69, 70, 71, 72, 73, 74, 75, 76, 77, 78, 79, 80, 81, 82, 83, 84, 85, 86, 87, 88, 89, 90, 91, 92, 93, 94, 95, 96, 97, 98, 99, 100, 101, 102, 103, 104, 105, 106, 107, 108, 109, 110, 111, 112, 113, 114, 115, 116, 117, 118, 119, 120, 121, 122, 123, 124, 125, 126, 127, 128, 129, 130, 131, 132, 133, 134, 135, 136, 137, 138, 139, 140, 141, 142, 143, 144, 145, 146, 147, 148, 149, 150, 151, 152, 248, 249, 250, 251, 252, 253, 254, 257, 258, 259, 260, 261, 262, 263, 264, 265, 266, 267, 268, 269, 270, 271, 272, 273, 274, 275, 276, 277, 278, 279, 280, 281, 282, 255, 256] (by decide +kernel) (by decide +kernel)
set_option maxRecDepth 20000 in
theorem gX9_dukedom_X5_read_n83 : GoodIn wsX9_dukedom (wsX5_read) := ggX9_dukedom_X5_read
set_option maxRecDepth 20000 in
theorem ggX9_dukedom_X9_settle : GoodIn wsX9_dukedom wsX9_settle := goodIn_r _ [157, 158, 4, 159, 160, 161, 162, 163, 164, 165, 166, 167, 168, 169, 170, 171, 172, 173, 174, 14, 175, 176, 22, 177, 178, 179, 180, 181, 182, 183, 184, 185, 186, 187, 21, 188, 189, 190, 28, 191, 30, 31, 32, 192, 193, 194, 195, 196, 197, 198, 199, 200, 201, 202, 203, 204, 205, 40, 41, 42, 206, 207, 208, 209, 210, 211, 156, 212, 213, 214, 215, 216, 217, 218, 219, 220, 221, 222, 223, 224, 225, 226, 227, 228, 229, 230, 231, 232, 18, 233, 234, 235, 236, 237, 238, 239, 240, 241, 242, 243, 244, 245, 246, 247, 283, 284, 285, 286, 287, 288, 289, 290, 291, 292, 293, 294, 257, 258, 259, 260, 261, 262, 263, 264, 265, 266, 267, 268, 269, 270, 271, 272, 273, 274, 279, 280, 281, 282, 275, 276, 277, 278] (by decide +kernel) (by decide +kernel)
set_option maxRecDepth 20000 in
theorem gX9_dukedom_X9_settle : GoodIn wsX9_dukedom (wsV RX9 89 RX9 yX9_settle wsX9_settle) := goodIn_app (goodIn_of _ (by decide +kernel)) ggX9_dukedom_X9_settle
theorem dX9_dukedom_0 : decode cX9_dukedom 0 = .ok (.aload_n 0, 1) := by decide +kernel
theorem dX9_dukedom_1 : decode cX9_dukedom 1 = .ok (.getfield 21, 3) := by decide +kernel
theorem dX9_dukedom_4 : decode cX9_dukedom 4 = .ok (.aload_n 0, 1) := by decide +kernel
theorem dX9_dukedom_5 : decode cX9_dukedom 5 = .ok (.getfield 32, 3) := by decide +kernel
theorem dX9_dukedom_8 : decode cX9_dukedom 8 = .ok (.invokevirtual 83, 3) := by decide +kernel
theorem dX9_dukedom_11 : decode cX9_dukedom 11 = .ok (.aload_n 0, 1) := by decide +kernel
theorem dX9_dukedom_12 : decode cX9_dukedom 12 = .ok (.getfield 21, 3) := by decide +kernel
theorem dX9_dukedom_15 : decode cX9_dukedom 15 = .ok (.getfield 86, 3) := by decide +kernel
theorem dX9_dukedom_18 : decode cX9_dukedom 18 = .ok (.ifCond .eq 6, 3) := by decide +kernel
theorem dX9_dukedom_21 : decode cX9_dukedom 21 = .ok (.bipush (-4), 2) := by decide +kernel
theorem dX9_dukedom_23 : decode cX9_dukedom 23 = .ok (.ireturn, 1) := by decide +kernel
theorem dX9_dukedom_24 : decode cX9_dukedom 24 = .ok (.aload_n 0, 1) := by decide +kernel
theorem dX9_dukedom_25 : decode cX9_dukedom 25 = .ok (.getfield 12, 3) := by decide +kernel
theorem dX9_dukedom_28 : decode cX9_dukedom 28 = .ok (.iconst 0, 1) := by decide +kernel
theorem dX9_dukedom_29 : decode cX9_dukedom 29 = .ok (.putfield 76, 3) := by decide +kernel
theorem dX9_dukedom_32 : decode cX9_dukedom 32 = .ok (.aload_n 0, 1) := by decide +kernel
theorem dX9_dukedom_33 : decode cX9_dukedom 33 = .ok (.getfield 28, 3) := by decide +kernel
theorem dX9_dukedom_36 : decode cX9_dukedom 36 = .ok (.astore_n 1, 1) := by decide +kernel
theorem dX9_dukedom_37 : decode cX9_dukedom 37 = .ok (.aload_n 0, 1) := by decide +kernel
theorem dX9_dukedom_38 : decode cX9_dukedom 38 = .ok (.aload_n 0, 1) := by decide +kernel
theorem dX9_dukedom_39 : decode cX9_dukedom 39 = .ok (.getfield 32, 3) := by decide +kernel
theorem dX9_dukedom_42 : decode cX9_dukedom 42 = .ok (.putfield 28, 3) := by decide +kernel
theorem dX9_dukedom_45 : decode cX9_dukedom 45 = .ok (.aload_n 0, 1) := by decide +kernel
theorem dX9_dukedom_46 : decode cX9_dukedom 46 = .ok (.aload_n 1, 1) := by decide +kernel
theorem dX9_dukedom_47 : decode cX9_dukedom 47 = .ok (.putfield 32, 3) := by decide +kernel
theorem dX9_dukedom_50 : decode cX9_dukedom 50 = .ok (.aload_n 0, 1) := by decide +kernel
theorem dX9_dukedom_51 : decode cX9_dukedom 51 = .ok (.invokevirtual 89, 3) := by decide +kernel
theorem dX9_dukedom_54 : decode cX9_dukedom 54 = .ok (.aload_n 0, 1) := by decide +kernel
theorem dX9_dukedom_55 : decode cX9_dukedom 55 = .ok (.getfield 28, 3) := by decide +kernel
theorem dX9_dukedom_58 : decode cX9_dukedom 58 = .ok (.getfield 92, 3) := by decide +kernel
theorem dX9_dukedom_61 : decode cX9_dukedom 61 = .ok (.ireturn, 1) := by decide +kernel
theorem dX9_fault_0 : decode cX9_fault 0 = .ok (.iload_n 1, 1) := by decide +kernel
theorem dX9_fault_1 : decode cX9_fault 1 = .ok (.ifCond .ne 11, 3) := by decide +kernel
theorem dX9_fault_4 : decode cX9_fault 4 = .ok (.aload_n 0, 1) := by decide +kernel
theorem dX9_fault_5 : decode cX9_fault 5 = .ok (.getfield 21, 3) := by decide +kernel
theorem dX9_fault_8 : decode cX9_fault 8 = .ok (.getfield 86, 3) := by decide +kernel
theorem dX9_fault_11 : decode cX9_fault 11 = .ok (.ireturn, 1) := by decide +kernel
theorem dX9_fault_12 : decode cX9_fault 12 = .ok (.iload_n 1, 1) := by decide +kernel
theorem dX9_fault_13 : decode cX9_fault 13 = .ok (.iconst 1, 1) := by decide +kernel
theorem dX9_fault_14 : decode cX9_fault 14 = .ok (.if_icmp .ne 13, 3) := by decide +kernel
theorem dX9_fault_17 : decode cX9_fault 17 = .ok (.aload_n 0, 1) := by decide +kernel
theorem dX9_fault_18 : decode cX9_fault 18 = .ok (.getfield 21, 3) := by decide +kernel
theorem dX9_fault_21 : decode cX9_fault 21 = .ok (.getfield 95, 3) := by decide +kernel
theorem dX9_fault_24 : decode cX9_fault 24 = .ok (.goto 4, 3) := by decide +kernel
theorem dX9_fault_27 : decode cX9_fault 27 = .ok (.iconst (-1), 1) := by decide +kernel
theorem dX9_fault_28 : decode cX9_fault 28 = .ok (.ireturn, 1) := by decide +kernel
set_option maxRecDepth 20000 in
theorem ggX9_rank_X6_hasRank : GoodIn wsX9_rank wsX6_hasRank := goodIn_r _ [5, 6, 18, 19, 20, 21, 22, 23, 24, 25, 26, 27, 28, 29, 30, 31, 32, 33, 34, 35] (by decide +kernel) (by decide +kernel)
set_option maxRecDepth 20000 in
theorem gX9_rank_X6_hasRank_n98 : GoodIn wsX9_rank (wsX6_hasRank) := ggX9_rank_X6_hasRank
theorem dX9_rank_0 : decode cX9_rank 0 = .ok (.aload_n 0, 1) := by decide +kernel
theorem dX9_rank_1 : decode cX9_rank 1 = .ok (.getfield 28, 3) := by decide +kernel
theorem dX9_rank_4 : decode cX9_rank 4 = .ok (.iload_n 1, 1) := by decide +kernel
theorem dX9_rank_5 : decode cX9_rank 5 = .ok (.invokevirtual 98, 3) := by decide +kernel
theorem dX9_rank_8 : decode cX9_rank 8 = .ok (.ifCond .ne 6, 3) := by decide +kernel
theorem dX9_rank_11 : decode cX9_rank 11 = .ok (.bipush (-2), 2) := by decide +kernel
theorem dX9_rank_13 : decode cX9_rank 13 = .ok (.ireturn, 1) := by decide +kernel
theorem dX9_rank_14 : decode cX9_rank 14 = .ok (.iload_n 2, 1) := by decide +kernel
theorem dX9_rank_15 : decode cX9_rank 15 = .ok (.tableswitch 69 0 3 #[29, 39, 49, 59], 29) := by decide +kernel
theorem dX9_rank_44 : decode cX9_rank 44 = .ok (.aload_n 0, 1) := by decide +kernel
theorem dX9_rank_45 : decode cX9_rank 45 = .ok (.getfield 28, 3) := by decide +kernel
theorem dX9_rank_48 : decode cX9_rank 48 = .ok (.getfield 102, 3) := by decide +kernel
theorem dX9_rank_51 : decode cX9_rank 51 = .ok (.iload_n 1, 1) := by decide +kernel
theorem dX9_rank_52 : decode cX9_rank 52 = .ok (.iaload, 1) := by decide +kernel
theorem dX9_rank_53 : decode cX9_rank 53 = .ok (.ireturn, 1) := by decide +kernel
theorem dX9_rank_54 : decode cX9_rank 54 = .ok (.aload_n 0, 1) := by decide +kernel
theorem dX9_rank_55 : decode cX9_rank 55 = .ok (.getfield 28, 3) := by decide +kernel
theorem dX9_rank_58 : decode cX9_rank 58 = .ok (.getfield 106, 3) := by decide +kernel
theorem dX9_rank_61 : decode cX9_rank 61 = .ok (.iload_n 1, 1) := by decide +kernel
theorem dX9_rank_62 : decode cX9_rank 62 = .ok (.iaload, 1) := by decide +kernel
theorem dX9_rank_63 : decode cX9_rank 63 = .ok (.ireturn, 1) := by decide +kernel
theorem dX9_rank_64 : decode cX9_rank 64 = .ok (.aload_n 0, 1) := by decide +kernel
theorem dX9_rank_65 : decode cX9_rank 65 = .ok (.getfield 28, 3) := by decide +kernel
theorem dX9_rank_68 : decode cX9_rank 68 = .ok (.getfield 109, 3) := by decide +kernel
theorem dX9_rank_71 : decode cX9_rank 71 = .ok (.iload_n 1, 1) := by decide +kernel
theorem dX9_rank_72 : decode cX9_rank 72 = .ok (.iaload, 1) := by decide +kernel
theorem dX9_rank_73 : decode cX9_rank 73 = .ok (.ireturn, 1) := by decide +kernel
theorem dX9_rank_74 : decode cX9_rank 74 = .ok (.aload_n 0, 1) := by decide +kernel
theorem dX9_rank_75 : decode cX9_rank 75 = .ok (.getfield 28, 3) := by decide +kernel
theorem dX9_rank_78 : decode cX9_rank 78 = .ok (.getfield 112, 3) := by decide +kernel
theorem dX9_rank_81 : decode cX9_rank 81 = .ok (.iload_n 1, 1) := by decide +kernel
theorem dX9_rank_82 : decode cX9_rank 82 = .ok (.iaload, 1) := by decide +kernel
theorem dX9_rank_83 : decode cX9_rank 83 = .ok (.ireturn, 1) := by decide +kernel
theorem dX9_rank_84 : decode cX9_rank 84 = .ok (.bipush (-2), 2) := by decide +kernel
theorem dX9_rank_86 : decode cX9_rank 86 = .ok (.ireturn, 1) := by decide +kernel
set_option maxRecDepth 20000 in
theorem ggX9_plank_X6_hasPlank : GoodIn wsX9_plank wsX6_hasPlank := goodIn_r _ [5, 6, 18, 19, 20, 21, 22, 23, 24, 25, 26, 27, 28, 29, 30, 31, 32, 33, 34, 35] (by decide +kernel) (by decide +kernel)
set_option maxRecDepth 20000 in
theorem gX9_plank_X6_hasPlank_n115 : GoodIn wsX9_plank (wsX6_hasPlank) := ggX9_plank_X6_hasPlank
theorem dX9_plank_0 : decode cX9_plank 0 = .ok (.aload_n 0, 1) := by decide +kernel
theorem dX9_plank_1 : decode cX9_plank 1 = .ok (.getfield 28, 3) := by decide +kernel
theorem dX9_plank_4 : decode cX9_plank 4 = .ok (.iload_n 1, 1) := by decide +kernel
theorem dX9_plank_5 : decode cX9_plank 5 = .ok (.invokevirtual 115, 3) := by decide +kernel
theorem dX9_plank_8 : decode cX9_plank 8 = .ok (.ifCond .ne 6, 3) := by decide +kernel
theorem dX9_plank_11 : decode cX9_plank 11 = .ok (.bipush (-2), 2) := by decide +kernel
theorem dX9_plank_13 : decode cX9_plank 13 = .ok (.ireturn, 1) := by decide +kernel
theorem dX9_plank_14 : decode cX9_plank 14 = .ok (.iload_n 2, 1) := by decide +kernel
theorem dX9_plank_15 : decode cX9_plank 15 = .ok (.lookupswitch 45 #[(0, 25), (1, 35)], 25) := by decide +kernel
theorem dX9_plank_40 : decode cX9_plank 40 = .ok (.aload_n 0, 1) := by decide +kernel
theorem dX9_plank_41 : decode cX9_plank 41 = .ok (.getfield 28, 3) := by decide +kernel
theorem dX9_plank_44 : decode cX9_plank 44 = .ok (.getfield 118, 3) := by decide +kernel
theorem dX9_plank_47 : decode cX9_plank 47 = .ok (.iload_n 1, 1) := by decide +kernel
theorem dX9_plank_48 : decode cX9_plank 48 = .ok (.iaload, 1) := by decide +kernel
theorem dX9_plank_49 : decode cX9_plank 49 = .ok (.ireturn, 1) := by decide +kernel
theorem dX9_plank_50 : decode cX9_plank 50 = .ok (.aload_n 0, 1) := by decide +kernel
theorem dX9_plank_51 : decode cX9_plank 51 = .ok (.getfield 28, 3) := by decide +kernel
theorem dX9_plank_54 : decode cX9_plank 54 = .ok (.getfield 121, 3) := by decide +kernel
theorem dX9_plank_57 : decode cX9_plank 57 = .ok (.iload_n 1, 1) := by decide +kernel
theorem dX9_plank_58 : decode cX9_plank 58 = .ok (.iaload, 1) := by decide +kernel
theorem dX9_plank_59 : decode cX9_plank 59 = .ok (.ireturn, 1) := by decide +kernel
theorem dX9_plank_60 : decode cX9_plank 60 = .ok (.bipush (-2), 2) := by decide +kernel
theorem dX9_plank_62 : decode cX9_plank 62 = .ok (.ireturn, 1) := by decide +kernel
set_option maxRecDepth 20000 in
theorem ggX9_invite_X3_has : GoodIn wsX9_invite wsX3_has := goodIn_r _ [5, 6, 36, 37, 38, 39] (by decide +kernel) (by decide +kernel)
set_option maxRecDepth 20000 in
theorem gX9_invite_X3_has_n128 : GoodIn wsX9_invite (wsX3_has) := ggX9_invite_X3_has
theorem dX9_invite_0 : decode cX9_invite 0 = .ok (.aload_n 0, 1) := by decide +kernel
theorem dX9_invite_1 : decode cX9_invite 1 = .ok (.getfield 28, 3) := by decide +kernel
theorem dX9_invite_4 : decode cX9_invite 4 = .ok (.getfield 124, 3) := by decide +kernel
theorem dX9_invite_7 : decode cX9_invite 7 = .ok (.astore_n 3, 1) := by decide +kernel
theorem dX9_invite_8 : decode cX9_invite 8 = .ok (.aload_n 3, 1) := by decide +kernel
theorem dX9_invite_9 : decode cX9_invite 9 = .ok (.iload_n 1, 1) := by decide +kernel
theorem dX9_invite_10 : decode cX9_invite 10 = .ok (.invokevirtual 128, 3) := by decide +kernel
theorem dX9_invite_13 : decode cX9_invite 13 = .ok (.ifCond .ne 6, 3) := by decide +kernel
theorem dX9_invite_16 : decode cX9_invite 16 = .ok (.bipush (-2), 2) := by decide +kernel
theorem dX9_invite_18 : decode cX9_invite 18 = .ok (.ireturn, 1) := by decide +kernel
theorem dX9_invite_19 : decode cX9_invite 19 = .ok (.iload_n 2, 1) := by decide +kernel
theorem dX9_invite_20 : decode cX9_invite 20 = .ok (.tableswitch 49 0 2 #[28, 35, 42], 28) := by decide +kernel
theorem dX9_invite_48 : decode cX9_invite 48 = .ok (.aload_n 3, 1) := by decide +kernel
theorem dX9_invite_49 : decode cX9_invite 49 = .ok (.getfield 133, 3) := by decide +kernel
theorem dX9_invite_52 : decode cX9_invite 52 = .ok (.iload_n 1, 1) := by decide +kernel
theorem dX9_invite_53 : decode cX9_invite 53 = .ok (.iaload, 1) := by decide +kernel
theorem dX9_invite_54 : decode cX9_invite 54 = .ok (.ireturn, 1) := by decide +kernel
theorem dX9_invite_55 : decode cX9_invite 55 = .ok (.aload_n 3, 1) := by decide +kernel
theorem dX9_invite_56 : decode cX9_invite 56 = .ok (.getfield 136, 3) := by decide +kernel
theorem dX9_invite_59 : decode cX9_invite 59 = .ok (.iload_n 1, 1) := by decide +kernel
theorem dX9_invite_60 : decode cX9_invite 60 = .ok (.iaload, 1) := by decide +kernel
theorem dX9_invite_61 : decode cX9_invite 61 = .ok (.ireturn, 1) := by decide +kernel
theorem dX9_invite_62 : decode cX9_invite 62 = .ok (.aload_n 3, 1) := by decide +kernel
theorem dX9_invite_63 : decode cX9_invite 63 = .ok (.getfield 139, 3) := by decide +kernel
theorem dX9_invite_66 : decode cX9_invite 66 = .ok (.iload_n 1, 1) := by decide +kernel
theorem dX9_invite_67 : decode cX9_invite 67 = .ok (.iaload, 1) := by decide +kernel
theorem dX9_invite_68 : decode cX9_invite 68 = .ok (.ireturn, 1) := by decide +kernel
theorem dX9_invite_69 : decode cX9_invite 69 = .ok (.bipush (-2), 2) := by decide +kernel
theorem dX9_invite_71 : decode cX9_invite 71 = .ok (.ireturn, 1) := by decide +kernel
set_option maxRecDepth 20000 in
theorem ggX9_rain_X6_hasYear : GoodIn wsX9_rain wsX6_hasYear := goodIn_r _ [5, 6, 18, 19, 20, 21, 22, 23, 24, 25, 26, 27, 28, 29, 30, 31, 32, 33, 34, 35] (by decide +kernel) (by decide +kernel)
set_option maxRecDepth 20000 in
theorem gX9_rain_X6_hasYear_n142 : GoodIn wsX9_rain (wsX6_hasYear) := ggX9_rain_X6_hasYear
theorem dX9_rain_0 : decode cX9_rain 0 = .ok (.aload_n 0, 1) := by decide +kernel
theorem dX9_rain_1 : decode cX9_rain 1 = .ok (.getfield 28, 3) := by decide +kernel
theorem dX9_rain_4 : decode cX9_rain 4 = .ok (.iload_n 1, 1) := by decide +kernel
theorem dX9_rain_5 : decode cX9_rain 5 = .ok (.invokevirtual 142, 3) := by decide +kernel
theorem dX9_rain_8 : decode cX9_rain 8 = .ok (.ifCond .eq 15, 3) := by decide +kernel
theorem dX9_rain_11 : decode cX9_rain 11 = .ok (.aload_n 0, 1) := by decide +kernel
theorem dX9_rain_12 : decode cX9_rain 12 = .ok (.getfield 28, 3) := by decide +kernel
theorem dX9_rain_15 : decode cX9_rain 15 = .ok (.getfield 145, 3) := by decide +kernel
theorem dX9_rain_18 : decode cX9_rain 18 = .ok (.iload_n 1, 1) := by decide +kernel
theorem dX9_rain_19 : decode cX9_rain 19 = .ok (.iaload, 1) := by decide +kernel
theorem dX9_rain_20 : decode cX9_rain 20 = .ok (.goto 5, 3) := by decide +kernel
theorem dX9_rain_23 : decode cX9_rain 23 = .ok (.bipush (-2), 2) := by decide +kernel
theorem dX9_rain_25 : decode cX9_rain 25 = .ok (.ireturn, 1) := by decide +kernel
set_option maxRecDepth 20000 in
theorem ggX9_frosts_X6_isTold : GoodIn wsX9_frosts wsX6_isTold := goodIn_r _ [6, 7, 31, 32, 33, 34, 35, 36, 37, 38, 39, 40, 41, 42, 43, 44, 45, 46, 47, 48] (by decide +kernel) (by decide +kernel)
set_option maxRecDepth 20000 in
theorem gX9_frosts_X6_isTold_n148 : GoodIn wsX9_frosts (wsX6_isTold) := ggX9_frosts_X6_isTold
theorem dX9_frosts_0 : decode cX9_frosts 0 = .ok (.aload_n 0, 1) := by decide +kernel
theorem dX9_frosts_1 : decode cX9_frosts 1 = .ok (.getfield 28, 3) := by decide +kernel
theorem dX9_frosts_4 : decode cX9_frosts 4 = .ok (.invokevirtual 148, 3) := by decide +kernel
theorem dX9_frosts_7 : decode cX9_frosts 7 = .ok (.ifCond .eq 13, 3) := by decide +kernel
theorem dX9_frosts_10 : decode cX9_frosts 10 = .ok (.aload_n 0, 1) := by decide +kernel
theorem dX9_frosts_11 : decode cX9_frosts 11 = .ok (.getfield 48, 3) := by decide +kernel
theorem dX9_frosts_14 : decode cX9_frosts 14 = .ok (.getfield 152, 3) := by decide +kernel
theorem dX9_frosts_17 : decode cX9_frosts 17 = .ok (.goto 5, 3) := by decide +kernel
theorem dX9_frosts_20 : decode cX9_frosts 20 = .ok (.bipush (-2), 2) := by decide +kernel
theorem dX9_frosts_22 : decode cX9_frosts 22 = .ok (.ireturn, 1) := by decide +kernel
set_option maxRecDepth 20000 in
theorem ggX9_water_X6_hasBoth : GoodIn wsX9_water wsX6_hasBoth := goodIn_r _ [6, 7, 8, 9, 4, 10, 11, 12, 13, 14, 15, 16, 44, 45, 46, 47, 48, 49, 50, 51, 52, 53, 54, 55, 56, 57, 58, 59, 60, 61] (by decide +kernel) (by decide +kernel)
set_option maxRecDepth 20000 in
theorem gX9_water_X6_hasBoth_n155 : GoodIn wsX9_water (wsX6_hasBoth) := ggX9_water_X6_hasBoth
set_option maxRecDepth 20000 in
theorem ggX9_water_X9_cell : GoodIn wsX9_water wsX9_cell := goodIn_r _ [20] (by decide +kernel) (by decide +kernel)
set_option maxRecDepth 20000 in
theorem gX9_water_X9_cell : GoodIn wsX9_water (va_wsS RX9 162 yX9_cell wsX9_cell) := goodIn_app (goodIn_of _ (by decide +kernel)) ggX9_water_X9_cell
theorem dX9_water_0 : decode cX9_water 0 = .ok (.aload_n 0, 1) := by decide +kernel
theorem dX9_water_1 : decode cX9_water 1 = .ok (.getfield 28, 3) := by decide +kernel
theorem dX9_water_4 : decode cX9_water 4 = .ok (.iload_n 1, 1) := by decide +kernel
theorem dX9_water_5 : decode cX9_water 5 = .ok (.iload_n 2, 1) := by decide +kernel
theorem dX9_water_6 : decode cX9_water 6 = .ok (.invokevirtual 155, 3) := by decide +kernel
theorem dX9_water_9 : decode cX9_water 9 = .ok (.ifCond .eq 19, 3) := by decide +kernel
theorem dX9_water_12 : decode cX9_water 12 = .ok (.aload_n 0, 1) := by decide +kernel
theorem dX9_water_13 : decode cX9_water 13 = .ok (.getfield 48, 3) := by decide +kernel
theorem dX9_water_16 : decode cX9_water 16 = .ok (.getfield 159, 3) := by decide +kernel
theorem dX9_water_19 : decode cX9_water 19 = .ok (.iload_n 1, 1) := by decide +kernel
theorem dX9_water_20 : decode cX9_water 20 = .ok (.iload_n 2, 1) := by decide +kernel
theorem dX9_water_21 : decode cX9_water 21 = .ok (.invokestatic 162, 3) := by decide +kernel
theorem dX9_water_24 : decode cX9_water 24 = .ok (.iaload, 1) := by decide +kernel
theorem dX9_water_25 : decode cX9_water 25 = .ok (.goto 5, 3) := by decide +kernel
theorem dX9_water_28 : decode cX9_water 28 = .ok (.bipush (-2), 2) := by decide +kernel
theorem dX9_water_30 : decode cX9_water 30 = .ok (.ireturn, 1) := by decide +kernel
set_option maxRecDepth 20000 in
theorem ggX9_spills_X6_hasBoth : GoodIn wsX9_spills wsX6_hasBoth := goodIn_r _ [6, 7, 8, 9, 4, 10, 11, 12, 13, 14, 15, 16, 44, 45, 46, 47, 48, 49, 50, 51, 52, 53, 54, 55, 56, 57, 58, 59, 60, 61] (by decide +kernel) (by decide +kernel)
set_option maxRecDepth 20000 in
theorem gX9_spills_X6_hasBoth_n155 : GoodIn wsX9_spills (wsX6_hasBoth) := ggX9_spills_X6_hasBoth
set_option maxRecDepth 20000 in
theorem ggX9_spills_X9_cell : GoodIn wsX9_spills wsX9_cell := goodIn_r _ [20] (by decide +kernel) (by decide +kernel)
set_option maxRecDepth 20000 in
theorem gX9_spills_X9_cell : GoodIn wsX9_spills (va_wsS RX9 162 yX9_cell wsX9_cell) := goodIn_app (goodIn_of _ (by decide +kernel)) ggX9_spills_X9_cell
theorem dX9_spills_0 : decode cX9_spills 0 = .ok (.aload_n 0, 1) := by decide +kernel
theorem dX9_spills_1 : decode cX9_spills 1 = .ok (.getfield 28, 3) := by decide +kernel
theorem dX9_spills_4 : decode cX9_spills 4 = .ok (.iload_n 1, 1) := by decide +kernel
theorem dX9_spills_5 : decode cX9_spills 5 = .ok (.iload_n 2, 1) := by decide +kernel
theorem dX9_spills_6 : decode cX9_spills 6 = .ok (.invokevirtual 155, 3) := by decide +kernel
theorem dX9_spills_9 : decode cX9_spills 9 = .ok (.ifCond .eq 19, 3) := by decide +kernel
theorem dX9_spills_12 : decode cX9_spills 12 = .ok (.aload_n 0, 1) := by decide +kernel
theorem dX9_spills_13 : decode cX9_spills 13 = .ok (.getfield 48, 3) := by decide +kernel
theorem dX9_spills_16 : decode cX9_spills 16 = .ok (.getfield 166, 3) := by decide +kernel
theorem dX9_spills_19 : decode cX9_spills 19 = .ok (.iload_n 1, 1) := by decide +kernel
theorem dX9_spills_20 : decode cX9_spills 20 = .ok (.iload_n 2, 1) := by decide +kernel
theorem dX9_spills_21 : decode cX9_spills 21 = .ok (.invokestatic 162, 3) := by decide +kernel
theorem dX9_spills_24 : decode cX9_spills 24 = .ok (.iaload, 1) := by decide +kernel
theorem dX9_spills_25 : decode cX9_spills 25 = .ok (.goto 5, 3) := by decide +kernel
theorem dX9_spills_28 : decode cX9_spills 28 = .ok (.bipush (-2), 2) := by decide +kernel
theorem dX9_spills_30 : decode cX9_spills 30 = .ok (.ireturn, 1) := by decide +kernel
set_option maxRecDepth 20000 in
theorem ggX9_lost_X6_hasYear : GoodIn wsX9_lost wsX6_hasYear := goodIn_r _ [6, 7, 31, 32, 33, 34, 35, 36, 37, 38, 39, 40, 41, 42, 43, 44, 45, 46, 47, 48] (by decide +kernel) (by decide +kernel)
set_option maxRecDepth 20000 in
theorem gX9_lost_X6_hasYear_n142 : GoodIn wsX9_lost (wsX6_hasYear) := ggX9_lost_X6_hasYear
theorem dX9_lost_0 : decode cX9_lost 0 = .ok (.aload_n 0, 1) := by decide +kernel
theorem dX9_lost_1 : decode cX9_lost 1 = .ok (.getfield 28, 3) := by decide +kernel
theorem dX9_lost_4 : decode cX9_lost 4 = .ok (.iload_n 1, 1) := by decide +kernel
theorem dX9_lost_5 : decode cX9_lost 5 = .ok (.invokevirtual 142, 3) := by decide +kernel
theorem dX9_lost_8 : decode cX9_lost 8 = .ok (.ifCond .eq 15, 3) := by decide +kernel
theorem dX9_lost_11 : decode cX9_lost 11 = .ok (.aload_n 0, 1) := by decide +kernel
theorem dX9_lost_12 : decode cX9_lost 12 = .ok (.getfield 48, 3) := by decide +kernel
theorem dX9_lost_15 : decode cX9_lost 15 = .ok (.getfield 169, 3) := by decide +kernel
theorem dX9_lost_18 : decode cX9_lost 18 = .ok (.iload_n 1, 1) := by decide +kernel
theorem dX9_lost_19 : decode cX9_lost 19 = .ok (.iaload, 1) := by decide +kernel
theorem dX9_lost_20 : decode cX9_lost 20 = .ok (.goto 5, 3) := by decide +kernel
theorem dX9_lost_23 : decode cX9_lost 23 = .ok (.bipush (-2), 2) := by decide +kernel
theorem dX9_lost_25 : decode cX9_lost 25 = .ok (.ireturn, 1) := by decide +kernel
set_option maxRecDepth 20000 in
theorem ggX9_drained_X6_hasBoth : GoodIn wsX9_drained wsX6_hasBoth := goodIn_r _ [6, 7, 8, 9, 4, 10, 11, 12, 13, 14, 15, 16, 44, 45, 46, 47, 48, 49, 50, 51, 52, 53, 54, 55, 56, 57, 58, 59, 60, 61] (by decide +kernel) (by decide +kernel)
set_option maxRecDepth 20000 in
theorem gX9_drained_X6_hasBoth_n155 : GoodIn wsX9_drained (wsX6_hasBoth) := ggX9_drained_X6_hasBoth
set_option maxRecDepth 20000 in
theorem ggX9_drained_X9_cell : GoodIn wsX9_drained wsX9_cell := goodIn_r _ [20] (by decide +kernel) (by decide +kernel)
set_option maxRecDepth 20000 in
theorem gX9_drained_X9_cell : GoodIn wsX9_drained (va_wsS RX9 162 yX9_cell wsX9_cell) := goodIn_app (goodIn_of _ (by decide +kernel)) ggX9_drained_X9_cell
theorem dX9_drained_0 : decode cX9_drained 0 = .ok (.aload_n 0, 1) := by decide +kernel
theorem dX9_drained_1 : decode cX9_drained 1 = .ok (.getfield 28, 3) := by decide +kernel
theorem dX9_drained_4 : decode cX9_drained 4 = .ok (.iload_n 1, 1) := by decide +kernel
theorem dX9_drained_5 : decode cX9_drained 5 = .ok (.iload_n 2, 1) := by decide +kernel
theorem dX9_drained_6 : decode cX9_drained 6 = .ok (.invokevirtual 155, 3) := by decide +kernel
theorem dX9_drained_9 : decode cX9_drained 9 = .ok (.ifCond .eq 19, 3) := by decide +kernel
theorem dX9_drained_12 : decode cX9_drained 12 = .ok (.aload_n 0, 1) := by decide +kernel
theorem dX9_drained_13 : decode cX9_drained 13 = .ok (.getfield 48, 3) := by decide +kernel
theorem dX9_drained_16 : decode cX9_drained 16 = .ok (.getfield 172, 3) := by decide +kernel
theorem dX9_drained_19 : decode cX9_drained 19 = .ok (.iload_n 1, 1) := by decide +kernel
theorem dX9_drained_20 : decode cX9_drained 20 = .ok (.iload_n 2, 1) := by decide +kernel
theorem dX9_drained_21 : decode cX9_drained 21 = .ok (.invokestatic 162, 3) := by decide +kernel
theorem dX9_drained_24 : decode cX9_drained 24 = .ok (.iaload, 1) := by decide +kernel
theorem dX9_drained_25 : decode cX9_drained 25 = .ok (.goto 5, 3) := by decide +kernel
theorem dX9_drained_28 : decode cX9_drained 28 = .ok (.bipush (-2), 2) := by decide +kernel
theorem dX9_drained_30 : decode cX9_drained 30 = .ok (.ireturn, 1) := by decide +kernel
set_option maxRecDepth 20000 in
theorem ggX9_all_X6_hasYear : GoodIn wsX9_all wsX6_hasYear := goodIn_r _ [6, 7, 23, 24, 25, 26, 27, 28, 29, 30, 31, 32, 33, 34, 35, 36, 37, 38, 39, 40] (by decide +kernel) (by decide +kernel)
set_option maxRecDepth 20000 in
theorem gX9_all_X6_hasYear_n142 : GoodIn wsX9_all (wsX6_hasYear) := ggX9_all_X6_hasYear
set_option maxRecDepth 20000 in
theorem ggX9_all_X9_cell : GoodIn wsX9_all wsX9_cell := goodIn_r _ [11] (by decide +kernel) (by decide +kernel)
set_option maxRecDepth 20000 in
theorem gX9_all_X9_cell : GoodIn wsX9_all (va_wsS RX9 162 yX9_cell wsX9_cell) := goodIn_app (goodIn_of _ (by decide +kernel)) ggX9_all_X9_cell
theorem dX9_all_0 : decode cX9_all 0 = .ok (.aload_n 0, 1) := by decide +kernel
theorem dX9_all_1 : decode cX9_all 1 = .ok (.getfield 28, 3) := by decide +kernel
theorem dX9_all_4 : decode cX9_all 4 = .ok (.iload_n 1, 1) := by decide +kernel
theorem dX9_all_5 : decode cX9_all 5 = .ok (.invokevirtual 142, 3) := by decide +kernel
theorem dX9_all_8 : decode cX9_all 8 = .ok (.ifCond .ne 6, 3) := by decide +kernel
theorem dX9_all_11 : decode cX9_all 11 = .ok (.bipush (-2), 2) := by decide +kernel
theorem dX9_all_13 : decode cX9_all 13 = .ok (.ireturn, 1) := by decide +kernel
theorem dX9_all_14 : decode cX9_all 14 = .ok (.iconst 0, 1) := by decide +kernel
theorem dX9_all_15 : decode cX9_all 15 = .ok (.istore_n 2, 1) := by decide +kernel
theorem dX9_all_16 : decode cX9_all 16 = .ok (.iconst 0, 1) := by decide +kernel
theorem dX9_all_17 : decode cX9_all 17 = .ok (.istore_n 3, 1) := by decide +kernel
theorem dX9_all_18 : decode cX9_all 18 = .ok (.iload_n 3, 1) := by decide +kernel
theorem dX9_all_19 : decode cX9_all 19 = .ok (.aload_n 0, 1) := by decide +kernel
theorem dX9_all_20 : decode cX9_all 20 = .ok (.getfield 28, 3) := by decide +kernel
theorem dX9_all_23 : decode cX9_all 23 = .ok (.getfield 175, 3) := by decide +kernel
theorem dX9_all_26 : decode cX9_all 26 = .ok (.if_icmp .ge 25, 3) := by decide +kernel
theorem dX9_all_29 : decode cX9_all 29 = .ok (.iload_n 2, 1) := by decide +kernel
theorem dX9_all_30 : decode cX9_all 30 = .ok (.aload_n 0, 1) := by decide +kernel
theorem dX9_all_31 : decode cX9_all 31 = .ok (.getfield 48, 3) := by decide +kernel
theorem dX9_all_34 : decode cX9_all 34 = .ok (.getfield 159, 3) := by decide +kernel
theorem dX9_all_37 : decode cX9_all 37 = .ok (.iload_n 3, 1) := by decide +kernel
theorem dX9_all_38 : decode cX9_all 38 = .ok (.iload_n 1, 1) := by decide +kernel
theorem dX9_all_39 : decode cX9_all 39 = .ok (.invokestatic 162, 3) := by decide +kernel
theorem dX9_all_42 : decode cX9_all 42 = .ok (.iaload, 1) := by decide +kernel
theorem dX9_all_43 : decode cX9_all 43 = .ok (.iadd, 1) := by decide +kernel
theorem dX9_all_44 : decode cX9_all 44 = .ok (.istore_n 2, 1) := by decide +kernel
theorem dX9_all_45 : decode cX9_all 45 = .ok (.iinc 3 1, 3) := by decide +kernel
theorem dX9_all_48 : decode cX9_all 48 = .ok (.goto (-30), 3) := by decide +kernel
theorem dX9_all_51 : decode cX9_all 51 = .ok (.iload_n 2, 1) := by decide +kernel
theorem dX9_all_52 : decode cX9_all 52 = .ok (.ireturn, 1) := by decide +kernel
set_option maxRecDepth 20000 in
theorem ggX9_dry_X6_hasYear : GoodIn wsX9_dry wsX6_hasYear := goodIn_r _ [6, 7, 23, 24, 25, 26, 27, 28, 29, 30, 31, 32, 33, 34, 35, 36, 37, 38, 39, 40] (by decide +kernel) (by decide +kernel)
set_option maxRecDepth 20000 in
theorem gX9_dry_X6_hasYear_n142 : GoodIn wsX9_dry (wsX6_hasYear) := ggX9_dry_X6_hasYear
set_option maxRecDepth 20000 in
theorem ggX9_dry_X9_cell : GoodIn wsX9_dry wsX9_cell := goodIn_r _ [11] (by decide +kernel) (by decide +kernel)
set_option maxRecDepth 20000 in
theorem gX9_dry_X9_cell : GoodIn wsX9_dry (va_wsS RX9 162 yX9_cell wsX9_cell) := goodIn_app (goodIn_of _ (by decide +kernel)) ggX9_dry_X9_cell
theorem dX9_dry_0 : decode cX9_dry 0 = .ok (.aload_n 0, 1) := by decide +kernel
theorem dX9_dry_1 : decode cX9_dry 1 = .ok (.getfield 28, 3) := by decide +kernel
theorem dX9_dry_4 : decode cX9_dry 4 = .ok (.iload_n 1, 1) := by decide +kernel
theorem dX9_dry_5 : decode cX9_dry 5 = .ok (.invokevirtual 142, 3) := by decide +kernel
theorem dX9_dry_8 : decode cX9_dry 8 = .ok (.ifCond .ne 6, 3) := by decide +kernel
theorem dX9_dry_11 : decode cX9_dry 11 = .ok (.bipush (-2), 2) := by decide +kernel
theorem dX9_dry_13 : decode cX9_dry 13 = .ok (.ireturn, 1) := by decide +kernel
theorem dX9_dry_14 : decode cX9_dry 14 = .ok (.iconst 0, 1) := by decide +kernel
theorem dX9_dry_15 : decode cX9_dry 15 = .ok (.istore_n 2, 1) := by decide +kernel
theorem dX9_dry_16 : decode cX9_dry 16 = .ok (.iconst 0, 1) := by decide +kernel
theorem dX9_dry_17 : decode cX9_dry 17 = .ok (.istore_n 3, 1) := by decide +kernel
theorem dX9_dry_18 : decode cX9_dry 18 = .ok (.iload_n 3, 1) := by decide +kernel
theorem dX9_dry_19 : decode cX9_dry 19 = .ok (.aload_n 0, 1) := by decide +kernel
theorem dX9_dry_20 : decode cX9_dry 20 = .ok (.getfield 28, 3) := by decide +kernel
theorem dX9_dry_23 : decode cX9_dry 23 = .ok (.getfield 175, 3) := by decide +kernel
theorem dX9_dry_26 : decode cX9_dry 26 = .ok (.if_icmp .ge 31, 3) := by decide +kernel
theorem dX9_dry_29 : decode cX9_dry 29 = .ok (.aload_n 0, 1) := by decide +kernel
theorem dX9_dry_30 : decode cX9_dry 30 = .ok (.getfield 48, 3) := by decide +kernel
theorem dX9_dry_33 : decode cX9_dry 33 = .ok (.getfield 159, 3) := by decide +kernel
theorem dX9_dry_36 : decode cX9_dry 36 = .ok (.iload_n 3, 1) := by decide +kernel
theorem dX9_dry_37 : decode cX9_dry 37 = .ok (.iload_n 1, 1) := by decide +kernel
theorem dX9_dry_38 : decode cX9_dry 38 = .ok (.invokestatic 162, 3) := by decide +kernel
theorem dX9_dry_41 : decode cX9_dry 41 = .ok (.iaload, 1) := by decide +kernel
theorem dX9_dry_42 : decode cX9_dry 42 = .ok (.ifCond .ne 9, 3) := by decide +kernel
theorem dX9_dry_45 : decode cX9_dry 45 = .ok (.iload_n 2, 1) := by decide +kernel
theorem dX9_dry_46 : decode cX9_dry 46 = .ok (.iconst 1, 1) := by decide +kernel
theorem dX9_dry_47 : decode cX9_dry 47 = .ok (.iload_n 3, 1) := by decide +kernel
theorem dX9_dry_48 : decode cX9_dry 48 = .ok (.ishl, 1) := by decide +kernel
theorem dX9_dry_49 : decode cX9_dry 49 = .ok (.ior, 1) := by decide +kernel
theorem dX9_dry_50 : decode cX9_dry 50 = .ok (.istore_n 2, 1) := by decide +kernel
theorem dX9_dry_51 : decode cX9_dry 51 = .ok (.iinc 3 1, 3) := by decide +kernel
theorem dX9_dry_54 : decode cX9_dry 54 = .ok (.goto (-36), 3) := by decide +kernel
theorem dX9_dry_57 : decode cX9_dry 57 = .ok (.iload_n 2, 1) := by decide +kernel
theorem dX9_dry_58 : decode cX9_dry 58 = .ok (.ireturn, 1) := by decide +kernel
set_option maxRecDepth 20000 in
theorem ggX9_deepest_X6_hasYear : GoodIn wsX9_deepest wsX6_hasYear := goodIn_r _ [6, 7, 23, 24, 25, 26, 27, 28, 29, 30, 31, 32, 33, 34, 35, 36, 37, 38, 39, 40] (by decide +kernel) (by decide +kernel)
set_option maxRecDepth 20000 in
theorem gX9_deepest_X6_hasYear_n142 : GoodIn wsX9_deepest (wsX6_hasYear) := ggX9_deepest_X6_hasYear
set_option maxRecDepth 20000 in
theorem ggX9_deepest_X9_cell : GoodIn wsX9_deepest wsX9_cell := goodIn_r _ [11] (by decide +kernel) (by decide +kernel)
set_option maxRecDepth 20000 in
theorem gX9_deepest_X9_cell : GoodIn wsX9_deepest (va_wsS RX9 162 yX9_cell wsX9_cell) := goodIn_app (goodIn_of _ (by decide +kernel)) ggX9_deepest_X9_cell
theorem dX9_deepest_0 : decode cX9_deepest 0 = .ok (.aload_n 0, 1) := by decide +kernel
theorem dX9_deepest_1 : decode cX9_deepest 1 = .ok (.getfield 28, 3) := by decide +kernel
theorem dX9_deepest_4 : decode cX9_deepest 4 = .ok (.iload_n 1, 1) := by decide +kernel
theorem dX9_deepest_5 : decode cX9_deepest 5 = .ok (.invokevirtual 142, 3) := by decide +kernel
theorem dX9_deepest_8 : decode cX9_deepest 8 = .ok (.ifCond .ne 6, 3) := by decide +kernel
theorem dX9_deepest_11 : decode cX9_deepest 11 = .ok (.bipush (-2), 2) := by decide +kernel
theorem dX9_deepest_13 : decode cX9_deepest 13 = .ok (.ireturn, 1) := by decide +kernel
theorem dX9_deepest_14 : decode cX9_deepest 14 = .ok (.iconst (-1), 1) := by decide +kernel
theorem dX9_deepest_15 : decode cX9_deepest 15 = .ok (.istore_n 2, 1) := by decide +kernel
theorem dX9_deepest_16 : decode cX9_deepest 16 = .ok (.iconst (-1), 1) := by decide +kernel
theorem dX9_deepest_17 : decode cX9_deepest 17 = .ok (.istore_n 3, 1) := by decide +kernel
theorem dX9_deepest_18 : decode cX9_deepest 18 = .ok (.iconst 0, 1) := by decide +kernel
theorem dX9_deepest_19 : decode cX9_deepest 19 = .ok (.istore 4, 2) := by decide +kernel
theorem dX9_deepest_21 : decode cX9_deepest 21 = .ok (.iload 4, 2) := by decide +kernel
theorem dX9_deepest_23 : decode cX9_deepest 23 = .ok (.aload_n 0, 1) := by decide +kernel
theorem dX9_deepest_24 : decode cX9_deepest 24 = .ok (.getfield 28, 3) := by decide +kernel
theorem dX9_deepest_27 : decode cX9_deepest 27 = .ok (.getfield 175, 3) := by decide +kernel
theorem dX9_deepest_30 : decode cX9_deepest 30 = .ok (.if_icmp .ge 37, 3) := by decide +kernel
theorem dX9_deepest_33 : decode cX9_deepest 33 = .ok (.aload_n 0, 1) := by decide +kernel
theorem dX9_deepest_34 : decode cX9_deepest 34 = .ok (.getfield 48, 3) := by decide +kernel
theorem dX9_deepest_37 : decode cX9_deepest 37 = .ok (.getfield 159, 3) := by decide +kernel
theorem dX9_deepest_40 : decode cX9_deepest 40 = .ok (.iload 4, 2) := by decide +kernel
theorem dX9_deepest_42 : decode cX9_deepest 42 = .ok (.iload_n 1, 1) := by decide +kernel
theorem dX9_deepest_43 : decode cX9_deepest 43 = .ok (.invokestatic 162, 3) := by decide +kernel
theorem dX9_deepest_46 : decode cX9_deepest 46 = .ok (.iaload, 1) := by decide +kernel
theorem dX9_deepest_47 : decode cX9_deepest 47 = .ok (.istore 5, 2) := by decide +kernel
theorem dX9_deepest_49 : decode cX9_deepest 49 = .ok (.iload 5, 2) := by decide +kernel
theorem dX9_deepest_51 : decode cX9_deepest 51 = .ok (.iload_n 3, 1) := by decide +kernel
theorem dX9_deepest_52 : decode cX9_deepest 52 = .ok (.if_icmp .le 9, 3) := by decide +kernel
theorem dX9_deepest_55 : decode cX9_deepest 55 = .ok (.iload 5, 2) := by decide +kernel
theorem dX9_deepest_57 : decode cX9_deepest 57 = .ok (.istore_n 3, 1) := by decide +kernel
theorem dX9_deepest_58 : decode cX9_deepest 58 = .ok (.iload 4, 2) := by decide +kernel
theorem dX9_deepest_60 : decode cX9_deepest 60 = .ok (.istore_n 2, 1) := by decide +kernel
theorem dX9_deepest_61 : decode cX9_deepest 61 = .ok (.iinc 4 1, 3) := by decide +kernel
theorem dX9_deepest_64 : decode cX9_deepest 64 = .ok (.goto (-43), 3) := by decide +kernel
theorem dX9_deepest_67 : decode cX9_deepest 67 = .ok (.iload_n 2, 1) := by decide +kernel
theorem dX9_deepest_68 : decode cX9_deepest 68 = .ok (.ireturn, 1) := by decide +kernel
set_option maxRecDepth 20000 in
theorem ggX9_most_X6_hasRank : GoodIn wsX9_most wsX6_hasRank := goodIn_r _ [10, 11, 27, 28, 29, 30, 31, 32, 33, 34, 35, 36, 37, 38, 39, 40, 41, 42, 43, 44] (by decide +kernel) (by decide +kernel)
set_option maxRecDepth 20000 in
theorem gX9_most_X6_hasRank_n98 : GoodIn wsX9_most (wsX6_hasRank) := ggX9_most_X6_hasRank
set_option maxRecDepth 20000 in
theorem ggX9_most_X9_cell : GoodIn wsX9_most wsX9_cell := goodIn_r _ [15] (by decide +kernel) (by decide +kernel)
set_option maxRecDepth 20000 in
theorem gX9_most_X9_cell : GoodIn wsX9_most (va_wsS RX9 162 yX9_cell wsX9_cell) := goodIn_app (goodIn_of _ (by decide +kernel)) ggX9_most_X9_cell
theorem dX9_most_0 : decode cX9_most 0 = .ok (.aload_n 0, 1) := by decide +kernel
theorem dX9_most_1 : decode cX9_most 1 = .ok (.getfield 28, 3) := by decide +kernel
theorem dX9_most_4 : decode cX9_most 4 = .ok (.iload_n 1, 1) := by decide +kernel
theorem dX9_most_5 : decode cX9_most 5 = .ok (.invokevirtual 98, 3) := by decide +kernel
theorem dX9_most_8 : decode cX9_most 8 = .ok (.ifCond .ne 6, 3) := by decide +kernel
theorem dX9_most_11 : decode cX9_most 11 = .ok (.bipush (-2), 2) := by decide +kernel
theorem dX9_most_13 : decode cX9_most 13 = .ok (.ireturn, 1) := by decide +kernel
theorem dX9_most_14 : decode cX9_most 14 = .ok (.iconst 0, 1) := by decide +kernel
theorem dX9_most_15 : decode cX9_most 15 = .ok (.istore_n 2, 1) := by decide +kernel
theorem dX9_most_16 : decode cX9_most 16 = .ok (.iconst 0, 1) := by decide +kernel
theorem dX9_most_17 : decode cX9_most 17 = .ok (.istore_n 3, 1) := by decide +kernel
theorem dX9_most_18 : decode cX9_most 18 = .ok (.iload_n 3, 1) := by decide +kernel
theorem dX9_most_19 : decode cX9_most 19 = .ok (.aload_n 0, 1) := by decide +kernel
theorem dX9_most_20 : decode cX9_most 20 = .ok (.getfield 28, 3) := by decide +kernel
theorem dX9_most_23 : decode cX9_most 23 = .ok (.getfield 178, 3) := by decide +kernel
theorem dX9_most_26 : decode cX9_most 26 = .ok (.if_icmp .ge 27, 3) := by decide +kernel
theorem dX9_most_29 : decode cX9_most 29 = .ok (.iload_n 2, 1) := by decide +kernel
theorem dX9_most_30 : decode cX9_most 30 = .ok (.aload_n 0, 1) := by decide +kernel
theorem dX9_most_31 : decode cX9_most 31 = .ok (.getfield 48, 3) := by decide +kernel
theorem dX9_most_34 : decode cX9_most 34 = .ok (.getfield 159, 3) := by decide +kernel
theorem dX9_most_37 : decode cX9_most 37 = .ok (.iload_n 1, 1) := by decide +kernel
theorem dX9_most_38 : decode cX9_most 38 = .ok (.iload_n 3, 1) := by decide +kernel
theorem dX9_most_39 : decode cX9_most 39 = .ok (.invokestatic 162, 3) := by decide +kernel
theorem dX9_most_42 : decode cX9_most 42 = .ok (.iaload, 1) := by decide +kernel
theorem dX9_most_43 : decode cX9_most 43 = .ok (.invokestatic 181, 3) := by decide +kernel
theorem dX9_most_46 : decode cX9_most 46 = .ok (.istore_n 2, 1) := by decide +kernel
theorem dX9_most_47 : decode cX9_most 47 = .ok (.iinc 3 1, 3) := by decide +kernel
theorem dX9_most_50 : decode cX9_most 50 = .ok (.goto (-32), 3) := by decide +kernel
theorem dX9_most_53 : decode cX9_most 53 = .ok (.iload_n 2, 1) := by decide +kernel
theorem dX9_most_54 : decode cX9_most 54 = .ok (.ireturn, 1) := by decide +kernel
set_option maxRecDepth 20000 in
theorem ggX9_dries_X6_hasRank : GoodIn wsX9_dries wsX6_hasRank := goodIn_r _ [6, 7, 23, 24, 25, 26, 27, 28, 29, 30, 31, 32, 33, 34, 35, 36, 37, 38, 39, 40] (by decide +kernel) (by decide +kernel)
set_option maxRecDepth 20000 in
theorem gX9_dries_X6_hasRank_n98 : GoodIn wsX9_dries (wsX6_hasRank) := ggX9_dries_X6_hasRank
set_option maxRecDepth 20000 in
theorem ggX9_dries_X9_cell : GoodIn wsX9_dries wsX9_cell := goodIn_r _ [11] (by decide +kernel) (by decide +kernel)
set_option maxRecDepth 20000 in
theorem gX9_dries_X9_cell : GoodIn wsX9_dries (va_wsS RX9 162 yX9_cell wsX9_cell) := goodIn_app (goodIn_of _ (by decide +kernel)) ggX9_dries_X9_cell
theorem dX9_dries_0 : decode cX9_dries 0 = .ok (.aload_n 0, 1) := by decide +kernel
theorem dX9_dries_1 : decode cX9_dries 1 = .ok (.getfield 28, 3) := by decide +kernel
theorem dX9_dries_4 : decode cX9_dries 4 = .ok (.iload_n 1, 1) := by decide +kernel
theorem dX9_dries_5 : decode cX9_dries 5 = .ok (.invokevirtual 98, 3) := by decide +kernel
theorem dX9_dries_8 : decode cX9_dries 8 = .ok (.ifCond .ne 6, 3) := by decide +kernel
theorem dX9_dries_11 : decode cX9_dries 11 = .ok (.bipush (-2), 2) := by decide +kernel
theorem dX9_dries_13 : decode cX9_dries 13 = .ok (.ireturn, 1) := by decide +kernel
theorem dX9_dries_14 : decode cX9_dries 14 = .ok (.iconst 0, 1) := by decide +kernel
theorem dX9_dries_15 : decode cX9_dries 15 = .ok (.istore_n 2, 1) := by decide +kernel
theorem dX9_dries_16 : decode cX9_dries 16 = .ok (.iload_n 2, 1) := by decide +kernel
theorem dX9_dries_17 : decode cX9_dries 17 = .ok (.aload_n 0, 1) := by decide +kernel
theorem dX9_dries_18 : decode cX9_dries 18 = .ok (.getfield 28, 3) := by decide +kernel
theorem dX9_dries_21 : decode cX9_dries 21 = .ok (.getfield 178, 3) := by decide +kernel
theorem dX9_dries_24 : decode cX9_dries 24 = .ok (.if_icmp .ge 27, 3) := by decide +kernel
theorem dX9_dries_27 : decode cX9_dries 27 = .ok (.aload_n 0, 1) := by decide +kernel
theorem dX9_dries_28 : decode cX9_dries 28 = .ok (.getfield 48, 3) := by decide +kernel
theorem dX9_dries_31 : decode cX9_dries 31 = .ok (.getfield 159, 3) := by decide +kernel
theorem dX9_dries_34 : decode cX9_dries 34 = .ok (.iload_n 1, 1) := by decide +kernel
theorem dX9_dries_35 : decode cX9_dries 35 = .ok (.iload_n 2, 1) := by decide +kernel
theorem dX9_dries_36 : decode cX9_dries 36 = .ok (.invokestatic 162, 3) := by decide +kernel
theorem dX9_dries_39 : decode cX9_dries 39 = .ok (.iaload, 1) := by decide +kernel
theorem dX9_dries_40 : decode cX9_dries 40 = .ok (.ifCond .ne 5, 3) := by decide +kernel
theorem dX9_dries_43 : decode cX9_dries 43 = .ok (.iload_n 2, 1) := by decide +kernel
theorem dX9_dries_44 : decode cX9_dries 44 = .ok (.ireturn, 1) := by decide +kernel
theorem dX9_dries_45 : decode cX9_dries 45 = .ok (.iinc 2 1, 3) := by decide +kernel
theorem dX9_dries_48 : decode cX9_dries 48 = .ok (.goto (-32), 3) := by decide +kernel
theorem dX9_dries_51 : decode cX9_dries 51 = .ok (.iconst (-1), 1) := by decide +kernel
theorem dX9_dries_52 : decode cX9_dries 52 = .ok (.ireturn, 1) := by decide +kernel
set_option maxRecDepth 20000 in
theorem ggX9_wet_X6_hasRank : GoodIn wsX9_wet wsX6_hasRank := goodIn_r _ [6, 7, 23, 24, 25, 26, 27, 28, 29, 30, 31, 32, 33, 34, 35, 36, 37, 38, 39, 40] (by decide +kernel) (by decide +kernel)
set_option maxRecDepth 20000 in
theorem gX9_wet_X6_hasRank_n98 : GoodIn wsX9_wet (wsX6_hasRank) := ggX9_wet_X6_hasRank
set_option maxRecDepth 20000 in
theorem ggX9_wet_X9_cell : GoodIn wsX9_wet wsX9_cell := goodIn_r _ [11] (by decide +kernel) (by decide +kernel)
set_option maxRecDepth 20000 in
theorem gX9_wet_X9_cell : GoodIn wsX9_wet (va_wsS RX9 162 yX9_cell wsX9_cell) := goodIn_app (goodIn_of _ (by decide +kernel)) ggX9_wet_X9_cell
theorem dX9_wet_0 : decode cX9_wet 0 = .ok (.aload_n 0, 1) := by decide +kernel
theorem dX9_wet_1 : decode cX9_wet 1 = .ok (.getfield 28, 3) := by decide +kernel
theorem dX9_wet_4 : decode cX9_wet 4 = .ok (.iload_n 1, 1) := by decide +kernel
theorem dX9_wet_5 : decode cX9_wet 5 = .ok (.invokevirtual 98, 3) := by decide +kernel
theorem dX9_wet_8 : decode cX9_wet 8 = .ok (.ifCond .ne 6, 3) := by decide +kernel
theorem dX9_wet_11 : decode cX9_wet 11 = .ok (.bipush (-2), 2) := by decide +kernel
theorem dX9_wet_13 : decode cX9_wet 13 = .ok (.ireturn, 1) := by decide +kernel
theorem dX9_wet_14 : decode cX9_wet 14 = .ok (.iconst 0, 1) := by decide +kernel
theorem dX9_wet_15 : decode cX9_wet 15 = .ok (.istore_n 2, 1) := by decide +kernel
theorem dX9_wet_16 : decode cX9_wet 16 = .ok (.iconst 0, 1) := by decide +kernel
theorem dX9_wet_17 : decode cX9_wet 17 = .ok (.istore_n 3, 1) := by decide +kernel
theorem dX9_wet_18 : decode cX9_wet 18 = .ok (.iload_n 3, 1) := by decide +kernel
theorem dX9_wet_19 : decode cX9_wet 19 = .ok (.aload_n 0, 1) := by decide +kernel
theorem dX9_wet_20 : decode cX9_wet 20 = .ok (.getfield 28, 3) := by decide +kernel
theorem dX9_wet_23 : decode cX9_wet 23 = .ok (.getfield 178, 3) := by decide +kernel
theorem dX9_wet_26 : decode cX9_wet 26 = .ok (.if_icmp .ge 28, 3) := by decide +kernel
theorem dX9_wet_29 : decode cX9_wet 29 = .ok (.aload_n 0, 1) := by decide +kernel
theorem dX9_wet_30 : decode cX9_wet 30 = .ok (.getfield 48, 3) := by decide +kernel
theorem dX9_wet_33 : decode cX9_wet 33 = .ok (.getfield 159, 3) := by decide +kernel
theorem dX9_wet_36 : decode cX9_wet 36 = .ok (.iload_n 1, 1) := by decide +kernel
theorem dX9_wet_37 : decode cX9_wet 37 = .ok (.iload_n 3, 1) := by decide +kernel
theorem dX9_wet_38 : decode cX9_wet 38 = .ok (.invokestatic 162, 3) := by decide +kernel
theorem dX9_wet_41 : decode cX9_wet 41 = .ok (.iaload, 1) := by decide +kernel
theorem dX9_wet_42 : decode cX9_wet 42 = .ok (.ifCond .le 6, 3) := by decide +kernel
theorem dX9_wet_45 : decode cX9_wet 45 = .ok (.iinc 2 1, 3) := by decide +kernel
theorem dX9_wet_48 : decode cX9_wet 48 = .ok (.iinc 3 1, 3) := by decide +kernel
theorem dX9_wet_51 : decode cX9_wet 51 = .ok (.goto (-33), 3) := by decide +kernel
theorem dX9_wet_54 : decode cX9_wet 54 = .ok (.iload_n 2, 1) := by decide +kernel
theorem dX9_wet_55 : decode cX9_wet 55 = .ok (.ireturn, 1) := by decide +kernel
set_option maxRecDepth 20000 in
theorem ggX9_flood_X6_isTold : GoodIn wsX9_flood wsX6_isTold := goodIn_r _ [6, 7, 19, 20, 21, 22, 23, 24, 25, 26, 27, 28, 29, 30, 31, 32, 33, 34, 35, 36] (by decide +kernel) (by decide +kernel)
set_option maxRecDepth 20000 in
theorem gX9_flood_X6_isTold_n148 : GoodIn wsX9_flood (wsX6_isTold) := ggX9_flood_X6_isTold
theorem dX9_flood_0 : decode cX9_flood 0 = .ok (.aload_n 0, 1) := by decide +kernel
theorem dX9_flood_1 : decode cX9_flood 1 = .ok (.getfield 28, 3) := by decide +kernel
theorem dX9_flood_4 : decode cX9_flood 4 = .ok (.invokevirtual 148, 3) := by decide +kernel
theorem dX9_flood_7 : decode cX9_flood 7 = .ok (.ifCond .ne 6, 3) := by decide +kernel
theorem dX9_flood_10 : decode cX9_flood 10 = .ok (.bipush (-2), 2) := by decide +kernel
theorem dX9_flood_12 : decode cX9_flood 12 = .ok (.ireturn, 1) := by decide +kernel
theorem dX9_flood_13 : decode cX9_flood 13 = .ok (.iconst (-1), 1) := by decide +kernel
theorem dX9_flood_14 : decode cX9_flood 14 = .ok (.istore_n 1, 1) := by decide +kernel
theorem dX9_flood_15 : decode cX9_flood 15 = .ok (.iconst 0, 1) := by decide +kernel
theorem dX9_flood_16 : decode cX9_flood 16 = .ok (.istore_n 2, 1) := by decide +kernel
theorem dX9_flood_17 : decode cX9_flood 17 = .ok (.iconst 0, 1) := by decide +kernel
theorem dX9_flood_18 : decode cX9_flood 18 = .ok (.istore_n 3, 1) := by decide +kernel
theorem dX9_flood_19 : decode cX9_flood 19 = .ok (.iload_n 3, 1) := by decide +kernel
theorem dX9_flood_20 : decode cX9_flood 20 = .ok (.aload_n 0, 1) := by decide +kernel
theorem dX9_flood_21 : decode cX9_flood 21 = .ok (.getfield 28, 3) := by decide +kernel
theorem dX9_flood_24 : decode cX9_flood 24 = .ok (.getfield 178, 3) := by decide +kernel
theorem dX9_flood_27 : decode cX9_flood 27 = .ok (.if_icmp .ge 34, 3) := by decide +kernel
theorem dX9_flood_30 : decode cX9_flood 30 = .ok (.aload_n 0, 1) := by decide +kernel
theorem dX9_flood_31 : decode cX9_flood 31 = .ok (.getfield 48, 3) := by decide +kernel
theorem dX9_flood_34 : decode cX9_flood 34 = .ok (.getfield 169, 3) := by decide +kernel
theorem dX9_flood_37 : decode cX9_flood 37 = .ok (.iload_n 3, 1) := by decide +kernel
theorem dX9_flood_38 : decode cX9_flood 38 = .ok (.iaload, 1) := by decide +kernel
theorem dX9_flood_39 : decode cX9_flood 39 = .ok (.iload_n 2, 1) := by decide +kernel
theorem dX9_flood_40 : decode cX9_flood 40 = .ok (.if_icmp .le 15, 3) := by decide +kernel
theorem dX9_flood_43 : decode cX9_flood 43 = .ok (.aload_n 0, 1) := by decide +kernel
theorem dX9_flood_44 : decode cX9_flood 44 = .ok (.getfield 48, 3) := by decide +kernel
theorem dX9_flood_47 : decode cX9_flood 47 = .ok (.getfield 169, 3) := by decide +kernel
theorem dX9_flood_50 : decode cX9_flood 50 = .ok (.iload_n 3, 1) := by decide +kernel
theorem dX9_flood_51 : decode cX9_flood 51 = .ok (.iaload, 1) := by decide +kernel
theorem dX9_flood_52 : decode cX9_flood 52 = .ok (.istore_n 2, 1) := by decide +kernel
theorem dX9_flood_53 : decode cX9_flood 53 = .ok (.iload_n 3, 1) := by decide +kernel
theorem dX9_flood_54 : decode cX9_flood 54 = .ok (.istore_n 1, 1) := by decide +kernel
theorem dX9_flood_55 : decode cX9_flood 55 = .ok (.iinc 3 1, 3) := by decide +kernel
theorem dX9_flood_58 : decode cX9_flood 58 = .ok (.goto (-39), 3) := by decide +kernel
theorem dX9_flood_61 : decode cX9_flood 61 = .ok (.iload_n 1, 1) := by decide +kernel
theorem dX9_flood_62 : decode cX9_flood 62 = .ok (.ireturn, 1) := by decide +kernel
set_option maxRecDepth 20000 in
theorem ggX9_rains_X6_isTold : GoodIn wsX9_rains wsX6_isTold := goodIn_r _ [5, 6, 18, 19, 20, 21, 22, 23, 24, 25, 26, 27, 28, 29, 30, 31, 32, 33, 34, 35] (by decide +kernel) (by decide +kernel)
set_option maxRecDepth 20000 in
theorem gX9_rains_X6_isTold_n148 : GoodIn wsX9_rains (wsX6_isTold) := ggX9_rains_X6_isTold
theorem dX9_rains_0 : decode cX9_rains 0 = .ok (.aload_n 0, 1) := by decide +kernel
theorem dX9_rains_1 : decode cX9_rains 1 = .ok (.getfield 28, 3) := by decide +kernel
theorem dX9_rains_4 : decode cX9_rains 4 = .ok (.invokevirtual 148, 3) := by decide +kernel
theorem dX9_rains_7 : decode cX9_rains 7 = .ok (.ifCond .ne 6, 3) := by decide +kernel
theorem dX9_rains_10 : decode cX9_rains 10 = .ok (.bipush (-2), 2) := by decide +kernel
theorem dX9_rains_12 : decode cX9_rains 12 = .ok (.ireturn, 1) := by decide +kernel
theorem dX9_rains_13 : decode cX9_rains 13 = .ok (.iconst 0, 1) := by decide +kernel
theorem dX9_rains_14 : decode cX9_rains 14 = .ok (.istore_n 1, 1) := by decide +kernel
theorem dX9_rains_15 : decode cX9_rains 15 = .ok (.iconst 0, 1) := by decide +kernel
theorem dX9_rains_16 : decode cX9_rains 16 = .ok (.istore_n 2, 1) := by decide +kernel
theorem dX9_rains_17 : decode cX9_rains 17 = .ok (.iload_n 2, 1) := by decide +kernel
theorem dX9_rains_18 : decode cX9_rains 18 = .ok (.aload_n 0, 1) := by decide +kernel
theorem dX9_rains_19 : decode cX9_rains 19 = .ok (.getfield 28, 3) := by decide +kernel
theorem dX9_rains_22 : decode cX9_rains 22 = .ok (.getfield 178, 3) := by decide +kernel
theorem dX9_rains_25 : decode cX9_rains 25 = .ok (.if_icmp .ge 21, 3) := by decide +kernel
theorem dX9_rains_28 : decode cX9_rains 28 = .ok (.iload_n 1, 1) := by decide +kernel
theorem dX9_rains_29 : decode cX9_rains 29 = .ok (.aload_n 0, 1) := by decide +kernel
theorem dX9_rains_30 : decode cX9_rains 30 = .ok (.getfield 28, 3) := by decide +kernel
theorem dX9_rains_33 : decode cX9_rains 33 = .ok (.getfield 145, 3) := by decide +kernel
theorem dX9_rains_36 : decode cX9_rains 36 = .ok (.iload_n 2, 1) := by decide +kernel
theorem dX9_rains_37 : decode cX9_rains 37 = .ok (.iaload, 1) := by decide +kernel
theorem dX9_rains_38 : decode cX9_rains 38 = .ok (.iadd, 1) := by decide +kernel
theorem dX9_rains_39 : decode cX9_rains 39 = .ok (.istore_n 1, 1) := by decide +kernel
theorem dX9_rains_40 : decode cX9_rains 40 = .ok (.iinc 2 1, 3) := by decide +kernel
theorem dX9_rains_43 : decode cX9_rains 43 = .ok (.goto (-26), 3) := by decide +kernel
theorem dX9_rains_46 : decode cX9_rains 46 = .ok (.iload_n 1, 1) := by decide +kernel
theorem dX9_rains_47 : decode cX9_rains 47 = .ok (.ireturn, 1) := by decide +kernel
set_option maxRecDepth 20000 in
theorem ggX9_lone_X6_isTold : GoodIn wsX9_lone wsX6_isTold := goodIn_r _ [6, 7, 50, 51, 52, 53, 54, 55, 56, 57, 58, 59, 60, 61, 62, 63, 64, 65, 66, 67] (by decide +kernel) (by decide +kernel)
set_option maxRecDepth 20000 in
theorem gX9_lone_X6_isTold_n148 : GoodIn wsX9_lone (wsX6_isTold) := ggX9_lone_X6_isTold
set_option maxRecDepth 20000 in
theorem ggX9_lone_X1_visitedBy : GoodIn wsX9_lone wsX1_visitedBy := goodIn_r _ [11, 12, 13, 14, 15, 9, 16, 17, 18, 19, 20, 21, 22, 23, 24, 25, 26, 27, 28, 29, 30, 31, 32, 33, 34, 68, 69, 70, 71, 72, 73, 74, 75, 76, 77, 78, 79, 50, 51, 52, 53, 54, 55, 56, 57, 58, 59, 60, 61, 62, 63, 64, 65, 66, 67] (by decide +kernel) (by decide +kernel)
set_option maxRecDepth 20000 in
theorem gX9_lone_X1_visitedBy_n186 : GoodIn wsX9_lone (wsX1_visitedBy) := ggX9_lone_X1_visitedBy
set_option maxRecDepth 20000 in
theorem ggX9_lone_X6_everyRank : GoodIn wsX9_lone wsX6_everyRank := goodIn_r _ [37, 38, 50, 51, 52, 53, 54, 55, 56, 57, 58, 59, 60, 61, 62, 63, 64, 65, 66, 67] (by decide +kernel) (by decide +kernel)
set_option maxRecDepth 20000 in
theorem gX9_lone_X6_everyRank_n189 : GoodIn wsX9_lone (wsX6_everyRank) := ggX9_lone_X6_everyRank
theorem dX9_lone_0 : decode cX9_lone 0 = .ok (.aload_n 0, 1) := by decide +kernel
theorem dX9_lone_1 : decode cX9_lone 1 = .ok (.getfield 28, 3) := by decide +kernel
theorem dX9_lone_4 : decode cX9_lone 4 = .ok (.invokevirtual 148, 3) := by decide +kernel
theorem dX9_lone_7 : decode cX9_lone 7 = .ok (.ifCond .ne 6, 3) := by decide +kernel
theorem dX9_lone_10 : decode cX9_lone 10 = .ok (.bipush (-2), 2) := by decide +kernel
theorem dX9_lone_12 : decode cX9_lone 12 = .ok (.ireturn, 1) := by decide +kernel
theorem dX9_lone_13 : decode cX9_lone 13 = .ok (.iconst 0, 1) := by decide +kernel
theorem dX9_lone_14 : decode cX9_lone 14 = .ok (.istore_n 1, 1) := by decide +kernel
theorem dX9_lone_15 : decode cX9_lone 15 = .ok (.iconst 0, 1) := by decide +kernel
theorem dX9_lone_16 : decode cX9_lone 16 = .ok (.istore_n 2, 1) := by decide +kernel
theorem dX9_lone_17 : decode cX9_lone 17 = .ok (.iload_n 2, 1) := by decide +kernel
theorem dX9_lone_18 : decode cX9_lone 18 = .ok (.aload_n 0, 1) := by decide +kernel
theorem dX9_lone_19 : decode cX9_lone 19 = .ok (.getfield 28, 3) := by decide +kernel
theorem dX9_lone_22 : decode cX9_lone 22 = .ok (.getfield 178, 3) := by decide +kernel
theorem dX9_lone_25 : decode cX9_lone 25 = .ok (.if_icmp .ge 40, 3) := by decide +kernel
theorem dX9_lone_28 : decode cX9_lone 28 = .ok (.iconst 0, 1) := by decide +kernel
theorem dX9_lone_29 : decode cX9_lone 29 = .ok (.istore_n 3, 1) := by decide +kernel
theorem dX9_lone_30 : decode cX9_lone 30 = .ok (.iload_n 3, 1) := by decide +kernel
theorem dX9_lone_31 : decode cX9_lone 31 = .ok (.aload_n 0, 1) := by decide +kernel
theorem dX9_lone_32 : decode cX9_lone 32 = .ok (.getfield 28, 3) := by decide +kernel
theorem dX9_lone_35 : decode cX9_lone 35 = .ok (.getfield 175, 3) := by decide +kernel
theorem dX9_lone_38 : decode cX9_lone 38 = .ok (.if_icmp .ge 21, 3) := by decide +kernel
theorem dX9_lone_41 : decode cX9_lone 41 = .ok (.iload_n 1, 1) := by decide +kernel
theorem dX9_lone_42 : decode cX9_lone 42 = .ok (.aload_n 0, 1) := by decide +kernel
theorem dX9_lone_43 : decode cX9_lone 43 = .ok (.getfield 48, 3) := by decide +kernel
theorem dX9_lone_46 : decode cX9_lone 46 = .ok (.iload_n 3, 1) := by decide +kernel
theorem dX9_lone_47 : decode cX9_lone 47 = .ok (.iload_n 2, 1) := by decide +kernel
theorem dX9_lone_48 : decode cX9_lone 48 = .ok (.invokevirtual 186, 3) := by decide +kernel
theorem dX9_lone_51 : decode cX9_lone 51 = .ok (.ior, 1) := by decide +kernel
theorem dX9_lone_52 : decode cX9_lone 52 = .ok (.istore_n 1, 1) := by decide +kernel
theorem dX9_lone_53 : decode cX9_lone 53 = .ok (.iinc 3 1, 3) := by decide +kernel
theorem dX9_lone_56 : decode cX9_lone 56 = .ok (.goto (-26), 3) := by decide +kernel
theorem dX9_lone_59 : decode cX9_lone 59 = .ok (.iinc 2 1, 3) := by decide +kernel
theorem dX9_lone_62 : decode cX9_lone 62 = .ok (.goto (-45), 3) := by decide +kernel
theorem dX9_lone_65 : decode cX9_lone 65 = .ok (.aload_n 0, 1) := by decide +kernel
theorem dX9_lone_66 : decode cX9_lone 66 = .ok (.getfield 28, 3) := by decide +kernel
theorem dX9_lone_69 : decode cX9_lone 69 = .ok (.invokevirtual 189, 3) := by decide +kernel
theorem dX9_lone_72 : decode cX9_lone 72 = .ok (.iload_n 1, 1) := by decide +kernel
theorem dX9_lone_73 : decode cX9_lone 73 = .ok (.iconst (-1), 1) := by decide +kernel
theorem dX9_lone_74 : decode cX9_lone 74 = .ok (.ixor, 1) := by decide +kernel
theorem dX9_lone_75 : decode cX9_lone 75 = .ok (.iand, 1) := by decide +kernel
theorem dX9_lone_76 : decode cX9_lone 76 = .ok (.ireturn, 1) := by decide +kernel
set_option maxRecDepth 20000 in
theorem ggX9_over_X6_hasRank : GoodIn wsX9_over wsX6_hasRank := goodIn_r _ [6, 7, 47, 48, 49, 50, 51, 52, 53, 54, 55, 56, 57, 58, 59, 60, 61, 62, 63, 64] (by decide +kernel) (by decide +kernel)
set_option maxRecDepth 20000 in
theorem gX9_over_X6_hasRank_n98 : GoodIn wsX9_over (wsX6_hasRank) := ggX9_over_X6_hasRank
set_option maxRecDepth 20000 in
theorem ggX9_over_X6_hasBoth : GoodIn wsX9_over wsX6_hasBoth := goodIn_r _ [10, 11, 3, 5, 4, 6, 7, 12, 13, 14, 15, 16, 47, 48, 49, 50, 51, 52, 53, 54, 55, 56, 57, 58, 59, 60, 61, 62, 63, 64] (by decide +kernel) (by decide +kernel)
set_option maxRecDepth 20000 in
theorem gX9_over_X6_hasBoth_n155 : GoodIn wsX9_over (wsX6_hasBoth) := ggX9_over_X6_hasBoth
set_option maxRecDepth 20000 in
theorem ggX9_over_X1_crosses : GoodIn wsX9_over wsX1_crosses := goodIn_r _ [20, 21, 22, 23, 24, 18, 25, 26, 27, 28, 29, 30, 31, 32, 33, 34, 35, 65, 66, 67, 68, 69, 70, 71, 72, 73, 74, 75, 76, 47, 48, 49, 50, 51, 52, 53, 54, 55, 56, 57, 58, 59, 60, 61, 62, 63, 64] (by decide +kernel) (by decide +kernel)
set_option maxRecDepth 20000 in
theorem gX9_over_X1_crosses_n193 : GoodIn wsX9_over (wsX1_crosses) := ggX9_over_X1_crosses
theorem dX9_over_0 : decode cX9_over 0 = .ok (.aload_n 0, 1) := by decide +kernel
theorem dX9_over_1 : decode cX9_over 1 = .ok (.getfield 28, 3) := by decide +kernel
theorem dX9_over_4 : decode cX9_over 4 = .ok (.iload_n 2, 1) := by decide +kernel
theorem dX9_over_5 : decode cX9_over 5 = .ok (.invokevirtual 98, 3) := by decide +kernel
theorem dX9_over_8 : decode cX9_over 8 = .ok (.ifCond .eq 15, 3) := by decide +kernel
theorem dX9_over_11 : decode cX9_over 11 = .ok (.aload_n 0, 1) := by decide +kernel
theorem dX9_over_12 : decode cX9_over 12 = .ok (.getfield 28, 3) := by decide +kernel
theorem dX9_over_15 : decode cX9_over 15 = .ok (.iload_n 1, 1) := by decide +kernel
theorem dX9_over_16 : decode cX9_over 16 = .ok (.iload_n 3, 1) := by decide +kernel
theorem dX9_over_17 : decode cX9_over 17 = .ok (.invokevirtual 155, 3) := by decide +kernel
theorem dX9_over_20 : decode cX9_over 20 = .ok (.ifCond .ne 6, 3) := by decide +kernel
theorem dX9_over_23 : decode cX9_over 23 = .ok (.bipush (-2), 2) := by decide +kernel
theorem dX9_over_25 : decode cX9_over 25 = .ok (.ireturn, 1) := by decide +kernel
theorem dX9_over_26 : decode cX9_over 26 = .ok (.aload_n 0, 1) := by decide +kernel
theorem dX9_over_27 : decode cX9_over 27 = .ok (.getfield 48, 3) := by decide +kernel
theorem dX9_over_30 : decode cX9_over 30 = .ok (.iload_n 1, 1) := by decide +kernel
theorem dX9_over_31 : decode cX9_over 31 = .ok (.iload_n 2, 1) := by decide +kernel
theorem dX9_over_32 : decode cX9_over 32 = .ok (.iload_n 3, 1) := by decide +kernel
theorem dX9_over_33 : decode cX9_over 33 = .ok (.invokevirtual 193, 3) := by decide +kernel
theorem dX9_over_36 : decode cX9_over 36 = .ok (.ifCond .eq 7, 3) := by decide +kernel
theorem dX9_over_39 : decode cX9_over 39 = .ok (.iconst 1, 1) := by decide +kernel
theorem dX9_over_40 : decode cX9_over 40 = .ok (.goto 4, 3) := by decide +kernel
theorem dX9_over_43 : decode cX9_over 43 = .ok (.iconst 0, 1) := by decide +kernel
theorem dX9_over_44 : decode cX9_over 44 = .ok (.ireturn, 1) := by decide +kernel
set_option maxRecDepth 20000 in
theorem ggX9_comes_X6_hasBoth : GoodIn wsX9_comes wsX6_hasBoth := goodIn_r _ [6, 7, 8, 9, 4, 10, 11, 12, 13, 14, 15, 16, 55, 56, 57, 58, 59, 60, 61, 62, 63, 64, 65, 66, 67, 68, 69, 70, 71, 72] (by decide +kernel) (by decide +kernel)
set_option maxRecDepth 20000 in
theorem gX9_comes_X6_hasBoth_n155 : GoodIn wsX9_comes (wsX6_hasBoth) := ggX9_comes_X6_hasBoth
set_option maxRecDepth 20000 in
theorem ggX9_comes_X1_visitedBy : GoodIn wsX9_comes wsX1_visitedBy := goodIn_r _ [20, 21, 22, 23, 24, 18, 25, 26, 27, 28, 29, 30, 31, 32, 33, 34, 35, 36, 37, 38, 39, 40, 41, 42, 43, 73, 74, 75, 76, 77, 78, 79, 80, 81, 82, 83, 84, 55, 56, 57, 58, 59, 60, 61, 62, 63, 64, 65, 66, 67, 68, 69, 70, 71, 72] (by decide +kernel) (by decide +kernel)
set_option maxRecDepth 20000 in
theorem gX9_comes_X1_visitedBy_n186 : GoodIn wsX9_comes (wsX1_visitedBy) := ggX9_comes_X1_visitedBy
theorem dX9_comes_0 : decode cX9_comes 0 = .ok (.aload_n 0, 1) := by decide +kernel
theorem dX9_comes_1 : decode cX9_comes 1 = .ok (.getfield 28, 3) := by decide +kernel
theorem dX9_comes_4 : decode cX9_comes 4 = .ok (.iload_n 1, 1) := by decide +kernel
theorem dX9_comes_5 : decode cX9_comes 5 = .ok (.iload_n 2, 1) := by decide +kernel
theorem dX9_comes_6 : decode cX9_comes 6 = .ok (.invokevirtual 155, 3) := by decide +kernel
theorem dX9_comes_9 : decode cX9_comes 9 = .ok (.ifCond .eq 15, 3) := by decide +kernel
theorem dX9_comes_12 : decode cX9_comes 12 = .ok (.aload_n 0, 1) := by decide +kernel
theorem dX9_comes_13 : decode cX9_comes 13 = .ok (.getfield 48, 3) := by decide +kernel
theorem dX9_comes_16 : decode cX9_comes 16 = .ok (.iload_n 1, 1) := by decide +kernel
theorem dX9_comes_17 : decode cX9_comes 17 = .ok (.iload_n 2, 1) := by decide +kernel
theorem dX9_comes_18 : decode cX9_comes 18 = .ok (.invokevirtual 186, 3) := by decide +kernel
theorem dX9_comes_21 : decode cX9_comes 21 = .ok (.goto 5, 3) := by decide +kernel
theorem dX9_comes_24 : decode cX9_comes 24 = .ok (.bipush (-2), 2) := by decide +kernel
theorem dX9_comes_26 : decode cX9_comes 26 = .ok (.ireturn, 1) := by decide +kernel
set_option maxRecDepth 20000 in
theorem ggX9_guests_X6_hasBoth : GoodIn wsX9_guests wsX6_hasBoth := goodIn_r _ [6, 7, 8, 9, 4, 10, 11, 12, 13, 14, 15, 16, 51, 52, 53, 54, 55, 56, 57, 58, 59, 60, 61, 62, 63, 64, 65, 66, 67, 68] (by decide +kernel) (by decide +kernel)
set_option maxRecDepth 20000 in
theorem gX9_guests_X6_hasBoth_n155 : GoodIn wsX9_guests (wsX6_hasBoth) := ggX9_guests_X6_hasBoth
set_option maxRecDepth 20000 in
theorem ggX9_guests_X1_visits : GoodIn wsX9_guests wsX1_visits := goodIn_r _ [20, 21, 22, 23, 18, 24, 25, 26, 27, 28, 29, 30, 31, 32, 33, 34, 35, 36, 37, 38, 39, 69, 70, 71, 72, 73, 74, 75, 76, 77, 78, 79, 80, 51, 52, 53, 54, 55, 56, 57, 58, 59, 60, 61, 62, 63, 64, 65, 66, 67, 68] (by decide +kernel) (by decide +kernel)
set_option maxRecDepth 20000 in
theorem gX9_guests_X1_visits_n197 : GoodIn wsX9_guests (wsX1_visits) := ggX9_guests_X1_visits
theorem dX9_guests_0 : decode cX9_guests 0 = .ok (.aload_n 0, 1) := by decide +kernel
theorem dX9_guests_1 : decode cX9_guests 1 = .ok (.getfield 28, 3) := by decide +kernel
theorem dX9_guests_4 : decode cX9_guests 4 = .ok (.iload_n 1, 1) := by decide +kernel
theorem dX9_guests_5 : decode cX9_guests 5 = .ok (.iload_n 2, 1) := by decide +kernel
theorem dX9_guests_6 : decode cX9_guests 6 = .ok (.invokevirtual 155, 3) := by decide +kernel
theorem dX9_guests_9 : decode cX9_guests 9 = .ok (.ifCond .ne 6, 3) := by decide +kernel
theorem dX9_guests_12 : decode cX9_guests 12 = .ok (.bipush (-2), 2) := by decide +kernel
theorem dX9_guests_14 : decode cX9_guests 14 = .ok (.ireturn, 1) := by decide +kernel
theorem dX9_guests_15 : decode cX9_guests 15 = .ok (.iconst 0, 1) := by decide +kernel
theorem dX9_guests_16 : decode cX9_guests 16 = .ok (.istore_n 3, 1) := by decide +kernel
theorem dX9_guests_17 : decode cX9_guests 17 = .ok (.iconst 0, 1) := by decide +kernel
theorem dX9_guests_18 : decode cX9_guests 18 = .ok (.istore 4, 2) := by decide +kernel
theorem dX9_guests_20 : decode cX9_guests 20 = .ok (.iload 4, 2) := by decide +kernel
theorem dX9_guests_22 : decode cX9_guests 22 = .ok (.aload_n 0, 1) := by decide +kernel
theorem dX9_guests_23 : decode cX9_guests 23 = .ok (.getfield 28, 3) := by decide +kernel
theorem dX9_guests_26 : decode cX9_guests 26 = .ok (.getfield 175, 3) := by decide +kernel
theorem dX9_guests_29 : decode cX9_guests 29 = .ok (.if_icmp .ge 30, 3) := by decide +kernel
theorem dX9_guests_32 : decode cX9_guests 32 = .ok (.aload_n 0, 1) := by decide +kernel
theorem dX9_guests_33 : decode cX9_guests 33 = .ok (.getfield 48, 3) := by decide +kernel
theorem dX9_guests_36 : decode cX9_guests 36 = .ok (.iload 4, 2) := by decide +kernel
theorem dX9_guests_38 : decode cX9_guests 38 = .ok (.iload_n 1, 1) := by decide +kernel
theorem dX9_guests_39 : decode cX9_guests 39 = .ok (.iload_n 2, 1) := by decide +kernel
theorem dX9_guests_40 : decode cX9_guests 40 = .ok (.invokevirtual 197, 3) := by decide +kernel
theorem dX9_guests_43 : decode cX9_guests 43 = .ok (.ifCond .eq 10, 3) := by decide +kernel
theorem dX9_guests_46 : decode cX9_guests 46 = .ok (.iload_n 3, 1) := by decide +kernel
theorem dX9_guests_47 : decode cX9_guests 47 = .ok (.iconst 1, 1) := by decide +kernel
theorem dX9_guests_48 : decode cX9_guests 48 = .ok (.iload 4, 2) := by decide +kernel
theorem dX9_guests_50 : decode cX9_guests 50 = .ok (.ishl, 1) := by decide +kernel
theorem dX9_guests_51 : decode cX9_guests 51 = .ok (.ior, 1) := by decide +kernel
theorem dX9_guests_52 : decode cX9_guests 52 = .ok (.istore_n 3, 1) := by decide +kernel
theorem dX9_guests_53 : decode cX9_guests 53 = .ok (.iinc 4 1, 3) := by decide +kernel
theorem dX9_guests_56 : decode cX9_guests 56 = .ok (.goto (-36), 3) := by decide +kernel
theorem dX9_guests_59 : decode cX9_guests 59 = .ok (.iload_n 3, 1) := by decide +kernel
theorem dX9_guests_60 : decode cX9_guests 60 = .ok (.ireturn, 1) := by decide +kernel
set_option maxRecDepth 20000 in
theorem ggX9_first_X6_hasTwo : GoodIn wsX9_first wsX6_hasTwo := goodIn_r _ [6, 7, 8, 9, 4, 10, 11, 46, 47, 48, 49, 50, 51, 52, 53, 54, 55, 56, 57, 58, 59, 60, 61, 62, 63] (by decide +kernel) (by decide +kernel)
set_option maxRecDepth 20000 in
theorem gX9_first_X6_hasTwo_n200 : GoodIn wsX9_first (wsX6_hasTwo) := ggX9_first_X6_hasTwo
set_option maxRecDepth 20000 in
theorem ggX9_first_X1_visits : GoodIn wsX9_first wsX1_visits := goodIn_r _ [15, 16, 17, 18, 13, 19, 20, 21, 22, 23, 24, 25, 26, 27, 28, 29, 30, 31, 32, 33, 34, 64, 65, 66, 67, 68, 69, 70, 71, 72, 73, 74, 75, 46, 47, 48, 49, 50, 51, 52, 53, 54, 55, 56, 57, 58, 59, 60, 61, 62, 63] (by decide +kernel) (by decide +kernel)
set_option maxRecDepth 20000 in
theorem gX9_first_X1_visits_n197 : GoodIn wsX9_first (wsX1_visits) := ggX9_first_X1_visits
theorem dX9_first_0 : decode cX9_first 0 = .ok (.aload_n 0, 1) := by decide +kernel
theorem dX9_first_1 : decode cX9_first 1 = .ok (.getfield 28, 3) := by decide +kernel
theorem dX9_first_4 : decode cX9_first 4 = .ok (.iload_n 1, 1) := by decide +kernel
theorem dX9_first_5 : decode cX9_first 5 = .ok (.iload_n 2, 1) := by decide +kernel
theorem dX9_first_6 : decode cX9_first 6 = .ok (.invokevirtual 200, 3) := by decide +kernel
theorem dX9_first_9 : decode cX9_first 9 = .ok (.ifCond .ne 6, 3) := by decide +kernel
theorem dX9_first_12 : decode cX9_first 12 = .ok (.bipush (-2), 2) := by decide +kernel
theorem dX9_first_14 : decode cX9_first 14 = .ok (.ireturn, 1) := by decide +kernel
theorem dX9_first_15 : decode cX9_first 15 = .ok (.iconst 0, 1) := by decide +kernel
theorem dX9_first_16 : decode cX9_first 16 = .ok (.istore_n 3, 1) := by decide +kernel
theorem dX9_first_17 : decode cX9_first 17 = .ok (.iload_n 3, 1) := by decide +kernel
theorem dX9_first_18 : decode cX9_first 18 = .ok (.aload_n 0, 1) := by decide +kernel
theorem dX9_first_19 : decode cX9_first 19 = .ok (.getfield 28, 3) := by decide +kernel
theorem dX9_first_22 : decode cX9_first 22 = .ok (.getfield 178, 3) := by decide +kernel
theorem dX9_first_25 : decode cX9_first 25 = .ok (.if_icmp .ge 24, 3) := by decide +kernel
theorem dX9_first_28 : decode cX9_first 28 = .ok (.aload_n 0, 1) := by decide +kernel
theorem dX9_first_29 : decode cX9_first 29 = .ok (.getfield 48, 3) := by decide +kernel
theorem dX9_first_32 : decode cX9_first 32 = .ok (.iload_n 1, 1) := by decide +kernel
theorem dX9_first_33 : decode cX9_first 33 = .ok (.iload_n 2, 1) := by decide +kernel
theorem dX9_first_34 : decode cX9_first 34 = .ok (.iload_n 3, 1) := by decide +kernel
theorem dX9_first_35 : decode cX9_first 35 = .ok (.invokevirtual 197, 3) := by decide +kernel
theorem dX9_first_38 : decode cX9_first 38 = .ok (.ifCond .eq 5, 3) := by decide +kernel
theorem dX9_first_41 : decode cX9_first 41 = .ok (.iload_n 3, 1) := by decide +kernel
theorem dX9_first_42 : decode cX9_first 42 = .ok (.ireturn, 1) := by decide +kernel
theorem dX9_first_43 : decode cX9_first 43 = .ok (.iinc 3 1, 3) := by decide +kernel
theorem dX9_first_46 : decode cX9_first 46 = .ok (.goto (-29), 3) := by decide +kernel
theorem dX9_first_49 : decode cX9_first 49 = .ok (.iconst (-1), 1) := by decide +kernel
theorem dX9_first_50 : decode cX9_first 50 = .ok (.ireturn, 1) := by decide +kernel
set_option maxRecDepth 20000 in
theorem ggX9_often_X6_hasTwo : GoodIn wsX9_often wsX6_hasTwo := goodIn_r _ [6, 7, 8, 9, 4, 10, 11, 46, 47, 48, 49, 50, 51, 52, 53, 54, 55, 56, 57, 58, 59, 60, 61, 62, 63] (by decide +kernel) (by decide +kernel)
set_option maxRecDepth 20000 in
theorem gX9_often_X6_hasTwo_n200 : GoodIn wsX9_often (wsX6_hasTwo) := ggX9_often_X6_hasTwo
set_option maxRecDepth 20000 in
theorem ggX9_often_X1_visits : GoodIn wsX9_often wsX1_visits := goodIn_r _ [15, 16, 17, 18, 13, 19, 20, 21, 22, 23, 24, 25, 26, 27, 28, 29, 30, 31, 32, 33, 34, 64, 65, 66, 67, 68, 69, 70, 71, 72, 73, 74, 75, 46, 47, 48, 49, 50, 51, 52, 53, 54, 55, 56, 57, 58, 59, 60, 61, 62, 63] (by decide +kernel) (by decide +kernel)
set_option maxRecDepth 20000 in
theorem gX9_often_X1_visits_n197 : GoodIn wsX9_often (wsX1_visits) := ggX9_often_X1_visits
theorem dX9_often_0 : decode cX9_often 0 = .ok (.aload_n 0, 1) := by decide +kernel
theorem dX9_often_1 : decode cX9_often 1 = .ok (.getfield 28, 3) := by decide +kernel
theorem dX9_often_4 : decode cX9_often 4 = .ok (.iload_n 1, 1) := by decide +kernel
theorem dX9_often_5 : decode cX9_often 5 = .ok (.iload_n 2, 1) := by decide +kernel
theorem dX9_often_6 : decode cX9_often 6 = .ok (.invokevirtual 200, 3) := by decide +kernel
theorem dX9_often_9 : decode cX9_often 9 = .ok (.ifCond .ne 6, 3) := by decide +kernel
theorem dX9_often_12 : decode cX9_often 12 = .ok (.bipush (-2), 2) := by decide +kernel
theorem dX9_often_14 : decode cX9_often 14 = .ok (.ireturn, 1) := by decide +kernel
theorem dX9_often_15 : decode cX9_often 15 = .ok (.iconst 0, 1) := by decide +kernel
theorem dX9_often_16 : decode cX9_often 16 = .ok (.istore_n 3, 1) := by decide +kernel
theorem dX9_often_17 : decode cX9_often 17 = .ok (.iconst 0, 1) := by decide +kernel
theorem dX9_often_18 : decode cX9_often 18 = .ok (.istore 4, 2) := by decide +kernel
theorem dX9_often_20 : decode cX9_often 20 = .ok (.iload 4, 2) := by decide +kernel
theorem dX9_often_22 : decode cX9_often 22 = .ok (.aload_n 0, 1) := by decide +kernel
theorem dX9_often_23 : decode cX9_often 23 = .ok (.getfield 28, 3) := by decide +kernel
theorem dX9_often_26 : decode cX9_often 26 = .ok (.getfield 178, 3) := by decide +kernel
theorem dX9_often_29 : decode cX9_often 29 = .ok (.if_icmp .ge 26, 3) := by decide +kernel
theorem dX9_often_32 : decode cX9_often 32 = .ok (.aload_n 0, 1) := by decide +kernel
theorem dX9_often_33 : decode cX9_often 33 = .ok (.getfield 48, 3) := by decide +kernel
theorem dX9_often_36 : decode cX9_often 36 = .ok (.iload_n 1, 1) := by decide +kernel
theorem dX9_often_37 : decode cX9_often 37 = .ok (.iload_n 2, 1) := by decide +kernel
theorem dX9_often_38 : decode cX9_often 38 = .ok (.iload 4, 2) := by decide +kernel
theorem dX9_often_40 : decode cX9_often 40 = .ok (.invokevirtual 197, 3) := by decide +kernel
theorem dX9_often_43 : decode cX9_often 43 = .ok (.ifCond .eq 6, 3) := by decide +kernel
theorem dX9_often_46 : decode cX9_often 46 = .ok (.iinc 3 1, 3) := by decide +kernel
theorem dX9_often_49 : decode cX9_often 49 = .ok (.iinc 4 1, 3) := by decide +kernel
theorem dX9_often_52 : decode cX9_often 52 = .ok (.goto (-32), 3) := by decide +kernel
theorem dX9_often_55 : decode cX9_often 55 = .ok (.iload_n 3, 1) := by decide +kernel
theorem dX9_often_56 : decode cX9_often 56 = .ok (.ireturn, 1) := by decide +kernel
set_option maxRecDepth 20000 in
theorem ggX9_news_X6_hasRank : GoodIn wsX9_news wsX6_hasRank := goodIn_r _ [6, 7, 59, 60, 61, 62, 63, 64, 65, 66, 67, 68, 69, 70, 71, 72, 73, 74, 75, 76] (by decide +kernel) (by decide +kernel)
set_option maxRecDepth 20000 in
theorem gX9_news_X6_hasRank_n98 : GoodIn wsX9_news (wsX6_hasRank) := ggX9_news_X6_hasRank
set_option maxRecDepth 20000 in
theorem ggX9_news_X6_hasBoth : GoodIn wsX9_news wsX6_hasBoth := goodIn_r _ [10, 11, 3, 5, 4, 6, 7, 12, 13, 14, 15, 16, 59, 60, 61, 62, 63, 64, 65, 66, 67, 68, 69, 70, 71, 72, 73, 74, 75, 76] (by decide +kernel) (by decide +kernel)
set_option maxRecDepth 20000 in
theorem gX9_news_X6_hasBoth_n155 : GoodIn wsX9_news (wsX6_hasBoth) := ggX9_news_X6_hasBoth
set_option maxRecDepth 20000 in
theorem ggX9_news_X1_spread : GoodIn wsX9_news wsX1_spread := goodIn_r _ [20, 21, 22, 23, 24, 18, 25, 26, 27, 28, 29, 30, 31, 32, 33, 34, 35, 36, 37, 38, 39, 40, 41, 42, 43, 44, 45, 46, 47, 77, 78, 79, 80, 81, 82, 83, 84, 85, 86, 87, 88, 59, 60, 61, 62, 63, 64, 65, 66, 67, 68, 69, 70, 71, 72, 73, 74, 75, 76] (by decide +kernel) (by decide +kernel)
set_option maxRecDepth 20000 in
theorem gX9_news_X1_spread_n203 : GoodIn wsX9_news (wsX1_spread) := ggX9_news_X1_spread
theorem dX9_news_0 : decode cX9_news 0 = .ok (.aload_n 0, 1) := by decide +kernel
theorem dX9_news_1 : decode cX9_news 1 = .ok (.getfield 28, 3) := by decide +kernel
theorem dX9_news_4 : decode cX9_news 4 = .ok (.iload_n 2, 1) := by decide +kernel
theorem dX9_news_5 : decode cX9_news 5 = .ok (.invokevirtual 98, 3) := by decide +kernel
theorem dX9_news_8 : decode cX9_news 8 = .ok (.ifCond .eq 15, 3) := by decide +kernel
theorem dX9_news_11 : decode cX9_news 11 = .ok (.aload_n 0, 1) := by decide +kernel
theorem dX9_news_12 : decode cX9_news 12 = .ok (.getfield 28, 3) := by decide +kernel
theorem dX9_news_15 : decode cX9_news 15 = .ok (.iload_n 1, 1) := by decide +kernel
theorem dX9_news_16 : decode cX9_news 16 = .ok (.iload_n 3, 1) := by decide +kernel
theorem dX9_news_17 : decode cX9_news 17 = .ok (.invokevirtual 155, 3) := by decide +kernel
theorem dX9_news_20 : decode cX9_news 20 = .ok (.ifCond .ne 6, 3) := by decide +kernel
theorem dX9_news_23 : decode cX9_news 23 = .ok (.bipush (-2), 2) := by decide +kernel
theorem dX9_news_25 : decode cX9_news 25 = .ok (.ireturn, 1) := by decide +kernel
theorem dX9_news_26 : decode cX9_news 26 = .ok (.iconst 1, 1) := by decide +kernel
theorem dX9_news_27 : decode cX9_news 27 = .ok (.iload_n 1, 1) := by decide +kernel
theorem dX9_news_28 : decode cX9_news 28 = .ok (.ishl, 1) := by decide +kernel
theorem dX9_news_29 : decode cX9_news 29 = .ok (.istore 4, 2) := by decide +kernel
theorem dX9_news_31 : decode cX9_news 31 = .ok (.iconst 0, 1) := by decide +kernel
theorem dX9_news_32 : decode cX9_news 32 = .ok (.istore 5, 2) := by decide +kernel
theorem dX9_news_34 : decode cX9_news 34 = .ok (.iload 5, 2) := by decide +kernel
theorem dX9_news_36 : decode cX9_news 36 = .ok (.aload_n 0, 1) := by decide +kernel
theorem dX9_news_37 : decode cX9_news 37 = .ok (.getfield 28, 3) := by decide +kernel
theorem dX9_news_40 : decode cX9_news 40 = .ok (.getfield 175, 3) := by decide +kernel
theorem dX9_news_43 : decode cX9_news 43 = .ok (.if_icmp .gt 33, 3) := by decide +kernel
theorem dX9_news_46 : decode cX9_news 46 = .ok (.iload 4, 2) := by decide +kernel
theorem dX9_news_48 : decode cX9_news 48 = .ok (.iload_n 2, 1) := by decide +kernel
theorem dX9_news_49 : decode cX9_news 49 = .ok (.ishr, 1) := by decide +kernel
theorem dX9_news_50 : decode cX9_news 50 = .ok (.iconst 1, 1) := by decide +kernel
theorem dX9_news_51 : decode cX9_news 51 = .ok (.iand, 1) := by decide +kernel
theorem dX9_news_52 : decode cX9_news 52 = .ok (.ifCond .eq 6, 3) := by decide +kernel
theorem dX9_news_55 : decode cX9_news 55 = .ok (.iload 5, 2) := by decide +kernel
theorem dX9_news_57 : decode cX9_news 57 = .ok (.ireturn, 1) := by decide +kernel
theorem dX9_news_58 : decode cX9_news 58 = .ok (.aload_n 0, 1) := by decide +kernel
theorem dX9_news_59 : decode cX9_news 59 = .ok (.getfield 48, 3) := by decide +kernel
theorem dX9_news_62 : decode cX9_news 62 = .ok (.iload 4, 2) := by decide +kernel
theorem dX9_news_64 : decode cX9_news 64 = .ok (.iload_n 3, 1) := by decide +kernel
theorem dX9_news_65 : decode cX9_news 65 = .ok (.invokevirtual 203, 3) := by decide +kernel
theorem dX9_news_68 : decode cX9_news 68 = .ok (.istore 4, 2) := by decide +kernel
theorem dX9_news_70 : decode cX9_news 70 = .ok (.iinc 5 1, 3) := by decide +kernel
theorem dX9_news_73 : decode cX9_news 73 = .ok (.goto (-39), 3) := by decide +kernel
theorem dX9_news_76 : decode cX9_news 76 = .ok (.iconst (-1), 1) := by decide +kernel
theorem dX9_news_77 : decode cX9_news 77 = .ok (.ireturn, 1) := by decide +kernel
set_option maxRecDepth 20000 in
theorem ggX9_friends_X6_hasYear : GoodIn wsX9_friends wsX6_hasYear := goodIn_r _ [6, 7, 46, 47, 48, 49, 50, 51, 52, 53, 54, 55, 56, 57, 58, 59, 60, 61, 62, 63] (by decide +kernel) (by decide +kernel)
set_option maxRecDepth 20000 in
theorem gX9_friends_X6_hasYear_n142 : GoodIn wsX9_friends (wsX6_hasYear) := ggX9_friends_X6_hasYear
set_option maxRecDepth 20000 in
theorem ggX9_friends_X1_pairs : GoodIn wsX9_friends wsX1_pairs := goodIn_r _ [11, 12, 13, 14, 15, 9, 16, 17, 18, 19, 20, 21, 22, 23, 24, 25, 26, 27, 28, 29, 30, 31, 32, 33, 34, 64, 65, 66, 67, 68, 69, 70, 71, 72, 73, 74, 75, 46, 47, 48, 49, 50, 51, 52, 53, 54, 55, 56, 57, 58, 59, 60, 61, 62, 63] (by decide +kernel) (by decide +kernel)
set_option maxRecDepth 20000 in
theorem gX9_friends_X1_pairs_n206 : GoodIn wsX9_friends (wsX1_pairs) := ggX9_friends_X1_pairs
theorem dX9_friends_0 : decode cX9_friends 0 = .ok (.aload_n 0, 1) := by decide +kernel
theorem dX9_friends_1 : decode cX9_friends 1 = .ok (.getfield 28, 3) := by decide +kernel
theorem dX9_friends_4 : decode cX9_friends 4 = .ok (.iload_n 1, 1) := by decide +kernel
theorem dX9_friends_5 : decode cX9_friends 5 = .ok (.invokevirtual 142, 3) := by decide +kernel
theorem dX9_friends_8 : decode cX9_friends 8 = .ok (.ifCond .eq 14, 3) := by decide +kernel
theorem dX9_friends_11 : decode cX9_friends 11 = .ok (.aload_n 0, 1) := by decide +kernel
theorem dX9_friends_12 : decode cX9_friends 12 = .ok (.getfield 48, 3) := by decide +kernel
theorem dX9_friends_15 : decode cX9_friends 15 = .ok (.iload_n 1, 1) := by decide +kernel
theorem dX9_friends_16 : decode cX9_friends 16 = .ok (.invokevirtual 206, 3) := by decide +kernel
theorem dX9_friends_19 : decode cX9_friends 19 = .ok (.goto 5, 3) := by decide +kernel
theorem dX9_friends_22 : decode cX9_friends 22 = .ok (.bipush (-2), 2) := by decide +kernel
theorem dX9_friends_24 : decode cX9_friends 24 = .ok (.ireturn, 1) := by decide +kernel
set_option maxRecDepth 20000 in
theorem ggX9_fair_X6_isTold : GoodIn wsX9_fair wsX6_isTold := goodIn_r _ [6, 7, 46, 47, 48, 49, 50, 51, 52, 53, 54, 55, 56, 57, 58, 59, 60, 61, 62, 63] (by decide +kernel) (by decide +kernel)
set_option maxRecDepth 20000 in
theorem gX9_fair_X6_isTold_n148 : GoodIn wsX9_fair (wsX6_isTold) := ggX9_fair_X6_isTold
set_option maxRecDepth 20000 in
theorem ggX9_fair_X1_pairs : GoodIn wsX9_fair wsX1_pairs := goodIn_r _ [11, 12, 13, 14, 15, 9, 16, 17, 18, 19, 20, 21, 22, 23, 24, 25, 26, 27, 28, 29, 30, 31, 32, 33, 34, 64, 65, 66, 67, 68, 69, 70, 71, 72, 73, 74, 75, 46, 47, 48, 49, 50, 51, 52, 53, 54, 55, 56, 57, 58, 59, 60, 61, 62, 63] (by decide +kernel) (by decide +kernel)
set_option maxRecDepth 20000 in
theorem gX9_fair_X1_pairs_n206 : GoodIn wsX9_fair (wsX1_pairs) := ggX9_fair_X1_pairs
theorem dX9_fair_0 : decode cX9_fair 0 = .ok (.aload_n 0, 1) := by decide +kernel
theorem dX9_fair_1 : decode cX9_fair 1 = .ok (.getfield 28, 3) := by decide +kernel
theorem dX9_fair_4 : decode cX9_fair 4 = .ok (.invokevirtual 148, 3) := by decide +kernel
theorem dX9_fair_7 : decode cX9_fair 7 = .ok (.ifCond .ne 6, 3) := by decide +kernel
theorem dX9_fair_10 : decode cX9_fair 10 = .ok (.bipush (-2), 2) := by decide +kernel
theorem dX9_fair_12 : decode cX9_fair 12 = .ok (.ireturn, 1) := by decide +kernel
theorem dX9_fair_13 : decode cX9_fair 13 = .ok (.iconst 0, 1) := by decide +kernel
theorem dX9_fair_14 : decode cX9_fair 14 = .ok (.istore_n 1, 1) := by decide +kernel
theorem dX9_fair_15 : decode cX9_fair 15 = .ok (.aload_n 0, 1) := by decide +kernel
theorem dX9_fair_16 : decode cX9_fair 16 = .ok (.getfield 48, 3) := by decide +kernel
theorem dX9_fair_19 : decode cX9_fair 19 = .ok (.iconst 0, 1) := by decide +kernel
theorem dX9_fair_20 : decode cX9_fair 20 = .ok (.invokevirtual 206, 3) := by decide +kernel
theorem dX9_fair_23 : decode cX9_fair 23 = .ok (.istore_n 2, 1) := by decide +kernel
theorem dX9_fair_24 : decode cX9_fair 24 = .ok (.iconst 1, 1) := by decide +kernel
theorem dX9_fair_25 : decode cX9_fair 25 = .ok (.istore_n 3, 1) := by decide +kernel
theorem dX9_fair_26 : decode cX9_fair 26 = .ok (.iload_n 3, 1) := by decide +kernel
theorem dX9_fair_27 : decode cX9_fair 27 = .ok (.aload_n 0, 1) := by decide +kernel
theorem dX9_fair_28 : decode cX9_fair 28 = .ok (.getfield 28, 3) := by decide +kernel
theorem dX9_fair_31 : decode cX9_fair 31 = .ok (.getfield 178, 3) := by decide +kernel
theorem dX9_fair_34 : decode cX9_fair 34 = .ok (.if_icmp .ge 30, 3) := by decide +kernel
theorem dX9_fair_37 : decode cX9_fair 37 = .ok (.aload_n 0, 1) := by decide +kernel
theorem dX9_fair_38 : decode cX9_fair 38 = .ok (.getfield 48, 3) := by decide +kernel
theorem dX9_fair_41 : decode cX9_fair 41 = .ok (.iload_n 3, 1) := by decide +kernel
theorem dX9_fair_42 : decode cX9_fair 42 = .ok (.invokevirtual 206, 3) := by decide +kernel
theorem dX9_fair_45 : decode cX9_fair 45 = .ok (.istore 4, 2) := by decide +kernel
theorem dX9_fair_47 : decode cX9_fair 47 = .ok (.iload 4, 2) := by decide +kernel
theorem dX9_fair_49 : decode cX9_fair 49 = .ok (.iload_n 2, 1) := by decide +kernel
theorem dX9_fair_50 : decode cX9_fair 50 = .ok (.if_icmp .le 8, 3) := by decide +kernel
theorem dX9_fair_53 : decode cX9_fair 53 = .ok (.iload 4, 2) := by decide +kernel
theorem dX9_fair_55 : decode cX9_fair 55 = .ok (.istore_n 2, 1) := by decide +kernel
theorem dX9_fair_56 : decode cX9_fair 56 = .ok (.iload_n 3, 1) := by decide +kernel
theorem dX9_fair_57 : decode cX9_fair 57 = .ok (.istore_n 1, 1) := by decide +kernel
theorem dX9_fair_58 : decode cX9_fair 58 = .ok (.iinc 3 1, 3) := by decide +kernel
theorem dX9_fair_61 : decode cX9_fair 61 = .ok (.goto (-35), 3) := by decide +kernel
theorem dX9_fair_64 : decode cX9_fair 64 = .ok (.iload_n 1, 1) := by decide +kernel
theorem dX9_fair_65 : decode cX9_fair 65 = .ok (.ireturn, 1) := by decide +kernel
set_option maxRecDepth 20000 in
theorem ggX9_fords_X6_hasBoth : GoodIn wsX9_fords wsX6_hasBoth := goodIn_r _ [6, 7, 8, 9, 4, 10, 11, 12, 13, 14, 15, 16, 47, 48, 49, 50, 51, 52, 53, 54, 55, 56, 57, 58, 59, 60, 61, 62, 63, 64] (by decide +kernel) (by decide +kernel)
set_option maxRecDepth 20000 in
theorem gX9_fords_X6_hasBoth_n155 : GoodIn wsX9_fords (wsX6_hasBoth) := ggX9_fords_X6_hasBoth
set_option maxRecDepth 20000 in
theorem ggX9_fords_X1_crosses : GoodIn wsX9_fords wsX1_crosses := goodIn_r _ [20, 21, 22, 23, 24, 18, 25, 26, 27, 28, 29, 30, 31, 32, 33, 34, 35, 65, 66, 67, 68, 69, 70, 71, 72, 73, 74, 75, 76, 47, 48, 49, 50, 51, 52, 53, 54, 55, 56, 57, 58, 59, 60, 61, 62, 63, 64] (by decide +kernel) (by decide +kernel)
set_option maxRecDepth 20000 in
theorem gX9_fords_X1_crosses_n193 : GoodIn wsX9_fords (wsX1_crosses) := ggX9_fords_X1_crosses
theorem dX9_fords_0 : decode cX9_fords 0 = .ok (.aload_n 0, 1) := by decide +kernel
theorem dX9_fords_1 : decode cX9_fords 1 = .ok (.getfield 28, 3) := by decide +kernel
theorem dX9_fords_4 : decode cX9_fords 4 = .ok (.iload_n 1, 1) := by decide +kernel
theorem dX9_fords_5 : decode cX9_fords 5 = .ok (.iload_n 2, 1) := by decide +kernel
theorem dX9_fords_6 : decode cX9_fords 6 = .ok (.invokevirtual 155, 3) := by decide +kernel
theorem dX9_fords_9 : decode cX9_fords 9 = .ok (.ifCond .ne 6, 3) := by decide +kernel
theorem dX9_fords_12 : decode cX9_fords 12 = .ok (.bipush (-2), 2) := by decide +kernel
theorem dX9_fords_14 : decode cX9_fords 14 = .ok (.ireturn, 1) := by decide +kernel
theorem dX9_fords_15 : decode cX9_fords 15 = .ok (.iconst 0, 1) := by decide +kernel
theorem dX9_fords_16 : decode cX9_fords 16 = .ok (.istore_n 3, 1) := by decide +kernel
theorem dX9_fords_17 : decode cX9_fords 17 = .ok (.iconst 0, 1) := by decide +kernel
theorem dX9_fords_18 : decode cX9_fords 18 = .ok (.istore 4, 2) := by decide +kernel
theorem dX9_fords_20 : decode cX9_fords 20 = .ok (.iload 4, 2) := by decide +kernel
theorem dX9_fords_22 : decode cX9_fords 22 = .ok (.aload_n 0, 1) := by decide +kernel
theorem dX9_fords_23 : decode cX9_fords 23 = .ok (.getfield 28, 3) := by decide +kernel
theorem dX9_fords_26 : decode cX9_fords 26 = .ok (.getfield 175, 3) := by decide +kernel
theorem dX9_fords_29 : decode cX9_fords 29 = .ok (.if_icmp .ge 30, 3) := by decide +kernel
theorem dX9_fords_32 : decode cX9_fords 32 = .ok (.aload_n 0, 1) := by decide +kernel
theorem dX9_fords_33 : decode cX9_fords 33 = .ok (.getfield 48, 3) := by decide +kernel
theorem dX9_fords_36 : decode cX9_fords 36 = .ok (.iload_n 1, 1) := by decide +kernel
theorem dX9_fords_37 : decode cX9_fords 37 = .ok (.iload 4, 2) := by decide +kernel
theorem dX9_fords_39 : decode cX9_fords 39 = .ok (.iload_n 2, 1) := by decide +kernel
theorem dX9_fords_40 : decode cX9_fords 40 = .ok (.invokevirtual 193, 3) := by decide +kernel
theorem dX9_fords_43 : decode cX9_fords 43 = .ok (.ifCond .eq 10, 3) := by decide +kernel
theorem dX9_fords_46 : decode cX9_fords 46 = .ok (.iload_n 3, 1) := by decide +kernel
theorem dX9_fords_47 : decode cX9_fords 47 = .ok (.iconst 1, 1) := by decide +kernel
theorem dX9_fords_48 : decode cX9_fords 48 = .ok (.iload 4, 2) := by decide +kernel
theorem dX9_fords_50 : decode cX9_fords 50 = .ok (.ishl, 1) := by decide +kernel
theorem dX9_fords_51 : decode cX9_fords 51 = .ok (.ior, 1) := by decide +kernel
theorem dX9_fords_52 : decode cX9_fords 52 = .ok (.istore_n 3, 1) := by decide +kernel
theorem dX9_fords_53 : decode cX9_fords 53 = .ok (.iinc 4 1, 3) := by decide +kernel
theorem dX9_fords_56 : decode cX9_fords 56 = .ok (.goto (-36), 3) := by decide +kernel
theorem dX9_fords_59 : decode cX9_fords 59 = .ok (.iload_n 3, 1) := by decide +kernel
theorem dX9_fords_60 : decode cX9_fords 60 = .ok (.ireturn, 1) := by decide +kernel
set_option maxRecDepth 20000 in
theorem ggX9_shut_X6_hasYear : GoodIn wsX9_shut wsX6_hasYear := goodIn_r _ [6, 7, 38, 39, 40, 41, 42, 43, 44, 45, 46, 47, 48, 49, 50, 51, 52, 53, 54, 55] (by decide +kernel) (by decide +kernel)
set_option maxRecDepth 20000 in
theorem gX9_shut_X6_hasYear_n142 : GoodIn wsX9_shut (wsX6_hasYear) := ggX9_shut_X6_hasYear
set_option maxRecDepth 20000 in
theorem ggX9_shut_X1_crosses : GoodIn wsX9_shut wsX1_crosses := goodIn_r _ [11, 12, 13, 14, 15, 9, 16, 17, 18, 19, 20, 21, 22, 23, 24, 25, 26, 56, 57, 58, 59, 60, 61, 62, 63, 64, 65, 66, 67, 38, 39, 40, 41, 42, 43, 44, 45, 46, 47, 48, 49, 50, 51, 52, 53, 54, 55] (by decide +kernel) (by decide +kernel)
set_option maxRecDepth 20000 in
theorem gX9_shut_X1_crosses_n193 : GoodIn wsX9_shut (wsX1_crosses) := ggX9_shut_X1_crosses
theorem dX9_shut_0 : decode cX9_shut 0 = .ok (.aload_n 0, 1) := by decide +kernel
theorem dX9_shut_1 : decode cX9_shut 1 = .ok (.getfield 28, 3) := by decide +kernel
theorem dX9_shut_4 : decode cX9_shut 4 = .ok (.iload_n 1, 1) := by decide +kernel
theorem dX9_shut_5 : decode cX9_shut 5 = .ok (.invokevirtual 142, 3) := by decide +kernel
theorem dX9_shut_8 : decode cX9_shut 8 = .ok (.ifCond .ne 6, 3) := by decide +kernel
theorem dX9_shut_11 : decode cX9_shut 11 = .ok (.bipush (-2), 2) := by decide +kernel
theorem dX9_shut_13 : decode cX9_shut 13 = .ok (.ireturn, 1) := by decide +kernel
theorem dX9_shut_14 : decode cX9_shut 14 = .ok (.iconst 0, 1) := by decide +kernel
theorem dX9_shut_15 : decode cX9_shut 15 = .ok (.istore_n 2, 1) := by decide +kernel
theorem dX9_shut_16 : decode cX9_shut 16 = .ok (.iconst 0, 1) := by decide +kernel
theorem dX9_shut_17 : decode cX9_shut 17 = .ok (.istore_n 3, 1) := by decide +kernel
theorem dX9_shut_18 : decode cX9_shut 18 = .ok (.iload_n 3, 1) := by decide +kernel
theorem dX9_shut_19 : decode cX9_shut 19 = .ok (.aload_n 0, 1) := by decide +kernel
theorem dX9_shut_20 : decode cX9_shut 20 = .ok (.getfield 28, 3) := by decide +kernel
theorem dX9_shut_23 : decode cX9_shut 23 = .ok (.getfield 175, 3) := by decide +kernel
theorem dX9_shut_26 : decode cX9_shut 26 = .ok (.if_icmp .ge 28, 3) := by decide +kernel
theorem dX9_shut_29 : decode cX9_shut 29 = .ok (.aload_n 0, 1) := by decide +kernel
theorem dX9_shut_30 : decode cX9_shut 30 = .ok (.getfield 48, 3) := by decide +kernel
theorem dX9_shut_33 : decode cX9_shut 33 = .ok (.iload_n 3, 1) := by decide +kernel
theorem dX9_shut_34 : decode cX9_shut 34 = .ok (.iload_n 3, 1) := by decide +kernel
theorem dX9_shut_35 : decode cX9_shut 35 = .ok (.iload_n 1, 1) := by decide +kernel
theorem dX9_shut_36 : decode cX9_shut 36 = .ok (.invokevirtual 193, 3) := by decide +kernel
theorem dX9_shut_39 : decode cX9_shut 39 = .ok (.ifCond .ne 9, 3) := by decide +kernel
theorem dX9_shut_42 : decode cX9_shut 42 = .ok (.iload_n 2, 1) := by decide +kernel
theorem dX9_shut_43 : decode cX9_shut 43 = .ok (.iconst 1, 1) := by decide +kernel
theorem dX9_shut_44 : decode cX9_shut 44 = .ok (.iload_n 3, 1) := by decide +kernel
theorem dX9_shut_45 : decode cX9_shut 45 = .ok (.ishl, 1) := by decide +kernel
theorem dX9_shut_46 : decode cX9_shut 46 = .ok (.ior, 1) := by decide +kernel
theorem dX9_shut_47 : decode cX9_shut 47 = .ok (.istore_n 2, 1) := by decide +kernel
theorem dX9_shut_48 : decode cX9_shut 48 = .ok (.iinc 3 1, 3) := by decide +kernel
theorem dX9_shut_51 : decode cX9_shut 51 = .ok (.goto (-33), 3) := by decide +kernel
theorem dX9_shut_54 : decode cX9_shut 54 = .ok (.iload_n 2, 1) := by decide +kernel
theorem dX9_shut_55 : decode cX9_shut 55 = .ok (.ireturn, 1) := by decide +kernel
set_option maxRecDepth 20000 in
theorem ggX9_widest_X6_hasYear : GoodIn wsX9_widest wsX6_hasYear := goodIn_r _ [10, 11, 58, 59, 60, 61, 62, 63, 64, 65, 66, 67, 68, 69, 70, 71, 72, 73, 74, 75] (by decide +kernel) (by decide +kernel)
set_option maxRecDepth 20000 in
theorem gX9_widest_X6_hasYear_n142 : GoodIn wsX9_widest (wsX6_hasYear) := ggX9_widest_X6_hasYear
set_option maxRecDepth 20000 in
theorem ggX9_widest_X1_farthest : GoodIn wsX9_widest wsX1_farthest := goodIn_r _ [15, 16, 17, 18, 19, 13, 20, 21, 22, 23, 24, 25, 26, 27, 28, 29, 30, 31, 32, 33, 34, 35, 36, 37, 38, 39, 40, 41, 42, 43, 44, 45, 46, 76, 77, 78, 79, 80, 81, 82, 83, 84, 85, 86, 87, 58, 59, 60, 61, 62, 63, 64, 65, 66, 67, 68, 69, 70, 71, 72, 73, 74, 75] (by decide +kernel) (by decide +kernel)
set_option maxRecDepth 20000 in
theorem gX9_widest_X1_farthest_n210 : GoodIn wsX9_widest (wsX1_farthest) := ggX9_widest_X1_farthest
theorem dX9_widest_0 : decode cX9_widest 0 = .ok (.aload_n 0, 1) := by decide +kernel
theorem dX9_widest_1 : decode cX9_widest 1 = .ok (.getfield 28, 3) := by decide +kernel
theorem dX9_widest_4 : decode cX9_widest 4 = .ok (.iload_n 1, 1) := by decide +kernel
theorem dX9_widest_5 : decode cX9_widest 5 = .ok (.invokevirtual 142, 3) := by decide +kernel
theorem dX9_widest_8 : decode cX9_widest 8 = .ok (.ifCond .ne 6, 3) := by decide +kernel
theorem dX9_widest_11 : decode cX9_widest 11 = .ok (.bipush (-2), 2) := by decide +kernel
theorem dX9_widest_13 : decode cX9_widest 13 = .ok (.ireturn, 1) := by decide +kernel
theorem dX9_widest_14 : decode cX9_widest 14 = .ok (.iconst 0, 1) := by decide +kernel
theorem dX9_widest_15 : decode cX9_widest 15 = .ok (.istore_n 2, 1) := by decide +kernel
theorem dX9_widest_16 : decode cX9_widest 16 = .ok (.iconst 0, 1) := by decide +kernel
theorem dX9_widest_17 : decode cX9_widest 17 = .ok (.istore_n 3, 1) := by decide +kernel
theorem dX9_widest_18 : decode cX9_widest 18 = .ok (.iload_n 3, 1) := by decide +kernel
theorem dX9_widest_19 : decode cX9_widest 19 = .ok (.aload_n 0, 1) := by decide +kernel
theorem dX9_widest_20 : decode cX9_widest 20 = .ok (.getfield 28, 3) := by decide +kernel
theorem dX9_widest_23 : decode cX9_widest 23 = .ok (.getfield 175, 3) := by decide +kernel
theorem dX9_widest_26 : decode cX9_widest 26 = .ok (.if_icmp .ge 23, 3) := by decide +kernel
theorem dX9_widest_29 : decode cX9_widest 29 = .ok (.iload_n 2, 1) := by decide +kernel
theorem dX9_widest_30 : decode cX9_widest 30 = .ok (.aload_n 0, 1) := by decide +kernel
theorem dX9_widest_31 : decode cX9_widest 31 = .ok (.getfield 48, 3) := by decide +kernel
theorem dX9_widest_34 : decode cX9_widest 34 = .ok (.iload_n 3, 1) := by decide +kernel
theorem dX9_widest_35 : decode cX9_widest 35 = .ok (.iload_n 1, 1) := by decide +kernel
theorem dX9_widest_36 : decode cX9_widest 36 = .ok (.invokevirtual 210, 3) := by decide +kernel
theorem dX9_widest_39 : decode cX9_widest 39 = .ok (.invokestatic 181, 3) := by decide +kernel
theorem dX9_widest_42 : decode cX9_widest 42 = .ok (.istore_n 2, 1) := by decide +kernel
theorem dX9_widest_43 : decode cX9_widest 43 = .ok (.iinc 3 1, 3) := by decide +kernel
theorem dX9_widest_46 : decode cX9_widest 46 = .ok (.goto (-28), 3) := by decide +kernel
theorem dX9_widest_49 : decode cX9_widest 49 = .ok (.iload_n 2, 1) := by decide +kernel
theorem dX9_widest_50 : decode cX9_widest 50 = .ok (.ireturn, 1) := by decide +kernel
set_option maxRecDepth 20000 in
theorem ggX9_kept_X3_has : GoodIn wsX9_kept wsX3_has := goodIn_r _ [6, 7, 54, 55, 56, 57] (by decide +kernel) (by decide +kernel)
set_option maxRecDepth 20000 in
theorem gX9_kept_X3_has_n128 : GoodIn wsX9_kept (wsX3_has) := ggX9_kept_X3_has
set_option maxRecDepth 20000 in
theorem ggX9_kept_X1_isKept : GoodIn wsX9_kept wsX1_isKept := goodIn_r _ [11, 12, 42, 43, 44, 45, 46, 47, 48, 49, 50, 51, 52, 53] (by decide +kernel) (by decide +kernel)
set_option maxRecDepth 20000 in
theorem gX9_kept_X1_isKept_n216 : GoodIn wsX9_kept (wsX1_isKept) := ggX9_kept_X1_isKept
theorem dX9_kept_0 : decode cX9_kept 0 = .ok (.aload_n 0, 1) := by decide +kernel
theorem dX9_kept_1 : decode cX9_kept 1 = .ok (.getfield 28, 3) := by decide +kernel
theorem dX9_kept_4 : decode cX9_kept 4 = .ok (.getfield 124, 3) := by decide +kernel
theorem dX9_kept_7 : decode cX9_kept 7 = .ok (.iload_n 1, 1) := by decide +kernel
theorem dX9_kept_8 : decode cX9_kept 8 = .ok (.invokevirtual 128, 3) := by decide +kernel
theorem dX9_kept_11 : decode cX9_kept 11 = .ok (.ifCond .ne 6, 3) := by decide +kernel
theorem dX9_kept_14 : decode cX9_kept 14 = .ok (.bipush (-2), 2) := by decide +kernel
theorem dX9_kept_16 : decode cX9_kept 16 = .ok (.ireturn, 1) := by decide +kernel
theorem dX9_kept_17 : decode cX9_kept 17 = .ok (.aload_n 0, 1) := by decide +kernel
theorem dX9_kept_18 : decode cX9_kept 18 = .ok (.getfield 48, 3) := by decide +kernel
theorem dX9_kept_21 : decode cX9_kept 21 = .ok (.iload_n 1, 1) := by decide +kernel
theorem dX9_kept_22 : decode cX9_kept 22 = .ok (.aload_n 0, 1) := by decide +kernel
theorem dX9_kept_23 : decode cX9_kept 23 = .ok (.getfield 48, 3) := by decide +kernel
theorem dX9_kept_26 : decode cX9_kept 26 = .ok (.getfield 213, 3) := by decide +kernel
theorem dX9_kept_29 : decode cX9_kept 29 = .ok (.invokevirtual 216, 3) := by decide +kernel
theorem dX9_kept_32 : decode cX9_kept 32 = .ok (.ifCond .eq 7, 3) := by decide +kernel
theorem dX9_kept_35 : decode cX9_kept 35 = .ok (.iconst 1, 1) := by decide +kernel
theorem dX9_kept_36 : decode cX9_kept 36 = .ok (.goto 4, 3) := by decide +kernel
theorem dX9_kept_39 : decode cX9_kept 39 = .ok (.iconst 0, 1) := by decide +kernel
theorem dX9_kept_40 : decode cX9_kept 40 = .ok (.ireturn, 1) := by decide +kernel
set_option maxRecDepth 20000 in
theorem ggX9_keeps_X6_isTold : GoodIn wsX9_keeps wsX6_isTold := goodIn_r _ [6, 7, 41, 42, 43, 44, 45, 46, 47, 48, 49, 50, 51, 52, 53, 54, 55, 56, 57, 58] (by decide +kernel) (by decide +kernel)
set_option maxRecDepth 20000 in
theorem gX9_keeps_X6_isTold_n148 : GoodIn wsX9_keeps (wsX6_isTold) := ggX9_keeps_X6_isTold
set_option maxRecDepth 20000 in
theorem ggX9_keeps_X1_keptBits : GoodIn wsX9_keeps wsX1_keptBits := goodIn_r _ [11, 12, 13, 14, 15, 9, 16, 17, 29, 30, 31, 32, 33, 34, 35, 36, 37, 38, 39, 40, 41, 42, 43, 44, 45, 46, 47, 48, 49, 50, 51, 52, 53, 54, 55, 56, 57, 58, 59, 60, 61, 62] (by decide +kernel) (by decide +kernel)
set_option maxRecDepth 20000 in
theorem gX9_keeps_X1_keptBits_n219 : GoodIn wsX9_keeps (wsX1_keptBits) := ggX9_keeps_X1_keptBits
theorem dX9_keeps_0 : decode cX9_keeps 0 = .ok (.aload_n 0, 1) := by decide +kernel
theorem dX9_keeps_1 : decode cX9_keeps 1 = .ok (.getfield 28, 3) := by decide +kernel
theorem dX9_keeps_4 : decode cX9_keeps 4 = .ok (.invokevirtual 148, 3) := by decide +kernel
theorem dX9_keeps_7 : decode cX9_keeps 7 = .ok (.ifCond .eq 20, 3) := by decide +kernel
theorem dX9_keeps_10 : decode cX9_keeps 10 = .ok (.aload_n 0, 1) := by decide +kernel
theorem dX9_keeps_11 : decode cX9_keeps 11 = .ok (.getfield 48, 3) := by decide +kernel
theorem dX9_keeps_14 : decode cX9_keeps 14 = .ok (.aload_n 0, 1) := by decide +kernel
theorem dX9_keeps_15 : decode cX9_keeps 15 = .ok (.getfield 48, 3) := by decide +kernel
theorem dX9_keeps_18 : decode cX9_keeps 18 = .ok (.getfield 213, 3) := by decide +kernel
theorem dX9_keeps_21 : decode cX9_keeps 21 = .ok (.invokevirtual 219, 3) := by decide +kernel
theorem dX9_keeps_24 : decode cX9_keeps 24 = .ok (.goto 5, 3) := by decide +kernel
theorem dX9_keeps_27 : decode cX9_keeps 27 = .ok (.bipush (-2), 2) := by decide +kernel
theorem dX9_keeps_29 : decode cX9_keeps 29 = .ok (.ireturn, 1) := by decide +kernel
set_option maxRecDepth 20000 in
theorem ggX9_hinders_X3_has : GoodIn wsX9_hinders wsX3_has := goodIn_r _ [6, 7, 43, 44, 45, 46] (by decide +kernel) (by decide +kernel)
set_option maxRecDepth 20000 in
theorem gX9_hinders_X3_has_n128 : GoodIn wsX9_hinders (wsX3_has) := ggX9_hinders_X3_has
set_option maxRecDepth 20000 in
theorem ggX9_hinders_X1_hindrance : GoodIn wsX9_hinders wsX1_hindrance := goodIn_r _ [11, 12, 13, 47, 48, 49, 50, 51, 52, 53, 54, 55, 56, 57, 58] (by decide +kernel) (by decide +kernel)
set_option maxRecDepth 20000 in
theorem gX9_hinders_X1_hindrance_n222 : GoodIn wsX9_hinders (wsX1_hindrance) := ggX9_hinders_X1_hindrance
theorem dX9_hinders_0 : decode cX9_hinders 0 = .ok (.aload_n 0, 1) := by decide +kernel
theorem dX9_hinders_1 : decode cX9_hinders 1 = .ok (.getfield 28, 3) := by decide +kernel
theorem dX9_hinders_4 : decode cX9_hinders 4 = .ok (.getfield 124, 3) := by decide +kernel
theorem dX9_hinders_7 : decode cX9_hinders 7 = .ok (.iload_n 1, 1) := by decide +kernel
theorem dX9_hinders_8 : decode cX9_hinders 8 = .ok (.invokevirtual 128, 3) := by decide +kernel
theorem dX9_hinders_11 : decode cX9_hinders 11 = .ok (.ifCond .eq 14, 3) := by decide +kernel
theorem dX9_hinders_14 : decode cX9_hinders 14 = .ok (.aload_n 0, 1) := by decide +kernel
theorem dX9_hinders_15 : decode cX9_hinders 15 = .ok (.getfield 48, 3) := by decide +kernel
theorem dX9_hinders_18 : decode cX9_hinders 18 = .ok (.iload_n 1, 1) := by decide +kernel
theorem dX9_hinders_19 : decode cX9_hinders 19 = .ok (.invokevirtual 222, 3) := by decide +kernel
theorem dX9_hinders_22 : decode cX9_hinders 22 = .ok (.goto 5, 3) := by decide +kernel
theorem dX9_hinders_25 : decode cX9_hinders 25 = .ok (.bipush (-2), 2) := by decide +kernel
theorem dX9_hinders_27 : decode cX9_hinders 27 = .ok (.ireturn, 1) := by decide +kernel
set_option maxRecDepth 20000 in
theorem ggX9_hosts_X6_hasRank : GoodIn wsX9_hosts wsX6_hasRank := goodIn_r _ [6, 7, 54, 55, 56, 57, 58, 59, 60, 61, 62, 63, 64, 65, 66, 67, 68, 69, 70, 71] (by decide +kernel) (by decide +kernel)
set_option maxRecDepth 20000 in
theorem gX9_hosts_X6_hasRank_n98 : GoodIn wsX9_hosts (wsX6_hasRank) := ggX9_hosts_X6_hasRank
set_option maxRecDepth 20000 in
theorem ggX9_hosts_X1_keptBits : GoodIn wsX9_hosts wsX1_keptBits := goodIn_r _ [11, 12, 13, 14, 15, 9, 16, 17, 42, 43, 44, 45, 46, 47, 48, 49, 50, 51, 52, 53, 54, 55, 56, 57, 58, 59, 60, 61, 62, 63, 64, 65, 66, 67, 68, 69, 70, 71, 72, 73, 74, 75] (by decide +kernel) (by decide +kernel)
set_option maxRecDepth 20000 in
theorem gX9_hosts_X1_keptBits_n219 : GoodIn wsX9_hosts (wsX1_keptBits) := ggX9_hosts_X1_keptBits
set_option maxRecDepth 20000 in
theorem ggX9_hosts_X3_toWhom : GoodIn wsX9_hosts wsX3_toWhom := goodIn_r _ [21, 22, 23, 72, 73, 74, 75] (by decide +kernel) (by decide +kernel)
set_option maxRecDepth 20000 in
theorem gX9_hosts_X3_toWhom_n225 : GoodIn wsX9_hosts (wsX3_toWhom) := ggX9_hosts_X3_toWhom
set_option maxRecDepth 20000 in
theorem ggX9_hosts_J6_bitCount_0f7a4 : GoodIn wsX9_hosts wsJ6_bitCount_0f7a4 := goodIn_r _ [27, 28, 29, 30] (by decide +kernel) (by decide +kernel)
set_option maxRecDepth 20000 in
theorem gX9_hosts_J6_bitCount_0f7a4 : GoodIn wsX9_hosts (va_wsS RX9 228 yJ6_bitCount_0f7a4 wsJ6_bitCount_0f7a4) := goodIn_app (goodIn_of _ (by decide +kernel)) ggX9_hosts_J6_bitCount_0f7a4
theorem dX9_hosts_0 : decode cX9_hosts 0 = .ok (.aload_n 0, 1) := by decide +kernel
theorem dX9_hosts_1 : decode cX9_hosts 1 = .ok (.getfield 28, 3) := by decide +kernel
theorem dX9_hosts_4 : decode cX9_hosts 4 = .ok (.iload_n 1, 1) := by decide +kernel
theorem dX9_hosts_5 : decode cX9_hosts 5 = .ok (.invokevirtual 98, 3) := by decide +kernel
theorem dX9_hosts_8 : decode cX9_hosts 8 = .ok (.ifCond .eq 35, 3) := by decide +kernel
theorem dX9_hosts_11 : decode cX9_hosts 11 = .ok (.aload_n 0, 1) := by decide +kernel
theorem dX9_hosts_12 : decode cX9_hosts 12 = .ok (.getfield 48, 3) := by decide +kernel
theorem dX9_hosts_15 : decode cX9_hosts 15 = .ok (.aload_n 0, 1) := by decide +kernel
theorem dX9_hosts_16 : decode cX9_hosts 16 = .ok (.getfield 48, 3) := by decide +kernel
theorem dX9_hosts_19 : decode cX9_hosts 19 = .ok (.getfield 213, 3) := by decide +kernel
theorem dX9_hosts_22 : decode cX9_hosts 22 = .ok (.invokevirtual 219, 3) := by decide +kernel
theorem dX9_hosts_25 : decode cX9_hosts 25 = .ok (.aload_n 0, 1) := by decide +kernel
theorem dX9_hosts_26 : decode cX9_hosts 26 = .ok (.getfield 28, 3) := by decide +kernel
theorem dX9_hosts_29 : decode cX9_hosts 29 = .ok (.getfield 124, 3) := by decide +kernel
theorem dX9_hosts_32 : decode cX9_hosts 32 = .ok (.iload_n 1, 1) := by decide +kernel
theorem dX9_hosts_33 : decode cX9_hosts 33 = .ok (.invokevirtual 225, 3) := by decide +kernel
theorem dX9_hosts_36 : decode cX9_hosts 36 = .ok (.iand, 1) := by decide +kernel
theorem dX9_hosts_37 : decode cX9_hosts 37 = .ok (.invokestatic 228, 3) := by decide +kernel
theorem dX9_hosts_40 : decode cX9_hosts 40 = .ok (.goto 5, 3) := by decide +kernel
theorem dX9_hosts_43 : decode cX9_hosts 43 = .ok (.bipush (-2), 2) := by decide +kernel
theorem dX9_hosts_45 : decode cX9_hosts 45 = .ok (.ireturn, 1) := by decide +kernel
set_option maxRecDepth 20000 in
theorem ggX9_goes_X6_hasRank : GoodIn wsX9_goes wsX6_hasRank := goodIn_r _ [6, 7, 54, 55, 56, 57, 58, 59, 60, 61, 62, 63, 64, 65, 66, 67, 68, 69, 70, 71] (by decide +kernel) (by decide +kernel)
set_option maxRecDepth 20000 in
theorem gX9_goes_X6_hasRank_n98 : GoodIn wsX9_goes (wsX6_hasRank) := ggX9_goes_X6_hasRank
set_option maxRecDepth 20000 in
theorem ggX9_goes_X1_keptBits : GoodIn wsX9_goes wsX1_keptBits := goodIn_r _ [11, 12, 13, 14, 15, 9, 16, 17, 42, 43, 44, 45, 46, 47, 48, 49, 50, 51, 52, 53, 54, 55, 56, 57, 58, 59, 60, 61, 62, 63, 64, 65, 66, 67, 68, 69, 70, 71, 72, 73, 74, 75] (by decide +kernel) (by decide +kernel)
set_option maxRecDepth 20000 in
theorem gX9_goes_X1_keptBits_n219 : GoodIn wsX9_goes (wsX1_keptBits) := ggX9_goes_X1_keptBits
set_option maxRecDepth 20000 in
theorem ggX9_goes_X3_ofWhom : GoodIn wsX9_goes wsX3_ofWhom := goodIn_r _ [21, 22, 23, 72, 73, 74, 75] (by decide +kernel) (by decide +kernel)
set_option maxRecDepth 20000 in
theorem gX9_goes_X3_ofWhom_n233 : GoodIn wsX9_goes (wsX3_ofWhom) := ggX9_goes_X3_ofWhom
set_option maxRecDepth 20000 in
theorem ggX9_goes_J6_bitCount_0f7a4 : GoodIn wsX9_goes wsJ6_bitCount_0f7a4 := goodIn_r _ [27, 28, 29, 30] (by decide +kernel) (by decide +kernel)
set_option maxRecDepth 20000 in
theorem gX9_goes_J6_bitCount_0f7a4 : GoodIn wsX9_goes (va_wsS RX9 228 yJ6_bitCount_0f7a4 wsJ6_bitCount_0f7a4) := goodIn_app (goodIn_of _ (by decide +kernel)) ggX9_goes_J6_bitCount_0f7a4
theorem dX9_goes_0 : decode cX9_goes 0 = .ok (.aload_n 0, 1) := by decide +kernel
theorem dX9_goes_1 : decode cX9_goes 1 = .ok (.getfield 28, 3) := by decide +kernel
theorem dX9_goes_4 : decode cX9_goes 4 = .ok (.iload_n 1, 1) := by decide +kernel
theorem dX9_goes_5 : decode cX9_goes 5 = .ok (.invokevirtual 98, 3) := by decide +kernel
theorem dX9_goes_8 : decode cX9_goes 8 = .ok (.ifCond .eq 35, 3) := by decide +kernel
theorem dX9_goes_11 : decode cX9_goes 11 = .ok (.aload_n 0, 1) := by decide +kernel
theorem dX9_goes_12 : decode cX9_goes 12 = .ok (.getfield 48, 3) := by decide +kernel
theorem dX9_goes_15 : decode cX9_goes 15 = .ok (.aload_n 0, 1) := by decide +kernel
theorem dX9_goes_16 : decode cX9_goes 16 = .ok (.getfield 48, 3) := by decide +kernel
theorem dX9_goes_19 : decode cX9_goes 19 = .ok (.getfield 213, 3) := by decide +kernel
theorem dX9_goes_22 : decode cX9_goes 22 = .ok (.invokevirtual 219, 3) := by decide +kernel
theorem dX9_goes_25 : decode cX9_goes 25 = .ok (.aload_n 0, 1) := by decide +kernel
theorem dX9_goes_26 : decode cX9_goes 26 = .ok (.getfield 28, 3) := by decide +kernel
theorem dX9_goes_29 : decode cX9_goes 29 = .ok (.getfield 124, 3) := by decide +kernel
theorem dX9_goes_32 : decode cX9_goes 32 = .ok (.iload_n 1, 1) := by decide +kernel
theorem dX9_goes_33 : decode cX9_goes 33 = .ok (.invokevirtual 233, 3) := by decide +kernel
theorem dX9_goes_36 : decode cX9_goes 36 = .ok (.iand, 1) := by decide +kernel
theorem dX9_goes_37 : decode cX9_goes 37 = .ok (.invokestatic 228, 3) := by decide +kernel
theorem dX9_goes_40 : decode cX9_goes 40 = .ok (.goto 5, 3) := by decide +kernel
theorem dX9_goes_43 : decode cX9_goes 43 = .ok (.bipush (-2), 2) := by decide +kernel
theorem dX9_goes_45 : decode cX9_goes 45 = .ok (.ireturn, 1) := by decide +kernel
set_option maxRecDepth 20000 in
theorem ggX9_host_X6_isTold : GoodIn wsX9_host wsX6_isTold := goodIn_r _ [6, 7, 54, 55, 56, 57, 58, 59, 60, 61, 62, 63, 64, 65, 66, 67, 68, 69, 70, 71] (by decide +kernel) (by decide +kernel)
set_option maxRecDepth 20000 in
theorem gX9_host_X6_isTold_n148 : GoodIn wsX9_host (wsX6_isTold) := ggX9_host_X6_isTold
set_option maxRecDepth 20000 in
theorem ggX9_host_X1_keptBits : GoodIn wsX9_host wsX1_keptBits := goodIn_r _ [11, 12, 13, 14, 15, 9, 16, 17, 42, 43, 44, 45, 46, 47, 48, 49, 50, 51, 52, 53, 54, 55, 56, 57, 58, 59, 60, 61, 62, 63, 64, 65, 66, 67, 68, 69, 70, 71, 72, 73, 74, 75] (by decide +kernel) (by decide +kernel)
set_option maxRecDepth 20000 in
theorem gX9_host_X1_keptBits_n219 : GoodIn wsX9_host (wsX1_keptBits) := ggX9_host_X1_keptBits
set_option maxRecDepth 20000 in
theorem ggX9_host_X3_toWhom : GoodIn wsX9_host wsX3_toWhom := goodIn_r _ [21, 22, 23, 72, 73, 74, 75] (by decide +kernel) (by decide +kernel)
set_option maxRecDepth 20000 in
theorem gX9_host_X3_toWhom_n225 : GoodIn wsX9_host (wsX3_toWhom) := ggX9_host_X3_toWhom
set_option maxRecDepth 20000 in
theorem ggX9_host_J6_bitCount_0f7a4 : GoodIn wsX9_host wsJ6_bitCount_0f7a4 := goodIn_r _ [27, 28, 29, 30] (by decide +kernel) (by decide +kernel)
set_option maxRecDepth 20000 in
theorem gX9_host_J6_bitCount_0f7a4 : GoodIn wsX9_host (va_wsS RX9 228 yJ6_bitCount_0f7a4 wsJ6_bitCount_0f7a4) := goodIn_app (goodIn_of _ (by decide +kernel)) ggX9_host_J6_bitCount_0f7a4
theorem dX9_host_0 : decode cX9_host 0 = .ok (.aload_n 0, 1) := by decide +kernel
theorem dX9_host_1 : decode cX9_host 1 = .ok (.getfield 28, 3) := by decide +kernel
theorem dX9_host_4 : decode cX9_host 4 = .ok (.invokevirtual 148, 3) := by decide +kernel
theorem dX9_host_7 : decode cX9_host 7 = .ok (.ifCond .ne 6, 3) := by decide +kernel
theorem dX9_host_10 : decode cX9_host 10 = .ok (.bipush (-2), 2) := by decide +kernel
theorem dX9_host_12 : decode cX9_host 12 = .ok (.ireturn, 1) := by decide +kernel
theorem dX9_host_13 : decode cX9_host 13 = .ok (.aload_n 0, 1) := by decide +kernel
theorem dX9_host_14 : decode cX9_host 14 = .ok (.getfield 48, 3) := by decide +kernel
theorem dX9_host_17 : decode cX9_host 17 = .ok (.aload_n 0, 1) := by decide +kernel
theorem dX9_host_18 : decode cX9_host 18 = .ok (.getfield 48, 3) := by decide +kernel
theorem dX9_host_21 : decode cX9_host 21 = .ok (.getfield 213, 3) := by decide +kernel
theorem dX9_host_24 : decode cX9_host 24 = .ok (.invokevirtual 219, 3) := by decide +kernel
theorem dX9_host_27 : decode cX9_host 27 = .ok (.istore_n 1, 1) := by decide +kernel
theorem dX9_host_28 : decode cX9_host 28 = .ok (.iconst (-1), 1) := by decide +kernel
theorem dX9_host_29 : decode cX9_host 29 = .ok (.istore_n 2, 1) := by decide +kernel
theorem dX9_host_30 : decode cX9_host 30 = .ok (.iconst 0, 1) := by decide +kernel
theorem dX9_host_31 : decode cX9_host 31 = .ok (.istore_n 3, 1) := by decide +kernel
theorem dX9_host_32 : decode cX9_host 32 = .ok (.iconst 0, 1) := by decide +kernel
theorem dX9_host_33 : decode cX9_host 33 = .ok (.istore 4, 2) := by decide +kernel
theorem dX9_host_35 : decode cX9_host 35 = .ok (.iload 4, 2) := by decide +kernel
theorem dX9_host_37 : decode cX9_host 37 = .ok (.aload_n 0, 1) := by decide +kernel
theorem dX9_host_38 : decode cX9_host 38 = .ok (.getfield 28, 3) := by decide +kernel
theorem dX9_host_41 : decode cX9_host 41 = .ok (.getfield 175, 3) := by decide +kernel
theorem dX9_host_44 : decode cX9_host 44 = .ok (.if_icmp .ge 40, 3) := by decide +kernel
theorem dX9_host_47 : decode cX9_host 47 = .ok (.iload_n 1, 1) := by decide +kernel
theorem dX9_host_48 : decode cX9_host 48 = .ok (.aload_n 0, 1) := by decide +kernel
theorem dX9_host_49 : decode cX9_host 49 = .ok (.getfield 28, 3) := by decide +kernel
theorem dX9_host_52 : decode cX9_host 52 = .ok (.getfield 124, 3) := by decide +kernel
theorem dX9_host_55 : decode cX9_host 55 = .ok (.iload 4, 2) := by decide +kernel
theorem dX9_host_57 : decode cX9_host 57 = .ok (.invokevirtual 225, 3) := by decide +kernel
theorem dX9_host_60 : decode cX9_host 60 = .ok (.iand, 1) := by decide +kernel
theorem dX9_host_61 : decode cX9_host 61 = .ok (.invokestatic 228, 3) := by decide +kernel
theorem dX9_host_64 : decode cX9_host 64 = .ok (.istore 5, 2) := by decide +kernel
theorem dX9_host_66 : decode cX9_host 66 = .ok (.iload 5, 2) := by decide +kernel
theorem dX9_host_68 : decode cX9_host 68 = .ok (.iload_n 3, 1) := by decide +kernel
theorem dX9_host_69 : decode cX9_host 69 = .ok (.if_icmp .le 9, 3) := by decide +kernel
theorem dX9_host_72 : decode cX9_host 72 = .ok (.iload 5, 2) := by decide +kernel
theorem dX9_host_74 : decode cX9_host 74 = .ok (.istore_n 3, 1) := by decide +kernel
theorem dX9_host_75 : decode cX9_host 75 = .ok (.iload 4, 2) := by decide +kernel
theorem dX9_host_77 : decode cX9_host 77 = .ok (.istore_n 2, 1) := by decide +kernel
theorem dX9_host_78 : decode cX9_host 78 = .ok (.iinc 4 1, 3) := by decide +kernel
theorem dX9_host_81 : decode cX9_host 81 = .ok (.goto (-46), 3) := by decide +kernel
theorem dX9_host_84 : decode cX9_host 84 = .ok (.iload_n 2, 1) := by decide +kernel
theorem dX9_host_85 : decode cX9_host 85 = .ok (.ireturn, 1) := by decide +kernel
set_option maxRecDepth 20000 in
theorem ggX9_idle_X6_isTold : GoodIn wsX9_idle wsX6_isTold := goodIn_r _ [6, 7, 72, 73, 74, 75, 76, 77, 78, 79, 80, 81, 82, 83, 84, 85, 86, 87, 88, 89] (by decide +kernel) (by decide +kernel)
set_option maxRecDepth 20000 in
theorem gX9_idle_X6_isTold_n148 : GoodIn wsX9_idle (wsX6_isTold) := ggX9_idle_X6_isTold
set_option maxRecDepth 20000 in
theorem ggX9_idle_X1_keptSum : GoodIn wsX9_idle wsX1_keptSum := goodIn_r _ [11, 12, 13, 14, 9, 15, 16, 17, 18, 19, 20, 21, 22, 23, 24, 25, 26, 27, 28, 60, 61, 62, 63, 64, 65, 66, 67, 68, 69, 70, 71, 72, 73, 74, 75, 76, 77, 78, 79, 80, 81, 82, 83, 84, 85, 86, 87, 88, 89, 90, 91, 92, 93] (by decide +kernel) (by decide +kernel)
set_option maxRecDepth 20000 in
theorem gX9_idle_X1_keptSum_n236 : GoodIn wsX9_idle (wsX1_keptSum) := ggX9_idle_X1_keptSum
set_option maxRecDepth 20000 in
theorem ggX9_idle_X6_openedByActs : GoodIn wsX9_idle wsX6_openedByActs := goodIn_r _ [31, 32, 33, 34, 35, 4, 36, 37, 38, 39, 40, 41, 42, 72, 73, 74, 75, 76, 77, 78, 79, 80, 81, 82, 83, 84, 85, 86, 87, 88, 89, 94, 95, 96, 97] (by decide +kernel) (by decide +kernel)
set_option maxRecDepth 20000 in
theorem gX9_idle_X6_openedByActs_n239 : GoodIn wsX9_idle (wsX6_openedByActs) := ggX9_idle_X6_openedByActs
set_option maxRecDepth 20000 in
theorem ggX9_idle_X6_openedByTold : GoodIn wsX9_idle wsX6_openedByTold := goodIn_r _ [45, 46, 47, 48, 33, 34, 35, 4, 36, 37, 38, 39, 40, 41, 42, 72, 73, 74, 75, 76, 77, 78, 79, 80, 81, 82, 83, 84, 85, 86, 87, 88, 89] (by decide +kernel) (by decide +kernel)
set_option maxRecDepth 20000 in
theorem gX9_idle_X6_openedByTold_n245 : GoodIn wsX9_idle (wsX6_openedByTold) := ggX9_idle_X6_openedByTold
theorem dX9_idle_0 : decode cX9_idle 0 = .ok (.aload_n 0, 1) := by decide +kernel
theorem dX9_idle_1 : decode cX9_idle 1 = .ok (.getfield 28, 3) := by decide +kernel
theorem dX9_idle_4 : decode cX9_idle 4 = .ok (.invokevirtual 148, 3) := by decide +kernel
theorem dX9_idle_7 : decode cX9_idle 7 = .ok (.ifCond .ne 6, 3) := by decide +kernel
theorem dX9_idle_10 : decode cX9_idle 10 = .ok (.bipush (-2), 2) := by decide +kernel
theorem dX9_idle_12 : decode cX9_idle 12 = .ok (.ireturn, 1) := by decide +kernel
theorem dX9_idle_13 : decode cX9_idle 13 = .ok (.iconst 0, 1) := by decide +kernel
theorem dX9_idle_14 : decode cX9_idle 14 = .ok (.istore_n 1, 1) := by decide +kernel
theorem dX9_idle_15 : decode cX9_idle 15 = .ok (.aload_n 0, 1) := by decide +kernel
theorem dX9_idle_16 : decode cX9_idle 16 = .ok (.getfield 48, 3) := by decide +kernel
theorem dX9_idle_19 : decode cX9_idle 19 = .ok (.aload_n 0, 1) := by decide +kernel
theorem dX9_idle_20 : decode cX9_idle 20 = .ok (.getfield 48, 3) := by decide +kernel
theorem dX9_idle_23 : decode cX9_idle 23 = .ok (.getfield 213, 3) := by decide +kernel
theorem dX9_idle_26 : decode cX9_idle 26 = .ok (.invokevirtual 236, 3) := by decide +kernel
theorem dX9_idle_29 : decode cX9_idle 29 = .ok (.istore_n 2, 1) := by decide +kernel
theorem dX9_idle_30 : decode cX9_idle 30 = .ok (.aload_n 0, 1) := by decide +kernel
theorem dX9_idle_31 : decode cX9_idle 31 = .ok (.getfield 28, 3) := by decide +kernel
theorem dX9_idle_34 : decode cX9_idle 34 = .ok (.invokevirtual 239, 3) := by decide +kernel
theorem dX9_idle_37 : decode cX9_idle 37 = .ok (.istore_n 3, 1) := by decide +kernel
theorem dX9_idle_38 : decode cX9_idle 38 = .ok (.iconst 0, 1) := by decide +kernel
theorem dX9_idle_39 : decode cX9_idle 39 = .ok (.istore 4, 2) := by decide +kernel
theorem dX9_idle_41 : decode cX9_idle 41 = .ok (.iload 4, 2) := by decide +kernel
theorem dX9_idle_43 : decode cX9_idle 43 = .ok (.aload_n 0, 1) := by decide +kernel
theorem dX9_idle_44 : decode cX9_idle 44 = .ok (.getfield 28, 3) := by decide +kernel
theorem dX9_idle_47 : decode cX9_idle 47 = .ok (.getfield 242, 3) := by decide +kernel
theorem dX9_idle_50 : decode cX9_idle 50 = .ok (.if_icmp .ge 38, 3) := by decide +kernel
theorem dX9_idle_53 : decode cX9_idle 53 = .ok (.aload_n 0, 1) := by decide +kernel
theorem dX9_idle_54 : decode cX9_idle 54 = .ok (.getfield 48, 3) := by decide +kernel
theorem dX9_idle_57 : decode cX9_idle 57 = .ok (.iload_n 3, 1) := by decide +kernel
theorem dX9_idle_58 : decode cX9_idle 58 = .ok (.aload_n 0, 1) := by decide +kernel
theorem dX9_idle_59 : decode cX9_idle 59 = .ok (.getfield 28, 3) := by decide +kernel
theorem dX9_idle_62 : decode cX9_idle 62 = .ok (.iload 4, 2) := by decide +kernel
theorem dX9_idle_64 : decode cX9_idle 64 = .ok (.invokevirtual 245, 3) := by decide +kernel
theorem dX9_idle_67 : decode cX9_idle 67 = .ok (.ior, 1) := by decide +kernel
theorem dX9_idle_68 : decode cX9_idle 68 = .ok (.invokevirtual 236, 3) := by decide +kernel
theorem dX9_idle_71 : decode cX9_idle 71 = .ok (.iload_n 2, 1) := by decide +kernel
theorem dX9_idle_72 : decode cX9_idle 72 = .ok (.if_icmp .ne 10, 3) := by decide +kernel
theorem dX9_idle_75 : decode cX9_idle 75 = .ok (.iload_n 1, 1) := by decide +kernel
theorem dX9_idle_76 : decode cX9_idle 76 = .ok (.iconst 1, 1) := by decide +kernel
theorem dX9_idle_77 : decode cX9_idle 77 = .ok (.iload 4, 2) := by decide +kernel
theorem dX9_idle_79 : decode cX9_idle 79 = .ok (.ishl, 1) := by decide +kernel
theorem dX9_idle_80 : decode cX9_idle 80 = .ok (.ior, 1) := by decide +kernel
theorem dX9_idle_81 : decode cX9_idle 81 = .ok (.istore_n 1, 1) := by decide +kernel
theorem dX9_idle_82 : decode cX9_idle 82 = .ok (.iinc 4 1, 3) := by decide +kernel
theorem dX9_idle_85 : decode cX9_idle 85 = .ok (.goto (-44), 3) := by decide +kernel
theorem dX9_idle_88 : decode cX9_idle 88 = .ok (.iload_n 1, 1) := by decide +kernel
theorem dX9_idle_89 : decode cX9_idle 89 = .ok (.ireturn, 1) := by decide +kernel
set_option maxRecDepth 20000 in
theorem ggX9_best_X6_isTold : GoodIn wsX9_best wsX6_isTold := goodIn_r _ [7, 8, 73, 74, 75, 76, 77, 78, 79, 80, 81, 82, 83, 84, 85, 86, 87, 88, 89, 90] (by decide +kernel) (by decide +kernel)
set_option maxRecDepth 20000 in
theorem gX9_best_X6_isTold_n148 : GoodIn wsX9_best (wsX6_isTold) := ggX9_best_X6_isTold
set_option maxRecDepth 20000 in
theorem ggX9_best_X4_plan : GoodIn wsX9_best wsX4_plan := goodIn_r _ [12, 13, 14, 15, 16, 5, 17, 18, 19, 20, 21, 22, 23, 24, 25, 26, 27, 28, 29, 30, 31, 32, 33, 34, 35, 36, 37, 38, 39, 40, 41, 42, 43, 44, 45, 46, 47, 48, 49, 50, 51, 52, 53, 10, 54, 55, 56, 57, 58, 91, 92, 93, 73, 74, 75, 76, 77, 78, 79, 80, 81, 82, 83, 84, 85, 86, 87, 88, 89, 90, 94, 95, 96, 97, 98, 99, 100, 101, 102, 103, 104, 105, 106, 107, 108, 109, 110, 111, 112, 113] (by decide +kernel) (by decide +kernel)
set_option maxRecDepth 20000 in
theorem gX9_best_X4_plan_n248 : GoodIn wsX9_best (wsX4_plan) := ggX9_best_X4_plan
set_option maxRecDepth 20000 in
theorem ggX9_best_X4_mostKept : GoodIn wsX9_best wsX4_mostKept := goodIn_r _ [61, 14, 13, 91, 92, 93] (by decide +kernel) (by decide +kernel)
set_option maxRecDepth 20000 in
theorem gX9_best_X4_mostKept_n252 : GoodIn wsX9_best (wsX4_mostKept) := ggX9_best_X4_mostKept
theorem dX9_best_0 : decode cX9_best 0 = .ok (.aload_n 0, 1) := by decide +kernel
theorem dX9_best_1 : decode cX9_best 1 = .ok (.getfield 28, 3) := by decide +kernel
theorem dX9_best_4 : decode cX9_best 4 = .ok (.invokevirtual 148, 3) := by decide +kernel
theorem dX9_best_7 : decode cX9_best 7 = .ok (.ifCond .ne 6, 3) := by decide +kernel
theorem dX9_best_10 : decode cX9_best 10 = .ok (.bipush (-2), 2) := by decide +kernel
theorem dX9_best_12 : decode cX9_best 12 = .ok (.ireturn, 1) := by decide +kernel
theorem dX9_best_13 : decode cX9_best 13 = .ok (.aload_n 0, 1) := by decide +kernel
theorem dX9_best_14 : decode cX9_best 14 = .ok (.getfield 58, 3) := by decide +kernel
theorem dX9_best_17 : decode cX9_best 17 = .ok (.aload_n 0, 1) := by decide +kernel
theorem dX9_best_18 : decode cX9_best 18 = .ok (.getfield 28, 3) := by decide +kernel
theorem dX9_best_21 : decode cX9_best 21 = .ok (.aload_n 0, 1) := by decide +kernel
theorem dX9_best_22 : decode cX9_best 22 = .ok (.getfield 48, 3) := by decide +kernel
theorem dX9_best_25 : decode cX9_best 25 = .ok (.invokevirtual 248, 3) := by decide +kernel
theorem dX9_best_28 : decode cX9_best 28 = .ok (.aload_n 0, 1) := by decide +kernel
theorem dX9_best_29 : decode cX9_best 29 = .ok (.getfield 58, 3) := by decide +kernel
theorem dX9_best_32 : decode cX9_best 32 = .ok (.invokevirtual 252, 3) := by decide +kernel
theorem dX9_best_35 : decode cX9_best 35 = .ok (.ireturn, 1) := by decide +kernel
set_option maxRecDepth 20000 in
theorem ggX9_lay_X6_hasPlank : GoodIn wsX9_lay wsX6_hasPlank := goodIn_r _ [7, 8, 77, 78, 79, 80, 81, 82, 83, 84, 85, 86, 87, 88, 89, 90, 91, 92, 93, 94] (by decide +kernel) (by decide +kernel)
set_option maxRecDepth 20000 in
theorem gX9_lay_X6_hasPlank_n115 : GoodIn wsX9_lay (wsX6_hasPlank) := ggX9_lay_X6_hasPlank
set_option maxRecDepth 20000 in
theorem ggX9_lay_X4_plan : GoodIn wsX9_lay wsX4_plan := goodIn_r _ [12, 13, 14, 15, 16, 5, 17, 18, 19, 20, 21, 22, 23, 24, 25, 26, 27, 28, 29, 30, 31, 32, 33, 34, 35, 36, 37, 38, 39, 40, 41, 42, 43, 44, 45, 46, 47, 48, 49, 50, 51, 52, 53, 10, 54, 55, 56, 57, 58, 95, 96, 97, 77, 78, 79, 80, 81, 82, 83, 84, 85, 86, 87, 88, 89, 90, 91, 92, 93, 94, 98, 99, 100, 101, 102, 103, 104, 105, 106, 107, 108, 109, 110, 111, 112, 113, 114, 115, 116, 117] (by decide +kernel) (by decide +kernel)
set_option maxRecDepth 20000 in
theorem gX9_lay_X4_plan_n248 : GoodIn wsX9_lay (wsX4_plan) := ggX9_lay_X4_plan
set_option maxRecDepth 20000 in
theorem ggX9_lay_X4_place : GoodIn wsX9_lay wsX4_place := goodIn_r _ [61, 13, 62, 63, 64, 10, 65, 14, 55, 56, 57, 58, 21, 5, 22, 23, 24, 25, 26, 27, 28, 29, 95, 96, 97, 77, 78, 79, 80, 81, 82, 83, 84, 85, 86, 87, 88, 89, 90, 91, 92, 93, 94] (by decide +kernel) (by decide +kernel)
set_option maxRecDepth 20000 in
theorem gX9_lay_X4_place_n255 : GoodIn wsX9_lay (wsX4_place) := ggX9_lay_X4_place
theorem dX9_lay_0 : decode cX9_lay 0 = .ok (.aload_n 0, 1) := by decide +kernel
theorem dX9_lay_1 : decode cX9_lay 1 = .ok (.getfield 28, 3) := by decide +kernel
theorem dX9_lay_4 : decode cX9_lay 4 = .ok (.iload_n 1, 1) := by decide +kernel
theorem dX9_lay_5 : decode cX9_lay 5 = .ok (.invokevirtual 115, 3) := by decide +kernel
theorem dX9_lay_8 : decode cX9_lay 8 = .ok (.ifCond .ne 6, 3) := by decide +kernel
theorem dX9_lay_11 : decode cX9_lay 11 = .ok (.bipush (-2), 2) := by decide +kernel
theorem dX9_lay_13 : decode cX9_lay 13 = .ok (.ireturn, 1) := by decide +kernel
theorem dX9_lay_14 : decode cX9_lay 14 = .ok (.aload_n 0, 1) := by decide +kernel
theorem dX9_lay_15 : decode cX9_lay 15 = .ok (.getfield 58, 3) := by decide +kernel
theorem dX9_lay_18 : decode cX9_lay 18 = .ok (.aload_n 0, 1) := by decide +kernel
theorem dX9_lay_19 : decode cX9_lay 19 = .ok (.getfield 28, 3) := by decide +kernel
theorem dX9_lay_22 : decode cX9_lay 22 = .ok (.aload_n 0, 1) := by decide +kernel
theorem dX9_lay_23 : decode cX9_lay 23 = .ok (.getfield 48, 3) := by decide +kernel
theorem dX9_lay_26 : decode cX9_lay 26 = .ok (.invokevirtual 248, 3) := by decide +kernel
theorem dX9_lay_29 : decode cX9_lay 29 = .ok (.aload_n 0, 1) := by decide +kernel
theorem dX9_lay_30 : decode cX9_lay 30 = .ok (.getfield 58, 3) := by decide +kernel
theorem dX9_lay_33 : decode cX9_lay 33 = .ok (.aload_n 0, 1) := by decide +kernel
theorem dX9_lay_34 : decode cX9_lay 34 = .ok (.getfield 28, 3) := by decide +kernel
theorem dX9_lay_37 : decode cX9_lay 37 = .ok (.iload_n 1, 1) := by decide +kernel
theorem dX9_lay_38 : decode cX9_lay 38 = .ok (.invokevirtual 255, 3) := by decide +kernel
theorem dX9_lay_41 : decode cX9_lay 41 = .ok (.ireturn, 1) := by decide +kernel
set_option maxRecDepth 20000 in
theorem ggX9_ways_X6_isTold : GoodIn wsX9_ways wsX6_isTold := goodIn_r _ [7, 8, 73, 74, 75, 76, 77, 78, 79, 80, 81, 82, 83, 84, 85, 86, 87, 88, 89, 90] (by decide +kernel) (by decide +kernel)
set_option maxRecDepth 20000 in
theorem gX9_ways_X6_isTold_n148 : GoodIn wsX9_ways (wsX6_isTold) := ggX9_ways_X6_isTold
set_option maxRecDepth 20000 in
theorem ggX9_ways_X4_plan : GoodIn wsX9_ways wsX4_plan := goodIn_r _ [12, 13, 14, 15, 16, 5, 17, 18, 19, 20, 21, 22, 23, 24, 25, 26, 27, 28, 29, 30, 31, 32, 33, 34, 35, 36, 37, 38, 39, 40, 41, 42, 43, 44, 45, 46, 47, 48, 49, 50, 51, 52, 53, 10, 54, 55, 56, 57, 58, 91, 92, 93, 73, 74, 75, 76, 77, 78, 79, 80, 81, 82, 83, 84, 85, 86, 87, 88, 89, 90, 94, 95, 96, 97, 98, 99, 100, 101, 102, 103, 104, 105, 106, 107, 108, 109, 110, 111, 112, 113] (by decide +kernel) (by decide +kernel)
set_option maxRecDepth 20000 in
theorem gX9_ways_X4_plan_n248 : GoodIn wsX9_ways (wsX4_plan) := ggX9_ways_X4_plan
set_option maxRecDepth 20000 in
theorem ggX9_ways_X4_rowsOfBest : GoodIn wsX9_ways wsX4_rowsOfBest := goodIn_r _ [61, 15, 13, 91, 92, 93] (by decide +kernel) (by decide +kernel)
set_option maxRecDepth 20000 in
theorem gX9_ways_X4_rowsOfBest_n258 : GoodIn wsX9_ways (wsX4_rowsOfBest) := ggX9_ways_X4_rowsOfBest
theorem dX9_ways_0 : decode cX9_ways 0 = .ok (.aload_n 0, 1) := by decide +kernel
theorem dX9_ways_1 : decode cX9_ways 1 = .ok (.getfield 28, 3) := by decide +kernel
theorem dX9_ways_4 : decode cX9_ways 4 = .ok (.invokevirtual 148, 3) := by decide +kernel
theorem dX9_ways_7 : decode cX9_ways 7 = .ok (.ifCond .ne 6, 3) := by decide +kernel
theorem dX9_ways_10 : decode cX9_ways 10 = .ok (.bipush (-2), 2) := by decide +kernel
theorem dX9_ways_12 : decode cX9_ways 12 = .ok (.ireturn, 1) := by decide +kernel
theorem dX9_ways_13 : decode cX9_ways 13 = .ok (.aload_n 0, 1) := by decide +kernel
theorem dX9_ways_14 : decode cX9_ways 14 = .ok (.getfield 58, 3) := by decide +kernel
theorem dX9_ways_17 : decode cX9_ways 17 = .ok (.aload_n 0, 1) := by decide +kernel
theorem dX9_ways_18 : decode cX9_ways 18 = .ok (.getfield 28, 3) := by decide +kernel
theorem dX9_ways_21 : decode cX9_ways 21 = .ok (.aload_n 0, 1) := by decide +kernel
theorem dX9_ways_22 : decode cX9_ways 22 = .ok (.getfield 48, 3) := by decide +kernel
theorem dX9_ways_25 : decode cX9_ways 25 = .ok (.invokevirtual 248, 3) := by decide +kernel
theorem dX9_ways_28 : decode cX9_ways 28 = .ok (.aload_n 0, 1) := by decide +kernel
theorem dX9_ways_29 : decode cX9_ways 29 = .ok (.getfield 58, 3) := by decide +kernel
theorem dX9_ways_32 : decode cX9_ways 32 = .ok (.invokevirtual 258, 3) := by decide +kernel
theorem dX9_ways_35 : decode cX9_ways 35 = .ok (.ireturn, 1) := by decide +kernel
set_option maxRecDepth 20000 in
theorem ggX9_fills_X6_isTold : GoodIn wsX9_fills wsX6_isTold := goodIn_r _ [6, 7, 37, 38, 39, 40, 41, 42, 43, 44, 45, 46, 47, 48, 49, 50, 51, 52, 53, 54] (by decide +kernel) (by decide +kernel)
set_option maxRecDepth 20000 in
theorem gX9_fills_X6_isTold_n148 : GoodIn wsX9_fills (wsX6_isTold) := ggX9_fills_X6_isTold
set_option maxRecDepth 20000 in
theorem ggX9_fills_X1_allHindrance : GoodIn wsX9_fills wsX1_allHindrance := goodIn_r _ [11, 12, 13, 14, 15, 9, 16, 17, 18, 55, 56, 57, 58, 59, 60, 61, 62, 63, 64, 65, 66, 37, 38, 39, 40, 41, 42, 43, 44, 45, 46, 47, 48, 49, 50, 51, 52, 53, 54, 67, 68, 69, 70] (by decide +kernel) (by decide +kernel)
set_option maxRecDepth 20000 in
theorem gX9_fills_X1_allHindrance_n261 : GoodIn wsX9_fills (wsX1_allHindrance) := ggX9_fills_X1_allHindrance
set_option maxRecDepth 20000 in
theorem ggX9_fills_J6_bitCount_0f7a4 : GoodIn wsX9_fills wsJ6_bitCount_0f7a4 := goodIn_r _ [22, 23, 24, 25] (by decide +kernel) (by decide +kernel)
set_option maxRecDepth 20000 in
theorem gX9_fills_J6_bitCount_0f7a4 : GoodIn wsX9_fills (va_wsS RX9 228 yJ6_bitCount_0f7a4 wsJ6_bitCount_0f7a4) := goodIn_app (goodIn_of _ (by decide +kernel)) ggX9_fills_J6_bitCount_0f7a4
theorem dX9_fills_0 : decode cX9_fills 0 = .ok (.aload_n 0, 1) := by decide +kernel
theorem dX9_fills_1 : decode cX9_fills 1 = .ok (.getfield 28, 3) := by decide +kernel
theorem dX9_fills_4 : decode cX9_fills 4 = .ok (.invokevirtual 148, 3) := by decide +kernel
theorem dX9_fills_7 : decode cX9_fills 7 = .ok (.ifCond .eq 16, 3) := by decide +kernel
theorem dX9_fills_10 : decode cX9_fills 10 = .ok (.aload_n 0, 1) := by decide +kernel
theorem dX9_fills_11 : decode cX9_fills 11 = .ok (.getfield 48, 3) := by decide +kernel
theorem dX9_fills_14 : decode cX9_fills 14 = .ok (.invokevirtual 261, 3) := by decide +kernel
theorem dX9_fills_17 : decode cX9_fills 17 = .ok (.invokestatic 228, 3) := by decide +kernel
theorem dX9_fills_20 : decode cX9_fills 20 = .ok (.goto 5, 3) := by decide +kernel
theorem dX9_fills_23 : decode cX9_fills 23 = .ok (.bipush (-2), 2) := by decide +kernel
theorem dX9_fills_25 : decode cX9_fills 25 = .ok (.ireturn, 1) := by decide +kernel
set_option maxRecDepth 20000 in
theorem ggX9_filled_X6_isTold : GoodIn wsX9_filled wsX6_isTold := goodIn_r _ [6, 7, 30, 31, 32, 33, 34, 35, 36, 37, 38, 39, 40, 41, 42, 43, 44, 45, 46, 47] (by decide +kernel) (by decide +kernel)
set_option maxRecDepth 20000 in
theorem gX9_filled_X6_isTold_n148 : GoodIn wsX9_filled (wsX6_isTold) := ggX9_filled_X6_isTold
set_option maxRecDepth 20000 in
theorem ggX9_filled_X1_allHindrance : GoodIn wsX9_filled wsX1_allHindrance := goodIn_r _ [11, 12, 13, 14, 15, 9, 16, 17, 18, 48, 49, 50, 51, 52, 53, 54, 55, 56, 57, 58, 59, 30, 31, 32, 33, 34, 35, 36, 37, 38, 39, 40, 41, 42, 43, 44, 45, 46, 47, 60, 61, 62, 63] (by decide +kernel) (by decide +kernel)
set_option maxRecDepth 20000 in
theorem gX9_filled_X1_allHindrance_n261 : GoodIn wsX9_filled (wsX1_allHindrance) := ggX9_filled_X1_allHindrance
theorem dX9_filled_0 : decode cX9_filled 0 = .ok (.aload_n 0, 1) := by decide +kernel
theorem dX9_filled_1 : decode cX9_filled 1 = .ok (.getfield 28, 3) := by decide +kernel
theorem dX9_filled_4 : decode cX9_filled 4 = .ok (.invokevirtual 148, 3) := by decide +kernel
theorem dX9_filled_7 : decode cX9_filled 7 = .ok (.ifCond .eq 13, 3) := by decide +kernel
theorem dX9_filled_10 : decode cX9_filled 10 = .ok (.aload_n 0, 1) := by decide +kernel
theorem dX9_filled_11 : decode cX9_filled 11 = .ok (.getfield 48, 3) := by decide +kernel
theorem dX9_filled_14 : decode cX9_filled 14 = .ok (.invokevirtual 261, 3) := by decide +kernel
theorem dX9_filled_17 : decode cX9_filled 17 = .ok (.goto 5, 3) := by decide +kernel
theorem dX9_filled_20 : decode cX9_filled 20 = .ok (.bipush (-2), 2) := by decide +kernel
theorem dX9_filled_22 : decode cX9_filled 22 = .ok (.ireturn, 1) := by decide +kernel
set_option maxRecDepth 20000 in
theorem ggX9_path_X6_isTold : GoodIn wsX9_path wsX6_isTold := goodIn_r _ [6, 7, 52, 53, 54, 55, 56, 57, 58, 59, 60, 61, 62, 63, 64, 65, 66, 67, 68, 69] (by decide +kernel) (by decide +kernel)
set_option maxRecDepth 20000 in
theorem gX9_path_X6_isTold_n148 : GoodIn wsX9_path (wsX6_isTold) := ggX9_path_X6_isTold
set_option maxRecDepth 20000 in
theorem ggX9_path_X1_keptSum : GoodIn wsX9_path wsX1_keptSum := goodIn_r _ [11, 12, 13, 14, 9, 15, 16, 17, 18, 19, 20, 21, 22, 23, 24, 25, 26, 27, 28, 40, 41, 42, 43, 44, 45, 46, 47, 48, 49, 50, 51, 52, 53, 54, 55, 56, 57, 58, 59, 60, 61, 62, 63, 64, 65, 66, 67, 68, 69, 70, 71, 72, 73] (by decide +kernel) (by decide +kernel)
set_option maxRecDepth 20000 in
theorem gX9_path_X1_keptSum_n236 : GoodIn wsX9_path (wsX1_keptSum) := ggX9_path_X1_keptSum
theorem dX9_path_0 : decode cX9_path 0 = .ok (.aload_n 0, 1) := by decide +kernel
theorem dX9_path_1 : decode cX9_path 1 = .ok (.getfield 28, 3) := by decide +kernel
theorem dX9_path_4 : decode cX9_path 4 = .ok (.invokevirtual 148, 3) := by decide +kernel
theorem dX9_path_7 : decode cX9_path 7 = .ok (.ifCond .ne 6, 3) := by decide +kernel
theorem dX9_path_10 : decode cX9_path 10 = .ok (.bipush (-2), 2) := by decide +kernel
theorem dX9_path_12 : decode cX9_path 12 = .ok (.ireturn, 1) := by decide +kernel
theorem dX9_path_13 : decode cX9_path 13 = .ok (.iconst (-1), 1) := by decide +kernel
theorem dX9_path_14 : decode cX9_path 14 = .ok (.istore_n 1, 1) := by decide +kernel
theorem dX9_path_15 : decode cX9_path 15 = .ok (.aload_n 0, 1) := by decide +kernel
theorem dX9_path_16 : decode cX9_path 16 = .ok (.getfield 48, 3) := by decide +kernel
theorem dX9_path_19 : decode cX9_path 19 = .ok (.aload_n 0, 1) := by decide +kernel
theorem dX9_path_20 : decode cX9_path 20 = .ok (.getfield 48, 3) := by decide +kernel
theorem dX9_path_23 : decode cX9_path 23 = .ok (.getfield 213, 3) := by decide +kernel
theorem dX9_path_26 : decode cX9_path 26 = .ok (.invokevirtual 236, 3) := by decide +kernel
theorem dX9_path_29 : decode cX9_path 29 = .ok (.istore_n 2, 1) := by decide +kernel
theorem dX9_path_30 : decode cX9_path 30 = .ok (.iconst 0, 1) := by decide +kernel
theorem dX9_path_31 : decode cX9_path 31 = .ok (.istore_n 3, 1) := by decide +kernel
theorem dX9_path_32 : decode cX9_path 32 = .ok (.iload_n 3, 1) := by decide +kernel
theorem dX9_path_33 : decode cX9_path 33 = .ok (.aload_n 0, 1) := by decide +kernel
theorem dX9_path_34 : decode cX9_path 34 = .ok (.getfield 28, 3) := by decide +kernel
theorem dX9_path_37 : decode cX9_path 37 = .ok (.getfield 175, 3) := by decide +kernel
theorem dX9_path_40 : decode cX9_path 40 = .ok (.if_icmp .ge 40, 3) := by decide +kernel
theorem dX9_path_43 : decode cX9_path 43 = .ok (.aload_n 0, 1) := by decide +kernel
theorem dX9_path_44 : decode cX9_path 44 = .ok (.getfield 48, 3) := by decide +kernel
theorem dX9_path_47 : decode cX9_path 47 = .ok (.aload_n 0, 1) := by decide +kernel
theorem dX9_path_48 : decode cX9_path 48 = .ok (.getfield 48, 3) := by decide +kernel
theorem dX9_path_51 : decode cX9_path 51 = .ok (.getfield 213, 3) := by decide +kernel
theorem dX9_path_54 : decode cX9_path 54 = .ok (.iconst 1, 1) := by decide +kernel
theorem dX9_path_55 : decode cX9_path 55 = .ok (.iload_n 3, 1) := by decide +kernel
theorem dX9_path_56 : decode cX9_path 56 = .ok (.ishl, 1) := by decide +kernel
theorem dX9_path_57 : decode cX9_path 57 = .ok (.ior, 1) := by decide +kernel
theorem dX9_path_58 : decode cX9_path 58 = .ok (.invokevirtual 236, 3) := by decide +kernel
theorem dX9_path_61 : decode cX9_path 61 = .ok (.istore 4, 2) := by decide +kernel
theorem dX9_path_63 : decode cX9_path 63 = .ok (.iload 4, 2) := by decide +kernel
theorem dX9_path_65 : decode cX9_path 65 = .ok (.iload_n 2, 1) := by decide +kernel
theorem dX9_path_66 : decode cX9_path 66 = .ok (.if_icmp .le 8, 3) := by decide +kernel
theorem dX9_path_69 : decode cX9_path 69 = .ok (.iload 4, 2) := by decide +kernel
theorem dX9_path_71 : decode cX9_path 71 = .ok (.istore_n 2, 1) := by decide +kernel
theorem dX9_path_72 : decode cX9_path 72 = .ok (.iload_n 3, 1) := by decide +kernel
theorem dX9_path_73 : decode cX9_path 73 = .ok (.istore_n 1, 1) := by decide +kernel
theorem dX9_path_74 : decode cX9_path 74 = .ok (.iinc 3 1, 3) := by decide +kernel
theorem dX9_path_77 : decode cX9_path 77 = .ok (.goto (-45), 3) := by decide +kernel
theorem dX9_path_80 : decode cX9_path 80 = .ok (.iload_n 1, 1) := by decide +kernel
theorem dX9_path_81 : decode cX9_path 81 = .ok (.ireturn, 1) := by decide +kernel
set_option maxRecDepth 20000 in
theorem ggX9_drain_X6_hasRank : GoodIn wsX9_drain wsX6_hasRank := goodIn_r _ [6, 7, 134, 135, 136, 137, 138, 139, 140, 141, 142, 143, 144, 145, 146, 147, 148, 149, 150, 151] (by decide +kernel) (by decide +kernel)
set_option maxRecDepth 20000 in
theorem gX9_drain_X6_hasRank_n98 : GoodIn wsX9_drain (wsX6_hasRank) := ggX9_drain_X6_hasRank
set_option maxRecDepth 20000 in
theorem ggX9_drain_X1_take : GoodIn wsX9_drain wsX1_take := goodIn_r _ [11, 12, 13, 14, 15, 16, 17, 18, 19, 20, 21, 22, 23, 4, 24, 25, 26, 27, 28, 29, 30, 31, 32, 33, 34, 3, 5, 6, 7, 35, 36, 37, 38, 39, 40, 41, 42, 122, 123, 124, 125, 126, 127, 128, 129, 130, 131, 132, 133, 134, 135, 136, 137, 138, 139, 140, 141, 142, 143, 144, 145, 146, 147, 148, 149, 150, 151, 152, 153, 154, 155] (by decide +kernel) (by decide +kernel)
set_option maxRecDepth 20000 in
theorem gX9_drain_X1_take_n264 : GoodIn wsX9_drain (wsX1_take) := ggX9_drain_X1_take
set_option maxRecDepth 20000 in
theorem ggX9_drain_X1_runAll : GoodIn wsX9_drain wsX1_runAll := goodIn_r _ [45, 12, 46, 47, 48, 49, 9, 50, 22, 51, 52, 53, 54, 16, 55, 21, 56, 57, 58, 59, 60, 61, 62, 63, 64, 14, 65, 66, 67, 68, 69, 70, 71, 13, 72, 73, 74, 75, 76, 77, 78, 79, 80, 81, 82, 83, 84, 85, 4, 86, 87, 88, 89, 90, 91, 92, 122, 123, 124, 125, 126, 127, 128, 129, 130, 131, 132, 133, 134, 135, 136, 137, 138, 139, 140, 141, 142, 143, 144, 145, 146, 147, 148, 149, 150, 151, 156, 157, 158, 159] (by decide +kernel) (by decide +kernel)
set_option maxRecDepth 20000 in
theorem gX9_drain_X1_runAll_n268 : GoodIn wsX9_drain (wsX1_runAll) := ggX9_drain_X1_runAll
set_option maxRecDepth 20000 in
theorem ggX9_drain_X1_keptSum : GoodIn wsX9_drain wsX1_keptSum := goodIn_r _ [95, 96, 97, 98, 9, 99, 12, 100, 101, 102, 103, 46, 104, 105, 106, 107, 108, 109, 110, 122, 123, 124, 125, 126, 127, 128, 129, 130, 131, 132, 133, 134, 135, 136, 137, 138, 139, 140, 141, 142, 143, 144, 145, 146, 147, 148, 149, 150, 151, 156, 157, 158, 159] (by decide +kernel) (by decide +kernel)
set_option maxRecDepth 20000 in
theorem gX9_drain_X1_keptSum_n236 : GoodIn wsX9_drain (wsX1_keptSum) := ggX9_drain_X1_keptSum
theorem dX9_drain_0 : decode cX9_drain 0 = .ok (.aload_n 0, 1) := by decide +kernel
theorem dX9_drain_1 : decode cX9_drain 1 = .ok (.getfield 28, 3) := by decide +kernel
theorem dX9_drain_4 : decode cX9_drain 4 = .ok (.iload_n 1, 1) := by decide +kernel
theorem dX9_drain_5 : decode cX9_drain 5 = .ok (.invokevirtual 98, 3) := by decide +kernel
theorem dX9_drain_8 : decode cX9_drain 8 = .ok (.ifCond .ne 6, 3) := by decide +kernel
theorem dX9_drain_11 : decode cX9_drain 11 = .ok (.bipush (-2), 2) := by decide +kernel
theorem dX9_drain_13 : decode cX9_drain 13 = .ok (.ireturn, 1) := by decide +kernel
theorem dX9_drain_14 : decode cX9_drain 14 = .ok (.aload_n 0, 1) := by decide +kernel
theorem dX9_drain_15 : decode cX9_drain 15 = .ok (.getfield 52, 3) := by decide +kernel
theorem dX9_drain_18 : decode cX9_drain 18 = .ok (.aload_n 0, 1) := by decide +kernel
theorem dX9_drain_19 : decode cX9_drain 19 = .ok (.getfield 28, 3) := by decide +kernel
theorem dX9_drain_22 : decode cX9_drain 22 = .ok (.invokevirtual 264, 3) := by decide +kernel
theorem dX9_drain_25 : decode cX9_drain 25 = .ok (.iconst 0, 1) := by decide +kernel
theorem dX9_drain_26 : decode cX9_drain 26 = .ok (.istore_n 2, 1) := by decide +kernel
theorem dX9_drain_27 : decode cX9_drain 27 = .ok (.iconst (-1), 1) := by decide +kernel
theorem dX9_drain_28 : decode cX9_drain 28 = .ok (.istore_n 3, 1) := by decide +kernel
theorem dX9_drain_29 : decode cX9_drain 29 = .ok (.iconst 0, 1) := by decide +kernel
theorem dX9_drain_30 : decode cX9_drain 30 = .ok (.istore 4, 2) := by decide +kernel
theorem dX9_drain_32 : decode cX9_drain 32 = .ok (.iload 4, 2) := by decide +kernel
theorem dX9_drain_34 : decode cX9_drain 34 = .ok (.bipush 20, 2) := by decide +kernel
theorem dX9_drain_36 : decode cX9_drain 36 = .ok (.if_icmp .gt 55, 3) := by decide +kernel
theorem dX9_drain_39 : decode cX9_drain 39 = .ok (.aload_n 0, 1) := by decide +kernel
theorem dX9_drain_40 : decode cX9_drain 40 = .ok (.getfield 52, 3) := by decide +kernel
theorem dX9_drain_43 : decode cX9_drain 43 = .ok (.getfield 267, 3) := by decide +kernel
theorem dX9_drain_46 : decode cX9_drain 46 = .ok (.iload_n 1, 1) := by decide +kernel
theorem dX9_drain_47 : decode cX9_drain 47 = .ok (.iload 4, 2) := by decide +kernel
theorem dX9_drain_49 : decode cX9_drain 49 = .ok (.iastore, 1) := by decide +kernel
theorem dX9_drain_50 : decode cX9_drain 50 = .ok (.aload_n 0, 1) := by decide +kernel
theorem dX9_drain_51 : decode cX9_drain 51 = .ok (.getfield 52, 3) := by decide +kernel
theorem dX9_drain_54 : decode cX9_drain 54 = .ok (.invokevirtual 268, 3) := by decide +kernel
theorem dX9_drain_57 : decode cX9_drain 57 = .ok (.aload_n 0, 1) := by decide +kernel
theorem dX9_drain_58 : decode cX9_drain 58 = .ok (.getfield 52, 3) := by decide +kernel
theorem dX9_drain_61 : decode cX9_drain 61 = .ok (.aload_n 0, 1) := by decide +kernel
theorem dX9_drain_62 : decode cX9_drain 62 = .ok (.getfield 52, 3) := by decide +kernel
theorem dX9_drain_65 : decode cX9_drain 65 = .ok (.getfield 213, 3) := by decide +kernel
theorem dX9_drain_68 : decode cX9_drain 68 = .ok (.invokevirtual 236, 3) := by decide +kernel
theorem dX9_drain_71 : decode cX9_drain 71 = .ok (.istore 5, 2) := by decide +kernel
theorem dX9_drain_73 : decode cX9_drain 73 = .ok (.iload 5, 2) := by decide +kernel
theorem dX9_drain_75 : decode cX9_drain 75 = .ok (.iload_n 3, 1) := by decide +kernel
theorem dX9_drain_76 : decode cX9_drain 76 = .ok (.if_icmp .le 9, 3) := by decide +kernel
theorem dX9_drain_79 : decode cX9_drain 79 = .ok (.iload 5, 2) := by decide +kernel
theorem dX9_drain_81 : decode cX9_drain 81 = .ok (.istore_n 3, 1) := by decide +kernel
theorem dX9_drain_82 : decode cX9_drain 82 = .ok (.iload 4, 2) := by decide +kernel
theorem dX9_drain_84 : decode cX9_drain 84 = .ok (.istore_n 2, 1) := by decide +kernel
theorem dX9_drain_85 : decode cX9_drain 85 = .ok (.iinc 4 1, 3) := by decide +kernel
theorem dX9_drain_88 : decode cX9_drain 88 = .ok (.goto (-56), 3) := by decide +kernel
theorem dX9_drain_91 : decode cX9_drain 91 = .ok (.iload_n 2, 1) := by decide +kernel
theorem dX9_drain_92 : decode cX9_drain 92 = .ok (.ireturn, 1) := by decide +kernel
set_option maxRecDepth 20000 in
theorem ggX9_learns_X6_hasRank : GoodIn wsX9_learns wsX6_hasRank := goodIn_r _ [10, 11, 47, 48, 49, 50, 51, 52, 53, 54, 55, 56, 57, 58, 59, 60, 61, 62, 63, 64] (by decide +kernel) (by decide +kernel)
set_option maxRecDepth 20000 in
theorem gX9_learns_X6_hasRank_n98 : GoodIn wsX9_learns (wsX6_hasRank) := ggX9_learns_X6_hasRank
set_option maxRecDepth 20000 in
theorem ggX9_learns_X1_deepestOnTheWay : GoodIn wsX9_learns wsX1_deepestOnTheWay := goodIn_r _ [15, 16, 17, 4, 5, 6, 18, 8, 19, 20, 21, 22, 23, 24, 13, 25, 26, 27, 28, 29, 30, 31, 32, 33, 34, 35, 69, 70, 71, 72, 73, 74, 75, 76, 77, 78, 79, 80, 47, 48, 49, 50, 51, 52, 53, 54, 55, 56, 57, 58, 59, 60, 61, 62, 63, 64, 65, 66, 67, 68] (by decide +kernel) (by decide +kernel)
set_option maxRecDepth 20000 in
theorem gX9_learns_X1_deepestOnTheWay_n272 : GoodIn wsX9_learns (wsX1_deepestOnTheWay) := ggX9_learns_X1_deepestOnTheWay
theorem dX9_learns_0 : decode cX9_learns 0 = .ok (.aload_n 0, 1) := by decide +kernel
theorem dX9_learns_1 : decode cX9_learns 1 = .ok (.getfield 28, 3) := by decide +kernel
theorem dX9_learns_4 : decode cX9_learns 4 = .ok (.iload_n 1, 1) := by decide +kernel
theorem dX9_learns_5 : decode cX9_learns 5 = .ok (.invokevirtual 98, 3) := by decide +kernel
theorem dX9_learns_8 : decode cX9_learns 8 = .ok (.ifCond .ne 6, 3) := by decide +kernel
theorem dX9_learns_11 : decode cX9_learns 11 = .ok (.bipush (-2), 2) := by decide +kernel
theorem dX9_learns_13 : decode cX9_learns 13 = .ok (.ireturn, 1) := by decide +kernel
theorem dX9_learns_14 : decode cX9_learns 14 = .ok (.iconst 0, 1) := by decide +kernel
theorem dX9_learns_15 : decode cX9_learns 15 = .ok (.istore_n 2, 1) := by decide +kernel
theorem dX9_learns_16 : decode cX9_learns 16 = .ok (.iconst 0, 1) := by decide +kernel
theorem dX9_learns_17 : decode cX9_learns 17 = .ok (.istore_n 3, 1) := by decide +kernel
theorem dX9_learns_18 : decode cX9_learns 18 = .ok (.iload_n 3, 1) := by decide +kernel
theorem dX9_learns_19 : decode cX9_learns 19 = .ok (.aload_n 0, 1) := by decide +kernel
theorem dX9_learns_20 : decode cX9_learns 20 = .ok (.getfield 28, 3) := by decide +kernel
theorem dX9_learns_23 : decode cX9_learns 23 = .ok (.getfield 124, 3) := by decide +kernel
theorem dX9_learns_26 : decode cX9_learns 26 = .ok (.getfield 271, 3) := by decide +kernel
theorem dX9_learns_29 : decode cX9_learns 29 = .ok (.if_icmp .ge 38, 3) := by decide +kernel
theorem dX9_learns_32 : decode cX9_learns 32 = .ok (.aload_n 0, 1) := by decide +kernel
theorem dX9_learns_33 : decode cX9_learns 33 = .ok (.getfield 28, 3) := by decide +kernel
theorem dX9_learns_36 : decode cX9_learns 36 = .ok (.getfield 124, 3) := by decide +kernel
theorem dX9_learns_39 : decode cX9_learns 39 = .ok (.getfield 133, 3) := by decide +kernel
theorem dX9_learns_42 : decode cX9_learns 42 = .ok (.iload_n 3, 1) := by decide +kernel
theorem dX9_learns_43 : decode cX9_learns 43 = .ok (.iaload, 1) := by decide +kernel
theorem dX9_learns_44 : decode cX9_learns 44 = .ok (.iload_n 1, 1) := by decide +kernel
theorem dX9_learns_45 : decode cX9_learns 45 = .ok (.if_icmp .ne 16, 3) := by decide +kernel
theorem dX9_learns_48 : decode cX9_learns 48 = .ok (.iload_n 2, 1) := by decide +kernel
theorem dX9_learns_49 : decode cX9_learns 49 = .ok (.aload_n 0, 1) := by decide +kernel
theorem dX9_learns_50 : decode cX9_learns 50 = .ok (.getfield 48, 3) := by decide +kernel
theorem dX9_learns_53 : decode cX9_learns 53 = .ok (.iload_n 3, 1) := by decide +kernel
theorem dX9_learns_54 : decode cX9_learns 54 = .ok (.invokevirtual 272, 3) := by decide +kernel
theorem dX9_learns_57 : decode cX9_learns 57 = .ok (.invokestatic 181, 3) := by decide +kernel
theorem dX9_learns_60 : decode cX9_learns 60 = .ok (.istore_n 2, 1) := by decide +kernel
theorem dX9_learns_61 : decode cX9_learns 61 = .ok (.iinc 3 1, 3) := by decide +kernel
theorem dX9_learns_64 : decode cX9_learns 64 = .ok (.goto (-46), 3) := by decide +kernel
theorem dX9_learns_67 : decode cX9_learns 67 = .ok (.iload_n 2, 1) := by decide +kernel
theorem dX9_learns_68 : decode cX9_learns 68 = .ok (.ireturn, 1) := by decide +kernel
set_option maxRecDepth 20000 in
theorem ggX9_by_X6_isTold : GoodIn wsX9_by wsX6_isTold := goodIn_r _ [5, 6, 130, 131, 132, 133, 134, 135, 136, 137, 138, 139, 140, 141, 142, 143, 144, 145, 146, 147] (by decide +kernel) (by decide +kernel)
set_option maxRecDepth 20000 in
theorem gX9_by_X6_isTold_n148 : GoodIn wsX9_by (wsX6_isTold) := ggX9_by_X6_isTold
set_option maxRecDepth 20000 in
theorem ggX9_by_X9_keptByLaw : GoodIn wsX9_by wsX9_keptByLaw := goodIn_r _ [11, 12, 1, 13, 14, 15, 16, 17, 18, 19, 20, 21, 22, 23, 24, 25, 26, 27, 28, 3, 29, 30, 31, 32, 33, 34, 35, 36, 37, 38, 39, 40, 41, 42, 43, 44, 45, 46, 47, 48, 49, 50, 51, 52, 53, 54, 55, 56, 57, 58, 59, 60, 61, 62, 63, 64, 65, 66, 67, 68, 69, 70, 71, 72, 73, 74, 10, 75, 76, 77, 78, 79, 80, 81, 82, 83, 84, 85, 86, 87, 88, 89, 90, 91, 92, 93, 94, 95, 96, 97, 98, 99, 100, 101, 102, 103, 104, 105, 106, 107, 108, 109, 110, 111, 112, 113, 114, 115, 116, 117, 118, 119, 120, 121, 122, 123, 124, 125, 126, 127, 128, 129, 148, 149, 150, 151, 152, 153, 154, 155, 156, 157, 158, 159, 130, 131, 132, 133, 134, 135, 136, 137, 138, 139, 140, 141, 142, 143, 144, 145, 146, 147, 160, 161, 162, 163, 164, 165, 166, 167] (by decide +kernel) (by decide +kernel)
set_option maxRecDepth 20000 in
theorem gX9_by_X9_keptByLaw : GoodIn wsX9_by (wsV RX9 275 RX9 yX9_keptByLaw wsX9_keptByLaw) := goodIn_app (goodIn_of _ (by decide +kernel)) ggX9_by_X9_keptByLaw
theorem dX9_by_0 : decode cX9_by 0 = .ok (.aload_n 0, 1) := by decide +kernel
theorem dX9_by_1 : decode cX9_by 1 = .ok (.getfield 28, 3) := by decide +kernel
theorem dX9_by_4 : decode cX9_by 4 = .ok (.invokevirtual 148, 3) := by decide +kernel
theorem dX9_by_7 : decode cX9_by 7 = .ok (.ifCond .eq 12, 3) := by decide +kernel
theorem dX9_by_10 : decode cX9_by 10 = .ok (.iload_n 1, 1) := by decide +kernel
theorem dX9_by_11 : decode cX9_by 11 = .ok (.ifCond .lt 8, 3) := by decide +kernel
theorem dX9_by_14 : decode cX9_by 14 = .ok (.iload_n 1, 1) := by decide +kernel
theorem dX9_by_15 : decode cX9_by 15 = .ok (.iconst 4, 1) := by decide +kernel
theorem dX9_by_16 : decode cX9_by 16 = .ok (.if_icmp .lt 6, 3) := by decide +kernel
theorem dX9_by_19 : decode cX9_by 19 = .ok (.bipush (-2), 2) := by decide +kernel
theorem dX9_by_21 : decode cX9_by 21 = .ok (.ireturn, 1) := by decide +kernel
theorem dX9_by_22 : decode cX9_by 22 = .ok (.aload_n 0, 1) := by decide +kernel
theorem dX9_by_23 : decode cX9_by 23 = .ok (.iload_n 1, 1) := by decide +kernel
theorem dX9_by_24 : decode cX9_by 24 = .ok (.invokevirtual 275, 3) := by decide +kernel
theorem dX9_by_27 : decode cX9_by 27 = .ok (.ireturn, 1) := by decide +kernel
set_option maxRecDepth 20000 in
theorem ggX9_law_X6_isTold : GoodIn wsX9_law wsX6_isTold := goodIn_r _ [5, 6, 130, 131, 132, 133, 134, 135, 136, 137, 138, 139, 140, 141, 142, 143, 144, 145, 146, 147] (by decide +kernel) (by decide +kernel)
set_option maxRecDepth 20000 in
theorem gX9_law_X6_isTold_n148 : GoodIn wsX9_law (wsX6_isTold) := ggX9_law_X6_isTold
set_option maxRecDepth 20000 in
theorem ggX9_law_X9_keptByLaw : GoodIn wsX9_law wsX9_keptByLaw := goodIn_r _ [11, 12, 1, 13, 14, 15, 16, 17, 18, 19, 20, 21, 22, 23, 24, 25, 26, 27, 28, 3, 29, 30, 31, 32, 33, 34, 35, 36, 37, 38, 39, 40, 41, 42, 43, 44, 45, 46, 47, 48, 49, 50, 51, 52, 53, 54, 55, 56, 57, 58, 59, 60, 61, 62, 63, 64, 65, 66, 67, 68, 69, 70, 71, 72, 73, 74, 10, 75, 76, 77, 78, 79, 80, 81, 82, 83, 84, 85, 86, 87, 88, 89, 90, 91, 92, 93, 94, 95, 96, 97, 98, 99, 100, 101, 102, 103, 104, 105, 106, 107, 108, 109, 110, 111, 112, 113, 114, 115, 116, 117, 118, 119, 120, 121, 122, 123, 124, 125, 126, 127, 128, 129, 148, 149, 150, 151, 152, 153, 154, 155, 156, 157, 158, 159, 130, 131, 132, 133, 134, 135, 136, 137, 138, 139, 140, 141, 142, 143, 144, 145, 146, 147, 160, 161, 162, 163, 164, 165, 166, 167] (by decide +kernel) (by decide +kernel)
set_option maxRecDepth 20000 in
theorem gX9_law_X9_keptByLaw : GoodIn wsX9_law (wsV RX9 275 RX9 yX9_keptByLaw wsX9_keptByLaw) := goodIn_app (goodIn_of _ (by decide +kernel)) ggX9_law_X9_keptByLaw
theorem dX9_law_0 : decode cX9_law 0 = .ok (.aload_n 0, 1) := by decide +kernel
theorem dX9_law_1 : decode cX9_law 1 = .ok (.getfield 28, 3) := by decide +kernel
theorem dX9_law_4 : decode cX9_law 4 = .ok (.invokevirtual 148, 3) := by decide +kernel
theorem dX9_law_7 : decode cX9_law 7 = .ok (.ifCond .ne 6, 3) := by decide +kernel
theorem dX9_law_10 : decode cX9_law 10 = .ok (.bipush (-2), 2) := by decide +kernel
theorem dX9_law_12 : decode cX9_law 12 = .ok (.ireturn, 1) := by decide +kernel
theorem dX9_law_13 : decode cX9_law 13 = .ok (.iconst 0, 1) := by decide +kernel
theorem dX9_law_14 : decode cX9_law 14 = .ok (.istore_n 1, 1) := by decide +kernel
theorem dX9_law_15 : decode cX9_law 15 = .ok (.iconst (-1), 1) := by decide +kernel
theorem dX9_law_16 : decode cX9_law 16 = .ok (.istore_n 2, 1) := by decide +kernel
theorem dX9_law_17 : decode cX9_law 17 = .ok (.iconst 0, 1) := by decide +kernel
theorem dX9_law_18 : decode cX9_law 18 = .ok (.istore_n 3, 1) := by decide +kernel
theorem dX9_law_19 : decode cX9_law 19 = .ok (.iload_n 3, 1) := by decide +kernel
theorem dX9_law_20 : decode cX9_law 20 = .ok (.iconst 4, 1) := by decide +kernel
theorem dX9_law_21 : decode cX9_law 21 = .ok (.if_icmp .ge 27, 3) := by decide +kernel
theorem dX9_law_24 : decode cX9_law 24 = .ok (.aload_n 0, 1) := by decide +kernel
theorem dX9_law_25 : decode cX9_law 25 = .ok (.iload_n 3, 1) := by decide +kernel
theorem dX9_law_26 : decode cX9_law 26 = .ok (.invokevirtual 275, 3) := by decide +kernel
theorem dX9_law_29 : decode cX9_law 29 = .ok (.istore 4, 2) := by decide +kernel
theorem dX9_law_31 : decode cX9_law 31 = .ok (.iload 4, 2) := by decide +kernel
theorem dX9_law_33 : decode cX9_law 33 = .ok (.iload_n 2, 1) := by decide +kernel
theorem dX9_law_34 : decode cX9_law 34 = .ok (.if_icmp .le 8, 3) := by decide +kernel
theorem dX9_law_37 : decode cX9_law 37 = .ok (.iload 4, 2) := by decide +kernel
theorem dX9_law_39 : decode cX9_law 39 = .ok (.istore_n 2, 1) := by decide +kernel
theorem dX9_law_40 : decode cX9_law 40 = .ok (.iload_n 3, 1) := by decide +kernel
theorem dX9_law_41 : decode cX9_law 41 = .ok (.istore_n 1, 1) := by decide +kernel
theorem dX9_law_42 : decode cX9_law 42 = .ok (.iinc 3 1, 3) := by decide +kernel
theorem dX9_law_45 : decode cX9_law 45 = .ok (.goto (-26), 3) := by decide +kernel
theorem dX9_law_48 : decode cX9_law 48 = .ok (.iload_n 1, 1) := by decide +kernel
theorem dX9_law_49 : decode cX9_law 49 = .ok (.ireturn, 1) := by decide +kernel
set_option maxRecDepth 20000 in
theorem ggX9_waters_X9_guessTold : GoodIn wsX9_waters wsX9_guessTold := goodIn_r _ [6, 7, 1, 8, 9, 10, 11, 12, 13, 14, 15, 16, 17, 5, 18, 19, 20, 21, 22, 23, 24, 25, 26, 27, 28, 29, 30, 31, 32, 33, 34, 35, 36, 37, 38, 39, 40, 41, 42, 43, 44, 45, 46, 47, 48, 49, 50, 51, 52, 53, 54, 55, 56, 57, 58, 59, 60, 61, 62, 63, 64, 65, 66, 67, 68, 69, 70, 71, 72, 73, 74, 75, 76, 77, 78, 79, 80, 81, 82, 83, 84, 85, 86, 87, 88, 89, 90, 91, 92, 93, 94, 95, 96, 97, 98, 99, 100, 101, 102, 103, 104, 105, 106, 107, 108, 109, 110, 111, 112, 113, 114, 115, 116, 117, 118, 119, 120, 121, 122, 123, 124, 125, 126, 127, 132, 133, 134, 135, 136, 137, 138, 139, 140, 141, 142, 143, 144, 145, 146, 147, 148, 149, 150, 151, 152, 153, 154, 155, 156, 157, 158, 159, 160, 161, 162, 163, 164, 128, 129, 130, 131, 165, 166, 167, 168] (by decide +kernel) (by decide +kernel)
set_option maxRecDepth 20000 in
theorem gX9_waters_X9_guessTold : GoodIn wsX9_waters (wsV RX9 278 RX9 yX9_guessTold wsX9_guessTold) := goodIn_app (goodIn_of _ (by decide +kernel)) ggX9_waters_X9_guessTold
theorem dX9_waters_0 : decode cX9_waters 0 = .ok (.aload_n 0, 1) := by decide +kernel
theorem dX9_waters_1 : decode cX9_waters 1 = .ok (.iload_n 1, 1) := by decide +kernel
theorem dX9_waters_2 : decode cX9_waters 2 = .ok (.iload_n 2, 1) := by decide +kernel
theorem dX9_waters_3 : decode cX9_waters 3 = .ok (.invokevirtual 278, 3) := by decide +kernel
theorem dX9_waters_6 : decode cX9_waters 6 = .ok (.istore_n 3, 1) := by decide +kernel
theorem dX9_waters_7 : decode cX9_waters 7 = .ok (.iload_n 3, 1) := by decide +kernel
theorem dX9_waters_8 : decode cX9_waters 8 = .ok (.ifCond .ne 13, 3) := by decide +kernel
theorem dX9_waters_11 : decode cX9_waters 11 = .ok (.aload_n 0, 1) := by decide +kernel
theorem dX9_waters_12 : decode cX9_waters 12 = .ok (.getfield 65, 3) := by decide +kernel
theorem dX9_waters_15 : decode cX9_waters 15 = .ok (.getfield 281, 3) := by decide +kernel
theorem dX9_waters_18 : decode cX9_waters 18 = .ok (.goto 4, 3) := by decide +kernel
theorem dX9_waters_21 : decode cX9_waters 21 = .ok (.iload_n 3, 1) := by decide +kernel
theorem dX9_waters_22 : decode cX9_waters 22 = .ok (.ireturn, 1) := by decide +kernel
set_option maxRecDepth 20000 in
theorem ggX9_least_X9_guessTold : GoodIn wsX9_least wsX9_guessTold := goodIn_r _ [6, 7, 1, 8, 9, 10, 11, 12, 13, 14, 15, 16, 17, 5, 18, 19, 20, 21, 22, 23, 24, 25, 26, 27, 28, 29, 30, 31, 32, 33, 34, 35, 36, 37, 38, 39, 40, 41, 42, 43, 44, 45, 46, 47, 48, 49, 50, 51, 52, 53, 54, 55, 56, 57, 58, 59, 60, 61, 62, 63, 64, 65, 66, 67, 68, 69, 70, 71, 72, 73, 74, 75, 76, 77, 78, 79, 80, 81, 82, 83, 84, 85, 86, 87, 88, 89, 90, 91, 92, 93, 94, 95, 96, 97, 98, 99, 100, 101, 102, 103, 104, 105, 106, 107, 108, 109, 110, 111, 112, 113, 114, 115, 116, 117, 118, 119, 120, 121, 122, 123, 124, 125, 126, 127, 132, 133, 134, 135, 136, 137, 138, 139, 140, 141, 142, 143, 144, 145, 146, 147, 148, 149, 150, 151, 152, 153, 154, 155, 156, 157, 158, 159, 160, 161, 162, 163, 164, 128, 129, 130, 131, 165, 166, 167, 168] (by decide +kernel) (by decide +kernel)
set_option maxRecDepth 20000 in
theorem gX9_least_X9_guessTold : GoodIn wsX9_least (wsV RX9 278 RX9 yX9_guessTold wsX9_guessTold) := goodIn_app (goodIn_of _ (by decide +kernel)) ggX9_least_X9_guessTold
theorem dX9_least_0 : decode cX9_least 0 = .ok (.aload_n 0, 1) := by decide +kernel
theorem dX9_least_1 : decode cX9_least 1 = .ok (.iload_n 1, 1) := by decide +kernel
theorem dX9_least_2 : decode cX9_least 2 = .ok (.iload_n 2, 1) := by decide +kernel
theorem dX9_least_3 : decode cX9_least 3 = .ok (.invokevirtual 278, 3) := by decide +kernel
theorem dX9_least_6 : decode cX9_least 6 = .ok (.istore_n 3, 1) := by decide +kernel
theorem dX9_least_7 : decode cX9_least 7 = .ok (.iload_n 3, 1) := by decide +kernel
theorem dX9_least_8 : decode cX9_least 8 = .ok (.ifCond .ne 13, 3) := by decide +kernel
theorem dX9_least_11 : decode cX9_least 11 = .ok (.aload_n 0, 1) := by decide +kernel
theorem dX9_least_12 : decode cX9_least 12 = .ok (.getfield 65, 3) := by decide +kernel
theorem dX9_least_15 : decode cX9_least 15 = .ok (.getfield 282, 3) := by decide +kernel
theorem dX9_least_18 : decode cX9_least 18 = .ok (.goto 4, 3) := by decide +kernel
theorem dX9_least_21 : decode cX9_least 21 = .ok (.iload_n 3, 1) := by decide +kernel
theorem dX9_least_22 : decode cX9_least 22 = .ok (.ireturn, 1) := by decide +kernel
set_option maxRecDepth 20000 in
theorem ggX9_greatest_X9_guessTold : GoodIn wsX9_greatest wsX9_guessTold := goodIn_r _ [6, 7, 1, 8, 9, 10, 11, 12, 13, 14, 15, 16, 17, 5, 18, 19, 20, 21, 22, 23, 24, 25, 26, 27, 28, 29, 30, 31, 32, 33, 34, 35, 36, 37, 38, 39, 40, 41, 42, 43, 44, 45, 46, 47, 48, 49, 50, 51, 52, 53, 54, 55, 56, 57, 58, 59, 60, 61, 62, 63, 64, 65, 66, 67, 68, 69, 70, 71, 72, 73, 74, 75, 76, 77, 78, 79, 80, 81, 82, 83, 84, 85, 86, 87, 88, 89, 90, 91, 92, 93, 94, 95, 96, 97, 98, 99, 100, 101, 102, 103, 104, 105, 106, 107, 108, 109, 110, 111, 112, 113, 114, 115, 116, 117, 118, 119, 120, 121, 122, 123, 124, 125, 126, 127, 132, 133, 134, 135, 136, 137, 138, 139, 140, 141, 142, 143, 144, 145, 146, 147, 148, 149, 150, 151, 152, 153, 154, 155, 156, 157, 158, 159, 160, 161, 162, 163, 164, 128, 129, 130, 131, 165, 166, 167, 168] (by decide +kernel) (by decide +kernel)
set_option maxRecDepth 20000 in
theorem gX9_greatest_X9_guessTold : GoodIn wsX9_greatest (wsV RX9 278 RX9 yX9_guessTold wsX9_guessTold) := goodIn_app (goodIn_of _ (by decide +kernel)) ggX9_greatest_X9_guessTold
theorem dX9_greatest_0 : decode cX9_greatest 0 = .ok (.aload_n 0, 1) := by decide +kernel
theorem dX9_greatest_1 : decode cX9_greatest 1 = .ok (.iload_n 1, 1) := by decide +kernel
theorem dX9_greatest_2 : decode cX9_greatest 2 = .ok (.iload_n 2, 1) := by decide +kernel
theorem dX9_greatest_3 : decode cX9_greatest 3 = .ok (.invokevirtual 278, 3) := by decide +kernel
theorem dX9_greatest_6 : decode cX9_greatest 6 = .ok (.istore_n 3, 1) := by decide +kernel
theorem dX9_greatest_7 : decode cX9_greatest 7 = .ok (.iload_n 3, 1) := by decide +kernel
theorem dX9_greatest_8 : decode cX9_greatest 8 = .ok (.ifCond .ne 13, 3) := by decide +kernel
theorem dX9_greatest_11 : decode cX9_greatest 11 = .ok (.aload_n 0, 1) := by decide +kernel
theorem dX9_greatest_12 : decode cX9_greatest 12 = .ok (.getfield 65, 3) := by decide +kernel
theorem dX9_greatest_15 : decode cX9_greatest 15 = .ok (.getfield 285, 3) := by decide +kernel
theorem dX9_greatest_18 : decode cX9_greatest 18 = .ok (.goto 4, 3) := by decide +kernel
theorem dX9_greatest_21 : decode cX9_greatest 21 = .ok (.iload_n 3, 1) := by decide +kernel
theorem dX9_greatest_22 : decode cX9_greatest 22 = .ok (.ireturn, 1) := by decide +kernel
set_option maxRecDepth 20000 in
theorem ggX9_ask_X9_guessTold : GoodIn wsX9_ask wsX9_guessTold := goodIn_r _ [7, 2, 1, 8, 9, 10, 11, 12, 13, 14, 15, 16, 17, 6, 18, 19, 20, 21, 22, 23, 24, 25, 26, 27, 28, 29, 30, 31, 32, 33, 34, 35, 36, 37, 38, 39, 40, 41, 42, 43, 44, 45, 46, 47, 48, 49, 50, 51, 52, 53, 54, 55, 56, 57, 58, 59, 60, 61, 62, 63, 64, 65, 66, 67, 68, 69, 70, 71, 72, 73, 74, 75, 76, 77, 78, 79, 80, 81, 82, 83, 84, 85, 86, 87, 88, 89, 90, 91, 92, 93, 94, 95, 96, 97, 98, 99, 100, 101, 102, 103, 104, 105, 106, 107, 108, 109, 110, 111, 112, 113, 114, 115, 116, 125, 126, 127, 128, 129, 130, 131, 132, 133, 134, 135, 154, 155, 156, 157, 158, 159, 160, 161, 162, 163, 164, 165, 136, 137, 138, 139, 140, 141, 142, 143, 144, 145, 146, 147, 148, 149, 150, 151, 152, 153, 166, 167, 168, 169, 170, 171, 172, 173, 174, 175, 176] (by decide +kernel) (by decide +kernel)
set_option maxRecDepth 20000 in
theorem gX9_ask_X9_guessTold : GoodIn wsX9_ask (wsV RX9 278 RX9 yX9_guessTold wsX9_guessTold) := goodIn_app (goodIn_of _ (by decide +kernel)) ggX9_ask_X9_guessTold
set_option maxRecDepth 20000 in
theorem ggX9_ask_X2_yearToAsk : GoodIn wsX9_ask wsX2_yearToAsk := goodIn_r _ [119, 39, 120, 121, 122, 36, 123, 42, 124, 104, 89, 105, 169, 170, 171, 172] (by decide +kernel) (by decide +kernel)
set_option maxRecDepth 20000 in
theorem gX9_ask_X2_yearToAsk_n288 : GoodIn wsX9_ask (wsX2_yearToAsk) := ggX9_ask_X2_yearToAsk
theorem dX9_ask_0 : decode cX9_ask 0 = .ok (.aload_n 0, 1) := by decide +kernel
theorem dX9_ask_1 : decode cX9_ask 1 = .ok (.iload_n 1, 1) := by decide +kernel
theorem dX9_ask_2 : decode cX9_ask 2 = .ok (.iload_n 2, 1) := by decide +kernel
theorem dX9_ask_3 : decode cX9_ask 3 = .ok (.invokevirtual 278, 3) := by decide +kernel
theorem dX9_ask_6 : decode cX9_ask 6 = .ok (.istore_n 3, 1) := by decide +kernel
theorem dX9_ask_7 : decode cX9_ask 7 = .ok (.iload_n 3, 1) := by decide +kernel
theorem dX9_ask_8 : decode cX9_ask 8 = .ok (.ifCond .ne 20, 3) := by decide +kernel
theorem dX9_ask_11 : decode cX9_ask 11 = .ok (.aload_n 0, 1) := by decide +kernel
theorem dX9_ask_12 : decode cX9_ask 12 = .ok (.getfield 65, 3) := by decide +kernel
theorem dX9_ask_15 : decode cX9_ask 15 = .ok (.aload_n 0, 1) := by decide +kernel
theorem dX9_ask_16 : decode cX9_ask 16 = .ok (.getfield 28, 3) := by decide +kernel
theorem dX9_ask_19 : decode cX9_ask 19 = .ok (.getfield 178, 3) := by decide +kernel
theorem dX9_ask_22 : decode cX9_ask 22 = .ok (.invokevirtual 288, 3) := by decide +kernel
theorem dX9_ask_25 : decode cX9_ask 25 = .ok (.goto 4, 3) := by decide +kernel
theorem dX9_ask_28 : decode cX9_ask 28 = .ok (.iload_n 3, 1) := by decide +kernel
theorem dX9_ask_29 : decode cX9_ask 29 = .ok (.ireturn, 1) := by decide +kernel
set_option maxRecDepth 20000 in
theorem ggX9_leaves_X9_guessTold : GoodIn wsX9_leaves wsX9_guessTold := goodIn_r _ [7, 2, 1, 8, 9, 10, 11, 12, 13, 14, 15, 16, 17, 6, 18, 19, 20, 21, 22, 23, 24, 25, 26, 27, 28, 29, 30, 31, 32, 33, 34, 35, 36, 37, 38, 39, 40, 41, 42, 43, 44, 45, 46, 47, 48, 49, 50, 51, 52, 53, 54, 55, 56, 57, 58, 59, 60, 61, 62, 63, 64, 65, 66, 67, 68, 69, 70, 71, 72, 73, 74, 75, 76, 77, 78, 79, 80, 81, 82, 83, 84, 85, 86, 87, 88, 89, 90, 91, 92, 93, 94, 95, 96, 97, 98, 99, 100, 101, 102, 103, 104, 105, 106, 107, 108, 109, 110, 111, 112, 113, 114, 115, 116, 125, 126, 127, 128, 129, 130, 131, 132, 133, 134, 135, 158, 159, 160, 161, 162, 163, 164, 165, 166, 167, 168, 169, 136, 137, 138, 139, 140, 141, 142, 143, 144, 145, 146, 147, 148, 149, 150, 151, 152, 153, 170, 171, 172, 154, 155, 156, 157, 173, 174, 175, 176] (by decide +kernel) (by decide +kernel)
set_option maxRecDepth 20000 in
theorem gX9_leaves_X9_guessTold : GoodIn wsX9_leaves (wsV RX9 278 RX9 yX9_guessTold wsX9_guessTold) := goodIn_app (goodIn_of _ (by decide +kernel)) ggX9_leaves_X9_guessTold
set_option maxRecDepth 20000 in
theorem ggX9_leaves_X2_yearToAsk : GoodIn wsX9_leaves wsX2_yearToAsk := goodIn_r _ [119, 39, 120, 121, 122, 36, 123, 42, 124, 104, 89, 105, 154, 155, 156, 157] (by decide +kernel) (by decide +kernel)
set_option maxRecDepth 20000 in
theorem gX9_leaves_X2_yearToAsk_n288 : GoodIn wsX9_leaves (wsX2_yearToAsk) := ggX9_leaves_X2_yearToAsk
set_option maxRecDepth 20000 in
theorem ggX9_leaves_X2_atWorst : GoodIn wsX9_leaves wsX2_atWorst := goodIn_r _ [123, 42, 124, 104, 89, 105, 154, 155, 156, 157] (by decide +kernel) (by decide +kernel)
set_option maxRecDepth 20000 in
theorem gX9_leaves_X2_atWorst_n291 : GoodIn wsX9_leaves (wsX2_atWorst) := ggX9_leaves_X2_atWorst
theorem dX9_leaves_0 : decode cX9_leaves 0 = .ok (.aload_n 0, 1) := by decide +kernel
theorem dX9_leaves_1 : decode cX9_leaves 1 = .ok (.iload_n 1, 1) := by decide +kernel
theorem dX9_leaves_2 : decode cX9_leaves 2 = .ok (.iload_n 2, 1) := by decide +kernel
theorem dX9_leaves_3 : decode cX9_leaves 3 = .ok (.invokevirtual 278, 3) := by decide +kernel
theorem dX9_leaves_6 : decode cX9_leaves 6 = .ok (.istore_n 3, 1) := by decide +kernel
theorem dX9_leaves_7 : decode cX9_leaves 7 = .ok (.iload_n 3, 1) := by decide +kernel
theorem dX9_leaves_8 : decode cX9_leaves 8 = .ok (.ifCond .eq 5, 3) := by decide +kernel
theorem dX9_leaves_11 : decode cX9_leaves 11 = .ok (.iload_n 3, 1) := by decide +kernel
theorem dX9_leaves_12 : decode cX9_leaves 12 = .ok (.ireturn, 1) := by decide +kernel
theorem dX9_leaves_13 : decode cX9_leaves 13 = .ok (.aload_n 0, 1) := by decide +kernel
theorem dX9_leaves_14 : decode cX9_leaves 14 = .ok (.getfield 65, 3) := by decide +kernel
theorem dX9_leaves_17 : decode cX9_leaves 17 = .ok (.aload_n 0, 1) := by decide +kernel
theorem dX9_leaves_18 : decode cX9_leaves 18 = .ok (.getfield 28, 3) := by decide +kernel
theorem dX9_leaves_21 : decode cX9_leaves 21 = .ok (.getfield 178, 3) := by decide +kernel
theorem dX9_leaves_24 : decode cX9_leaves 24 = .ok (.invokevirtual 288, 3) := by decide +kernel
theorem dX9_leaves_27 : decode cX9_leaves 27 = .ok (.istore 4, 2) := by decide +kernel
theorem dX9_leaves_29 : decode cX9_leaves 29 = .ok (.iload 4, 2) := by decide +kernel
theorem dX9_leaves_31 : decode cX9_leaves 31 = .ok (.iconst (-1), 1) := by decide +kernel
theorem dX9_leaves_32 : decode cX9_leaves 32 = .ok (.if_icmp .ne 13, 3) := by decide +kernel
theorem dX9_leaves_35 : decode cX9_leaves 35 = .ok (.aload_n 0, 1) := by decide +kernel
theorem dX9_leaves_36 : decode cX9_leaves 36 = .ok (.getfield 65, 3) := by decide +kernel
theorem dX9_leaves_39 : decode cX9_leaves 39 = .ok (.getfield 281, 3) := by decide +kernel
theorem dX9_leaves_42 : decode cX9_leaves 42 = .ok (.goto 12, 3) := by decide +kernel
theorem dX9_leaves_45 : decode cX9_leaves 45 = .ok (.aload_n 0, 1) := by decide +kernel
theorem dX9_leaves_46 : decode cX9_leaves 46 = .ok (.getfield 65, 3) := by decide +kernel
theorem dX9_leaves_49 : decode cX9_leaves 49 = .ok (.iload 4, 2) := by decide +kernel
theorem dX9_leaves_51 : decode cX9_leaves 51 = .ok (.invokevirtual 291, 3) := by decide +kernel
theorem dX9_leaves_54 : decode cX9_leaves 54 = .ok (.ireturn, 1) := by decide +kernel
set_option maxRecDepth 20000 in
theorem ggX9_laws_X6_isTold : GoodIn wsX9_laws wsX6_isTold := goodIn_r _ [7, 8, 127, 128, 129, 130, 131, 132, 133, 134, 135, 136, 137, 138, 139, 140, 141, 142, 143, 144] (by decide +kernel) (by decide +kernel)
set_option maxRecDepth 20000 in
theorem gX9_laws_X6_isTold_n148 : GoodIn wsX9_laws (wsX6_isTold) := ggX9_laws_X6_isTold
set_option maxRecDepth 20000 in
theorem ggX9_laws_X9_whyNotSeen : GoodIn wsX9_laws wsX9_whyNotSeen := goodIn_r _ [13, 3, 1, 14, 15, 12, 16, 17, 18, 19, 20, 21, 22, 23, 24, 25, 26, 27, 28, 29, 104, 105, 106, 107, 108, 109, 110, 111, 112, 113, 114, 145, 146, 147, 127, 128, 129, 130, 131, 132, 133, 134, 135, 136, 137, 138, 139, 140, 141, 142, 143, 144] (by decide +kernel) (by decide +kernel)
set_option maxRecDepth 20000 in
theorem gX9_laws_X9_whyNotSeen : GoodIn wsX9_laws (wsV RX9 294 RX9 yX9_whyNotSeen wsX9_whyNotSeen) := goodIn_app (goodIn_of _ (by decide +kernel)) ggX9_laws_X9_whyNotSeen
set_option maxRecDepth 20000 in
theorem ggX9_laws_X1_take : GoodIn wsX9_laws wsX1_take := goodIn_r _ [33, 34, 35, 36, 37, 38, 39, 40, 41, 42, 43, 44, 45, 5, 46, 47, 48, 49, 50, 51, 52, 53, 54, 55, 56, 57, 58, 59, 60, 61, 62, 63, 64, 65, 66, 67, 68, 115, 116, 117, 118, 119, 120, 121, 122, 123, 124, 125, 126, 127, 128, 129, 130, 131, 132, 133, 134, 135, 136, 137, 138, 139, 140, 141, 142, 143, 144, 148, 149, 150, 151] (by decide +kernel) (by decide +kernel)
set_option maxRecDepth 20000 in
theorem gX9_laws_X1_take_n264 : GoodIn wsX9_laws (wsX1_take) := ggX9_laws_X1_take
set_option maxRecDepth 20000 in
theorem ggX9_laws_X1_run : GoodIn wsX9_laws wsX1_run := goodIn_r _ [71, 44, 72, 73, 74, 31, 75, 34, 38, 76, 43, 77, 78, 79, 80, 81, 82, 83, 84, 85, 36, 86, 12, 87, 88, 89, 90, 91, 35, 92, 93, 94, 95, 96, 97, 98, 99, 100, 115, 116, 117, 118, 119, 120, 121, 122, 123, 124, 125, 126, 127, 128, 129, 130, 131, 132, 133, 134, 135, 136, 137, 138, 139, 140, 141, 142, 143, 144] (by decide +kernel) (by decide +kernel)
set_option maxRecDepth 20000 in
theorem gX9_laws_X1_run_n301 : GoodIn wsX9_laws (wsX1_run) := ggX9_laws_X1_run
set_option maxRecDepth 20000 in
theorem ggX9_laws_X7_isSeenIn : GoodIn wsX9_laws wsX7_isSeenIn := goodIn_r _ [103, 25, 26, 86, 12, 87, 145, 146, 147, 115, 116, 117, 118, 119, 120, 121, 122, 123, 124, 125, 126] (by decide +kernel) (by decide +kernel)
set_option maxRecDepth 20000 in
theorem gX9_laws_X7_isSeenIn_n304 : GoodIn wsX9_laws (wsX7_isSeenIn) := ggX9_laws_X7_isSeenIn
theorem dX9_laws_0 : decode cX9_laws 0 = .ok (.aload_n 0, 1) := by decide +kernel
theorem dX9_laws_1 : decode cX9_laws 1 = .ok (.iload_n 1, 1) := by decide +kernel
theorem dX9_laws_2 : decode cX9_laws 2 = .ok (.aload_n 0, 1) := by decide +kernel
theorem dX9_laws_3 : decode cX9_laws 3 = .ok (.getfield 28, 3) := by decide +kernel
theorem dX9_laws_6 : decode cX9_laws 6 = .ok (.invokevirtual 148, 3) := by decide +kernel
theorem dX9_laws_9 : decode cX9_laws 9 = .ok (.invokevirtual 294, 3) := by decide +kernel
theorem dX9_laws_12 : decode cX9_laws 12 = .ok (.istore_n 2, 1) := by decide +kernel
theorem dX9_laws_13 : decode cX9_laws 13 = .ok (.iload_n 2, 1) := by decide +kernel
theorem dX9_laws_14 : decode cX9_laws 14 = .ok (.ifCond .eq 5, 3) := by decide +kernel
theorem dX9_laws_17 : decode cX9_laws 17 = .ok (.iload_n 2, 1) := by decide +kernel
theorem dX9_laws_18 : decode cX9_laws 18 = .ok (.ireturn, 1) := by decide +kernel
theorem dX9_laws_19 : decode cX9_laws 19 = .ok (.iconst 0, 1) := by decide +kernel
theorem dX9_laws_20 : decode cX9_laws 20 = .ok (.istore_n 3, 1) := by decide +kernel
theorem dX9_laws_21 : decode cX9_laws 21 = .ok (.iconst 0, 1) := by decide +kernel
theorem dX9_laws_22 : decode cX9_laws 22 = .ok (.istore 4, 2) := by decide +kernel
theorem dX9_laws_24 : decode cX9_laws 24 = .ok (.iload 4, 2) := by decide +kernel
theorem dX9_laws_26 : decode cX9_laws 26 = .ok (.iconst 4, 1) := by decide +kernel
theorem dX9_laws_27 : decode cX9_laws 27 = .ok (.if_icmp .ge 66, 3) := by decide +kernel
theorem dX9_laws_30 : decode cX9_laws 30 = .ok (.aload_n 0, 1) := by decide +kernel
theorem dX9_laws_31 : decode cX9_laws 31 = .ok (.getfield 52, 3) := by decide +kernel
theorem dX9_laws_34 : decode cX9_laws 34 = .ok (.aload_n 0, 1) := by decide +kernel
theorem dX9_laws_35 : decode cX9_laws 35 = .ok (.getfield 28, 3) := by decide +kernel
theorem dX9_laws_38 : decode cX9_laws 38 = .ok (.invokevirtual 264, 3) := by decide +kernel
theorem dX9_laws_41 : decode cX9_laws 41 = .ok (.aload_n 0, 1) := by decide +kernel
theorem dX9_laws_42 : decode cX9_laws 42 = .ok (.getfield 52, 3) := by decide +kernel
theorem dX9_laws_45 : decode cX9_laws 45 = .ok (.iload 4, 2) := by decide +kernel
theorem dX9_laws_47 : decode cX9_laws 47 = .ok (.putfield 298, 3) := by decide +kernel
theorem dX9_laws_50 : decode cX9_laws 50 = .ok (.aload_n 0, 1) := by decide +kernel
theorem dX9_laws_51 : decode cX9_laws 51 = .ok (.getfield 52, 3) := by decide +kernel
theorem dX9_laws_54 : decode cX9_laws 54 = .ok (.aload_n 0, 1) := by decide +kernel
theorem dX9_laws_55 : decode cX9_laws 55 = .ok (.getfield 28, 3) := by decide +kernel
theorem dX9_laws_58 : decode cX9_laws 58 = .ok (.getfield 178, 3) := by decide +kernel
theorem dX9_laws_61 : decode cX9_laws 61 = .ok (.invokevirtual 301, 3) := by decide +kernel
theorem dX9_laws_64 : decode cX9_laws 64 = .ok (.aload_n 0, 1) := by decide +kernel
theorem dX9_laws_65 : decode cX9_laws 65 = .ok (.getfield 71, 3) := by decide +kernel
theorem dX9_laws_68 : decode cX9_laws 68 = .ok (.iload_n 1, 1) := by decide +kernel
theorem dX9_laws_69 : decode cX9_laws 69 = .ok (.aaload, 1) := by decide +kernel
theorem dX9_laws_70 : decode cX9_laws 70 = .ok (.aload_n 0, 1) := by decide +kernel
theorem dX9_laws_71 : decode cX9_laws 71 = .ok (.getfield 52, 3) := by decide +kernel
theorem dX9_laws_74 : decode cX9_laws 74 = .ok (.invokevirtual 304, 3) := by decide +kernel
theorem dX9_laws_77 : decode cX9_laws 77 = .ok (.ifCond .eq 10, 3) := by decide +kernel
theorem dX9_laws_80 : decode cX9_laws 80 = .ok (.iload_n 3, 1) := by decide +kernel
theorem dX9_laws_81 : decode cX9_laws 81 = .ok (.iconst 1, 1) := by decide +kernel
theorem dX9_laws_82 : decode cX9_laws 82 = .ok (.iload 4, 2) := by decide +kernel
theorem dX9_laws_84 : decode cX9_laws 84 = .ok (.ishl, 1) := by decide +kernel
theorem dX9_laws_85 : decode cX9_laws 85 = .ok (.ior, 1) := by decide +kernel
theorem dX9_laws_86 : decode cX9_laws 86 = .ok (.istore_n 3, 1) := by decide +kernel
theorem dX9_laws_87 : decode cX9_laws 87 = .ok (.iinc 4 1, 3) := by decide +kernel
theorem dX9_laws_90 : decode cX9_laws 90 = .ok (.goto (-66), 3) := by decide +kernel
theorem dX9_laws_93 : decode cX9_laws 93 = .ok (.iload_n 3, 1) := by decide +kernel
theorem dX9_laws_94 : decode cX9_laws 94 = .ok (.ireturn, 1) := by decide +kernel
set_option maxRecDepth 20000 in
theorem ggX9_worth_X6_isTold : GoodIn wsX9_worth wsX6_isTold := goodIn_r _ [6, 7, 56, 57, 58, 59, 60, 61, 62, 63, 64, 65, 66, 67, 68, 69, 70, 71, 72, 73] (by decide +kernel) (by decide +kernel)
set_option maxRecDepth 20000 in
theorem gX9_worth_X6_isTold_n148 : GoodIn wsX9_worth (wsX6_isTold) := ggX9_worth_X6_isTold
set_option maxRecDepth 20000 in
theorem ggX9_worth_X6_everyRank : GoodIn wsX9_worth wsX6_everyRank := goodIn_r _ [10, 11, 56, 57, 58, 59, 60, 61, 62, 63, 64, 65, 66, 67, 68, 69, 70, 71, 72, 73] (by decide +kernel) (by decide +kernel)
set_option maxRecDepth 20000 in
theorem gX9_worth_X6_everyRank_n189 : GoodIn wsX9_worth (wsX6_everyRank) := ggX9_worth_X6_everyRank
set_option maxRecDepth 20000 in
theorem ggX9_worth_X1_keptSum : GoodIn wsX9_worth wsX1_keptSum := goodIn_r _ [15, 16, 17, 18, 13, 19, 20, 21, 22, 23, 24, 25, 26, 27, 28, 29, 30, 31, 32, 44, 45, 46, 47, 48, 49, 50, 51, 52, 53, 54, 55, 56, 57, 58, 59, 60, 61, 62, 63, 64, 65, 66, 67, 68, 69, 70, 71, 72, 73, 74, 75, 76, 77] (by decide +kernel) (by decide +kernel)
set_option maxRecDepth 20000 in
theorem gX9_worth_X1_keptSum_n236 : GoodIn wsX9_worth (wsX1_keptSum) := ggX9_worth_X1_keptSum
theorem dX9_worth_0 : decode cX9_worth 0 = .ok (.aload_n 0, 1) := by decide +kernel
theorem dX9_worth_1 : decode cX9_worth 1 = .ok (.getfield 28, 3) := by decide +kernel
theorem dX9_worth_4 : decode cX9_worth 4 = .ok (.invokevirtual 148, 3) := by decide +kernel
theorem dX9_worth_7 : decode cX9_worth 7 = .ok (.ifCond .eq 17, 3) := by decide +kernel
theorem dX9_worth_10 : decode cX9_worth 10 = .ok (.iload_n 1, 1) := by decide +kernel
theorem dX9_worth_11 : decode cX9_worth 11 = .ok (.aload_n 0, 1) := by decide +kernel
theorem dX9_worth_12 : decode cX9_worth 12 = .ok (.getfield 28, 3) := by decide +kernel
theorem dX9_worth_15 : decode cX9_worth 15 = .ok (.invokevirtual 189, 3) := by decide +kernel
theorem dX9_worth_18 : decode cX9_worth 18 = .ok (.iconst (-1), 1) := by decide +kernel
theorem dX9_worth_19 : decode cX9_worth 19 = .ok (.ixor, 1) := by decide +kernel
theorem dX9_worth_20 : decode cX9_worth 20 = .ok (.iand, 1) := by decide +kernel
theorem dX9_worth_21 : decode cX9_worth 21 = .ok (.ifCond .eq 6, 3) := by decide +kernel
theorem dX9_worth_24 : decode cX9_worth 24 = .ok (.bipush (-2), 2) := by decide +kernel
theorem dX9_worth_26 : decode cX9_worth 26 = .ok (.ireturn, 1) := by decide +kernel
theorem dX9_worth_27 : decode cX9_worth 27 = .ok (.aload_n 0, 1) := by decide +kernel
theorem dX9_worth_28 : decode cX9_worth 28 = .ok (.getfield 48, 3) := by decide +kernel
theorem dX9_worth_31 : decode cX9_worth 31 = .ok (.aload_n 0, 1) := by decide +kernel
theorem dX9_worth_32 : decode cX9_worth 32 = .ok (.getfield 48, 3) := by decide +kernel
theorem dX9_worth_35 : decode cX9_worth 35 = .ok (.getfield 213, 3) := by decide +kernel
theorem dX9_worth_38 : decode cX9_worth 38 = .ok (.iload_n 1, 1) := by decide +kernel
theorem dX9_worth_39 : decode cX9_worth 39 = .ok (.ior, 1) := by decide +kernel
theorem dX9_worth_40 : decode cX9_worth 40 = .ok (.invokevirtual 236, 3) := by decide +kernel
theorem dX9_worth_43 : decode cX9_worth 43 = .ok (.ireturn, 1) := by decide +kernel
set_option maxRecDepth 20000 in
theorem ggX9_share_X6_hasRank : GoodIn wsX9_share wsX6_hasRank := goodIn_r _ [7, 8, 41, 42, 43, 44, 45, 46, 47, 48, 49, 50, 51, 52, 53, 54, 55, 56, 57, 58] (by decide +kernel) (by decide +kernel)
set_option maxRecDepth 20000 in
theorem gX9_share_X6_hasRank_n98 : GoodIn wsX9_share (wsX6_hasRank) := ggX9_share_X6_hasRank
set_option maxRecDepth 20000 in
theorem ggX9_share_X9_isEither : GoodIn wsX9_share wsX9_isEither := goodIn_r _ [12] (by decide +kernel) (by decide +kernel)
set_option maxRecDepth 20000 in
theorem gX9_share_X9_isEither : GoodIn wsX9_share (va_wsS RX9 308 yX9_isEither wsX9_isEither) := goodIn_app (goodIn_of _ (by decide +kernel)) ggX9_share_X9_isEither
set_option maxRecDepth 20000 in
theorem ggX9_share_X1_hindrance : GoodIn wsX9_share wsX1_hindrance := goodIn_r _ [16, 17, 18, 63, 64, 65, 66, 67, 68, 69, 70, 71, 72, 73, 74] (by decide +kernel) (by decide +kernel)
set_option maxRecDepth 20000 in
theorem gX9_share_X1_hindrance_n222 : GoodIn wsX9_share (wsX1_hindrance) := ggX9_share_X1_hindrance
set_option maxRecDepth 20000 in
theorem ggX9_share_J6_bitCount_0f7a4 : GoodIn wsX9_share wsJ6_bitCount_0f7a4 := goodIn_r _ [22, 23, 24, 25] (by decide +kernel) (by decide +kernel)
set_option maxRecDepth 20000 in
theorem gX9_share_J6_bitCount_0f7a4 : GoodIn wsX9_share (va_wsS RX9 228 yJ6_bitCount_0f7a4 wsJ6_bitCount_0f7a4) := goodIn_app (goodIn_of _ (by decide +kernel)) ggX9_share_J6_bitCount_0f7a4
set_option maxRecDepth 20000 in
theorem ggX9_share_X9_inLowestTerms : GoodIn wsX9_share wsX9_inLowestTerms := goodIn_r _ [28, 29] (by decide +kernel) (by decide +kernel)
set_option maxRecDepth 20000 in
theorem gX9_share_X9_inLowestTerms : GoodIn wsX9_share (va_wsS RX9 313 yX9_inLowestTerms wsX9_inLowestTerms) := goodIn_app (goodIn_of _ (by decide +kernel)) ggX9_share_X9_inLowestTerms
theorem dX9_share_0 : decode cX9_share 0 = .ok (.aload_n 0, 1) := by decide +kernel
theorem dX9_share_1 : decode cX9_share 1 = .ok (.getfield 28, 3) := by decide +kernel
theorem dX9_share_4 : decode cX9_share 4 = .ok (.iload_n 1, 1) := by decide +kernel
theorem dX9_share_5 : decode cX9_share 5 = .ok (.invokevirtual 98, 3) := by decide +kernel
theorem dX9_share_8 : decode cX9_share 8 = .ok (.ifCond .eq 10, 3) := by decide +kernel
theorem dX9_share_11 : decode cX9_share 11 = .ok (.iload_n 2, 1) := by decide +kernel
theorem dX9_share_12 : decode cX9_share 12 = .ok (.invokestatic 308, 3) := by decide +kernel
theorem dX9_share_15 : decode cX9_share 15 = .ok (.ifCond .ne 6, 3) := by decide +kernel
theorem dX9_share_18 : decode cX9_share 18 = .ok (.bipush (-2), 2) := by decide +kernel
theorem dX9_share_20 : decode cX9_share 20 = .ok (.ireturn, 1) := by decide +kernel
theorem dX9_share_21 : decode cX9_share 21 = .ok (.iconst 0, 1) := by decide +kernel
theorem dX9_share_22 : decode cX9_share 22 = .ok (.istore_n 3, 1) := by decide +kernel
theorem dX9_share_23 : decode cX9_share 23 = .ok (.iconst 0, 1) := by decide +kernel
theorem dX9_share_24 : decode cX9_share 24 = .ok (.istore 4, 2) := by decide +kernel
theorem dX9_share_26 : decode cX9_share 26 = .ok (.iload 4, 2) := by decide +kernel
theorem dX9_share_28 : decode cX9_share 28 = .ok (.aload_n 0, 1) := by decide +kernel
theorem dX9_share_29 : decode cX9_share 29 = .ok (.getfield 28, 3) := by decide +kernel
theorem dX9_share_32 : decode cX9_share 32 = .ok (.getfield 124, 3) := by decide +kernel
theorem dX9_share_35 : decode cX9_share 35 = .ok (.getfield 271, 3) := by decide +kernel
theorem dX9_share_38 : decode cX9_share 38 = .ok (.if_icmp .ge 46, 3) := by decide +kernel
theorem dX9_share_41 : decode cX9_share 41 = .ok (.aload_n 0, 1) := by decide +kernel
theorem dX9_share_42 : decode cX9_share 42 = .ok (.getfield 48, 3) := by decide +kernel
theorem dX9_share_45 : decode cX9_share 45 = .ok (.iload 4, 2) := by decide +kernel
theorem dX9_share_47 : decode cX9_share 47 = .ok (.invokevirtual 222, 3) := by decide +kernel
theorem dX9_share_50 : decode cX9_share 50 = .ok (.istore 5, 2) := by decide +kernel
theorem dX9_share_52 : decode cX9_share 52 = .ok (.iload 5, 2) := by decide +kernel
theorem dX9_share_54 : decode cX9_share 54 = .ok (.iload_n 1, 1) := by decide +kernel
theorem dX9_share_55 : decode cX9_share 55 = .ok (.ishr, 1) := by decide +kernel
theorem dX9_share_56 : decode cX9_share 56 = .ok (.iconst 1, 1) := by decide +kernel
theorem dX9_share_57 : decode cX9_share 57 = .ok (.iand, 1) := by decide +kernel
theorem dX9_share_58 : decode cX9_share 58 = .ok (.ifCond .eq 20, 3) := by decide +kernel
theorem dX9_share_61 : decode cX9_share 61 = .ok (.iload_n 3, 1) := by decide +kernel
theorem dX9_share_62 : decode cX9_share 62 = .ok (.iload 5, 2) := by decide +kernel
theorem dX9_share_64 : decode cX9_share 64 = .ok (.invokestatic 228, 3) := by decide +kernel
theorem dX9_share_67 : decode cX9_share 67 = .ok (.iconst 1, 1) := by decide +kernel
theorem dX9_share_68 : decode cX9_share 68 = .ok (.if_icmp .ne 7, 3) := by decide +kernel
theorem dX9_share_71 : decode cX9_share 71 = .ok (.iconst 2, 1) := by decide +kernel
theorem dX9_share_72 : decode cX9_share 72 = .ok (.goto 4, 3) := by decide +kernel
theorem dX9_share_75 : decode cX9_share 75 = .ok (.iconst 1, 1) := by decide +kernel
theorem dX9_share_76 : decode cX9_share 76 = .ok (.iadd, 1) := by decide +kernel
theorem dX9_share_77 : decode cX9_share 77 = .ok (.istore_n 3, 1) := by decide +kernel
theorem dX9_share_78 : decode cX9_share 78 = .ok (.iinc 4 1, 3) := by decide +kernel
theorem dX9_share_81 : decode cX9_share 81 = .ok (.goto (-55), 3) := by decide +kernel
theorem dX9_share_84 : decode cX9_share 84 = .ok (.iload_n 3, 1) := by decide +kernel
theorem dX9_share_85 : decode cX9_share 85 = .ok (.i2l, 1) := by decide +kernel
theorem dX9_share_86 : decode cX9_share 86 = .ok (.ldc2_w 311, 3) := by decide +kernel
theorem dX9_share_89 : decode cX9_share 89 = .ok (.iload_n 2, 1) := by decide +kernel
theorem dX9_share_90 : decode cX9_share 90 = .ok (.invokestatic 313, 3) := by decide +kernel
theorem dX9_share_93 : decode cX9_share 93 = .ok (.l2i, 1) := by decide +kernel
theorem dX9_share_94 : decode cX9_share 94 = .ok (.ireturn, 1) := by decide +kernel
set_option maxRecDepth 20000 in
theorem ggX9_rests_X6_hasTwo : GoodIn wsX9_rests wsX6_hasTwo := goodIn_r _ [5, 6, 7, 8, 3, 9, 10, 55, 56, 57, 58, 59, 60, 61, 62, 63, 64, 65, 66, 67, 68, 69, 70, 71, 72] (by decide +kernel) (by decide +kernel)
set_option maxRecDepth 20000 in
theorem gX9_rests_X6_hasTwo_n200 : GoodIn wsX9_rests (wsX6_hasTwo) := ggX9_rests_X6_hasTwo
set_option maxRecDepth 20000 in
theorem ggX9_rests_X9_gain : GoodIn wsX9_rests wsX9_gain := goodIn_r _ [15, 16, 1, 17, 18, 19, 20, 21, 22, 23, 24, 25, 26, 27, 28, 29, 30, 31, 32, 33, 34, 35, 36, 37, 38, 39, 40, 41, 42, 43, 44, 45, 46, 47, 48, 49, 50, 51, 52, 53, 54, 73, 74, 75, 76, 77, 78, 79, 80, 81, 82, 83, 84, 55, 56, 57, 58, 59, 60, 61, 62, 63, 64, 65, 66, 67, 68, 69, 70, 71, 72, 85, 86, 87, 88] (by decide +kernel) (by decide +kernel)
set_option maxRecDepth 20000 in
theorem gX9_rests_X9_gain : GoodIn wsX9_rests (wsV RX9 317 RX9 yX9_gain wsX9_gain) := goodIn_app (goodIn_of _ (by decide +kernel)) ggX9_rests_X9_gain
theorem dX9_rests_0 : decode cX9_rests 0 = .ok (.aload_n 0, 1) := by decide +kernel
theorem dX9_rests_1 : decode cX9_rests 1 = .ok (.getfield 28, 3) := by decide +kernel
theorem dX9_rests_4 : decode cX9_rests 4 = .ok (.iload_n 1, 1) := by decide +kernel
theorem dX9_rests_5 : decode cX9_rests 5 = .ok (.iload_n 2, 1) := by decide +kernel
theorem dX9_rests_6 : decode cX9_rests 6 = .ok (.invokevirtual 200, 3) := by decide +kernel
theorem dX9_rests_9 : decode cX9_rests 9 = .ok (.ifCond .ne 6, 3) := by decide +kernel
theorem dX9_rests_12 : decode cX9_rests 12 = .ok (.bipush (-2), 2) := by decide +kernel
theorem dX9_rests_14 : decode cX9_rests 14 = .ok (.ireturn, 1) := by decide +kernel
theorem dX9_rests_15 : decode cX9_rests 15 = .ok (.iconst 0, 1) := by decide +kernel
theorem dX9_rests_16 : decode cX9_rests 16 = .ok (.istore_n 3, 1) := by decide +kernel
theorem dX9_rests_17 : decode cX9_rests 17 = .ok (.iconst 0, 1) := by decide +kernel
theorem dX9_rests_18 : decode cX9_rests 18 = .ok (.istore 4, 2) := by decide +kernel
theorem dX9_rests_20 : decode cX9_rests 20 = .ok (.iload 4, 2) := by decide +kernel
theorem dX9_rests_22 : decode cX9_rests 22 = .ok (.iconst 4, 1) := by decide +kernel
theorem dX9_rests_23 : decode cX9_rests 23 = .ok (.if_icmp .ge 102, 3) := by decide +kernel
theorem dX9_rests_26 : decode cX9_rests 26 = .ok (.iload 4, 2) := by decide +kernel
theorem dX9_rests_28 : decode cX9_rests 28 = .ok (.iconst 1, 1) := by decide +kernel
theorem dX9_rests_29 : decode cX9_rests 29 = .ok (.iand, 1) := by decide +kernel
theorem dX9_rests_30 : decode cX9_rests 30 = .ok (.istore 5, 2) := by decide +kernel
theorem dX9_rests_32 : decode cX9_rests 32 = .ok (.iload 4, 2) := by decide +kernel
theorem dX9_rests_34 : decode cX9_rests 34 = .ok (.iconst 1, 1) := by decide +kernel
theorem dX9_rests_35 : decode cX9_rests 35 = .ok (.ishr, 1) := by decide +kernel
theorem dX9_rests_36 : decode cX9_rests 36 = .ok (.istore 6, 2) := by decide +kernel
theorem dX9_rests_38 : decode cX9_rests 38 = .ok (.aload_n 0, 1) := by decide +kernel
theorem dX9_rests_39 : decode cX9_rests 39 = .ok (.iload_n 1, 1) := by decide +kernel
theorem dX9_rests_40 : decode cX9_rests 40 = .ok (.iload_n 2, 1) := by decide +kernel
theorem dX9_rests_41 : decode cX9_rests 41 = .ok (.iload 5, 2) := by decide +kernel
theorem dX9_rests_43 : decode cX9_rests 43 = .ok (.iload 6, 2) := by decide +kernel
theorem dX9_rests_45 : decode cX9_rests 45 = .ok (.invokevirtual 317, 3) := by decide +kernel
theorem dX9_rests_48 : decode cX9_rests 48 = .ok (.aload_n 0, 1) := by decide +kernel
theorem dX9_rests_49 : decode cX9_rests 49 = .ok (.iload_n 1, 1) := by decide +kernel
theorem dX9_rests_50 : decode cX9_rests 50 = .ok (.iload_n 2, 1) := by decide +kernel
theorem dX9_rests_51 : decode cX9_rests 51 = .ok (.iconst 1, 1) := by decide +kernel
theorem dX9_rests_52 : decode cX9_rests 52 = .ok (.iload 5, 2) := by decide +kernel
theorem dX9_rests_54 : decode cX9_rests 54 = .ok (.isub, 1) := by decide +kernel
theorem dX9_rests_55 : decode cX9_rests 55 = .ok (.iload 6, 2) := by decide +kernel
theorem dX9_rests_57 : decode cX9_rests 57 = .ok (.invokevirtual 317, 3) := by decide +kernel
theorem dX9_rests_60 : decode cX9_rests 60 = .ok (.if_icmp .lt 7, 3) := by decide +kernel
theorem dX9_rests_63 : decode cX9_rests 63 = .ok (.iconst 1, 1) := by decide +kernel
theorem dX9_rests_64 : decode cX9_rests 64 = .ok (.goto 4, 3) := by decide +kernel
theorem dX9_rests_67 : decode cX9_rests 67 = .ok (.iconst 0, 1) := by decide +kernel
theorem dX9_rests_68 : decode cX9_rests 68 = .ok (.istore 7, 2) := by decide +kernel
theorem dX9_rests_70 : decode cX9_rests 70 = .ok (.aload_n 0, 1) := by decide +kernel
theorem dX9_rests_71 : decode cX9_rests 71 = .ok (.iload_n 2, 1) := by decide +kernel
theorem dX9_rests_72 : decode cX9_rests 72 = .ok (.iload_n 1, 1) := by decide +kernel
theorem dX9_rests_73 : decode cX9_rests 73 = .ok (.iload 6, 2) := by decide +kernel
theorem dX9_rests_75 : decode cX9_rests 75 = .ok (.iload 5, 2) := by decide +kernel
theorem dX9_rests_77 : decode cX9_rests 77 = .ok (.invokevirtual 317, 3) := by decide +kernel
theorem dX9_rests_80 : decode cX9_rests 80 = .ok (.aload_n 0, 1) := by decide +kernel
theorem dX9_rests_81 : decode cX9_rests 81 = .ok (.iload_n 2, 1) := by decide +kernel
theorem dX9_rests_82 : decode cX9_rests 82 = .ok (.iload_n 1, 1) := by decide +kernel
theorem dX9_rests_83 : decode cX9_rests 83 = .ok (.iconst 1, 1) := by decide +kernel
theorem dX9_rests_84 : decode cX9_rests 84 = .ok (.iload 6, 2) := by decide +kernel
theorem dX9_rests_86 : decode cX9_rests 86 = .ok (.isub, 1) := by decide +kernel
theorem dX9_rests_87 : decode cX9_rests 87 = .ok (.iload 5, 2) := by decide +kernel
theorem dX9_rests_89 : decode cX9_rests 89 = .ok (.invokevirtual 317, 3) := by decide +kernel
theorem dX9_rests_92 : decode cX9_rests 92 = .ok (.if_icmp .lt 7, 3) := by decide +kernel
theorem dX9_rests_95 : decode cX9_rests 95 = .ok (.iconst 1, 1) := by decide +kernel
theorem dX9_rests_96 : decode cX9_rests 96 = .ok (.goto 4, 3) := by decide +kernel
theorem dX9_rests_99 : decode cX9_rests 99 = .ok (.iconst 0, 1) := by decide +kernel
theorem dX9_rests_100 : decode cX9_rests 100 = .ok (.istore 8, 2) := by decide +kernel
theorem dX9_rests_102 : decode cX9_rests 102 = .ok (.iload 7, 2) := by decide +kernel
theorem dX9_rests_104 : decode cX9_rests 104 = .ok (.ifCond .eq 15, 3) := by decide +kernel
theorem dX9_rests_107 : decode cX9_rests 107 = .ok (.iload 8, 2) := by decide +kernel
theorem dX9_rests_109 : decode cX9_rests 109 = .ok (.ifCond .eq 10, 3) := by decide +kernel
theorem dX9_rests_112 : decode cX9_rests 112 = .ok (.iload_n 3, 1) := by decide +kernel
theorem dX9_rests_113 : decode cX9_rests 113 = .ok (.iconst 1, 1) := by decide +kernel
theorem dX9_rests_114 : decode cX9_rests 114 = .ok (.iload 4, 2) := by decide +kernel
theorem dX9_rests_116 : decode cX9_rests 116 = .ok (.ishl, 1) := by decide +kernel
theorem dX9_rests_117 : decode cX9_rests 117 = .ok (.ior, 1) := by decide +kernel
theorem dX9_rests_118 : decode cX9_rests 118 = .ok (.istore_n 3, 1) := by decide +kernel
theorem dX9_rests_119 : decode cX9_rests 119 = .ok (.iinc 4 1, 3) := by decide +kernel
theorem dX9_rests_122 : decode cX9_rests 122 = .ok (.goto (-102), 3) := by decide +kernel
theorem dX9_rests_125 : decode cX9_rests 125 = .ok (.iload_n 3, 1) := by decide +kernel
theorem dX9_rests_126 : decode cX9_rests 126 = .ok (.ireturn, 1) := by decide +kernel
set_option maxRecDepth 20000 in
theorem ggX9_gets_X6_hasTwo : GoodIn wsX9_gets wsX6_hasTwo := goodIn_r _ [5, 6, 7, 8, 3, 9, 10, 58, 59, 60, 61, 62, 63, 64, 65, 66, 67, 68, 69, 70, 71, 72, 73, 74, 75] (by decide +kernel) (by decide +kernel)
set_option maxRecDepth 20000 in
theorem gX9_gets_X6_hasTwo_n200 : GoodIn wsX9_gets (wsX6_hasTwo) := ggX9_gets_X6_hasTwo
set_option maxRecDepth 20000 in
theorem ggX9_gets_X9_isEither : GoodIn wsX9_gets wsX9_isEither := goodIn_r _ [14] (by decide +kernel) (by decide +kernel)
set_option maxRecDepth 20000 in
theorem gX9_gets_X9_isEither : GoodIn wsX9_gets (va_wsS RX9 308 yX9_isEither wsX9_isEither) := goodIn_app (goodIn_of _ (by decide +kernel)) ggX9_gets_X9_isEither
set_option maxRecDepth 20000 in
theorem ggX9_gets_X9_gain : GoodIn wsX9_gets wsX9_gain := goodIn_r _ [18, 19, 1, 20, 21, 22, 23, 24, 25, 26, 27, 28, 29, 30, 31, 32, 33, 34, 35, 36, 37, 38, 39, 40, 41, 42, 43, 44, 45, 46, 47, 48, 49, 50, 51, 52, 53, 54, 55, 56, 57, 76, 77, 78, 79, 80, 81, 82, 83, 84, 85, 86, 87, 58, 59, 60, 61, 62, 63, 64, 65, 66, 67, 68, 69, 70, 71, 72, 73, 74, 75, 88, 89, 90, 91] (by decide +kernel) (by decide +kernel)
set_option maxRecDepth 20000 in
theorem gX9_gets_X9_gain : GoodIn wsX9_gets (wsV RX9 317 RX9 yX9_gain wsX9_gain) := goodIn_app (goodIn_of _ (by decide +kernel)) ggX9_gets_X9_gain
theorem dX9_gets_0 : decode cX9_gets 0 = .ok (.aload_n 0, 1) := by decide +kernel
theorem dX9_gets_1 : decode cX9_gets 1 = .ok (.getfield 28, 3) := by decide +kernel
theorem dX9_gets_4 : decode cX9_gets 4 = .ok (.iload_n 1, 1) := by decide +kernel
theorem dX9_gets_5 : decode cX9_gets 5 = .ok (.iload_n 2, 1) := by decide +kernel
theorem dX9_gets_6 : decode cX9_gets 6 = .ok (.invokevirtual 200, 3) := by decide +kernel
theorem dX9_gets_9 : decode cX9_gets 9 = .ok (.ifCond .eq 18, 3) := by decide +kernel
theorem dX9_gets_12 : decode cX9_gets 12 = .ok (.iload_n 3, 1) := by decide +kernel
theorem dX9_gets_13 : decode cX9_gets 13 = .ok (.invokestatic 308, 3) := by decide +kernel
theorem dX9_gets_16 : decode cX9_gets 16 = .ok (.ifCond .eq 11, 3) := by decide +kernel
theorem dX9_gets_19 : decode cX9_gets 19 = .ok (.iload 4, 2) := by decide +kernel
theorem dX9_gets_21 : decode cX9_gets 21 = .ok (.invokestatic 308, 3) := by decide +kernel
theorem dX9_gets_24 : decode cX9_gets 24 = .ok (.ifCond .ne 7, 3) := by decide +kernel
theorem dX9_gets_27 : decode cX9_gets 27 = .ok (.sipush (-1000), 3) := by decide +kernel
theorem dX9_gets_30 : decode cX9_gets 30 = .ok (.ireturn, 1) := by decide +kernel
theorem dX9_gets_31 : decode cX9_gets 31 = .ok (.aload_n 0, 1) := by decide +kernel
theorem dX9_gets_32 : decode cX9_gets 32 = .ok (.iload_n 1, 1) := by decide +kernel
theorem dX9_gets_33 : decode cX9_gets 33 = .ok (.iload_n 2, 1) := by decide +kernel
theorem dX9_gets_34 : decode cX9_gets 34 = .ok (.iload_n 3, 1) := by decide +kernel
theorem dX9_gets_35 : decode cX9_gets 35 = .ok (.iload 4, 2) := by decide +kernel
theorem dX9_gets_37 : decode cX9_gets 37 = .ok (.invokevirtual 317, 3) := by decide +kernel
theorem dX9_gets_40 : decode cX9_gets 40 = .ok (.ireturn, 1) := by decide +kernel
set_option maxRecDepth 20000 in
theorem ggX9_chance_X6_hasTwo : GoodIn wsX9_chance wsX6_hasTwo := goodIn_r _ [7, 8, 9, 10, 5, 11, 12, 136, 137, 138, 139, 140, 141, 142, 143, 144, 145, 146, 147, 148, 149, 150, 151, 152, 153] (by decide +kernel) (by decide +kernel)
set_option maxRecDepth 20000 in
theorem gX9_chance_X6_hasTwo_n200 : GoodIn wsX9_chance (wsX6_hasTwo) := ggX9_chance_X6_hasTwo
set_option maxRecDepth 20000 in
theorem ggX9_chance_X9_isChanceYear : GoodIn wsX9_chance wsX9_isChanceYear := goodIn_r _ [17, 1, 18, 5, 19, 20, 21, 113, 114, 115, 116, 117, 118, 119, 120, 121, 122, 123, 136, 137, 138, 139, 140, 141, 142, 143, 144, 145, 146, 147, 148, 149, 150, 151, 152, 153] (by decide +kernel) (by decide +kernel)
set_option maxRecDepth 20000 in
theorem gX9_chance_X9_isChanceYear : GoodIn wsX9_chance (wsV RX9 321 RX9 yX9_isChanceYear wsX9_isChanceYear) := goodIn_app (goodIn_of _ (by decide +kernel)) ggX9_chance_X9_isChanceYear
set_option maxRecDepth 20000 in
theorem ggX9_chance_X9_isEither : GoodIn wsX9_chance wsX9_isEither := goodIn_r _ [24] (by decide +kernel) (by decide +kernel)
set_option maxRecDepth 20000 in
theorem gX9_chance_X9_isEither : GoodIn wsX9_chance (va_wsS RX9 308 yX9_isEither wsX9_isEither) := goodIn_app (goodIn_of _ (by decide +kernel)) ggX9_chance_X9_isEither
set_option maxRecDepth 20000 in
theorem ggX9_chance_X1_take : GoodIn wsX9_chance wsX1_take := goodIn_r _ [28, 29, 30, 31, 32, 33, 34, 35, 36, 37, 38, 39, 40, 5, 41, 42, 43, 44, 45, 46, 47, 48, 49, 50, 8, 9, 10, 11, 12, 51, 52, 53, 54, 55, 56, 57, 58, 124, 125, 126, 127, 128, 129, 130, 131, 132, 133, 134, 135, 136, 137, 138, 139, 140, 141, 142, 143, 144, 145, 146, 147, 148, 149, 150, 151, 152, 153, 154, 155, 156, 157] (by decide +kernel) (by decide +kernel)
set_option maxRecDepth 20000 in
theorem gX9_chance_X1_take_n264 : GoodIn wsX9_chance (wsX1_take) := ggX9_chance_X1_take
set_option maxRecDepth 20000 in
theorem ggX9_chance_X1_run : GoodIn wsX9_chance wsX1_run := goodIn_r _ [61, 39, 62, 63, 64, 26, 65, 29, 33, 66, 38, 67, 68, 69, 70, 71, 72, 73, 74, 75, 31, 76, 16, 77, 78, 79, 80, 81, 30, 82, 83, 84, 85, 86, 87, 88, 89, 90, 124, 125, 126, 127, 128, 129, 130, 131, 132, 133, 134, 135, 136, 137, 138, 139, 140, 141, 142, 143, 144, 145, 146, 147, 148, 149, 150, 151, 152, 153] (by decide +kernel) (by decide +kernel)
set_option maxRecDepth 20000 in
theorem gX9_chance_X1_run_n301 : GoodIn wsX9_chance (wsX1_run) := ggX9_chance_X1_run
set_option maxRecDepth 20000 in
theorem ggX9_chance_X1_visits : GoodIn wsX9_chance wsX1_visits := goodIn_r _ [93, 94, 95, 96, 26, 97, 32, 72, 73, 74, 75, 31, 98, 99, 100, 101, 66, 29, 76, 16, 77, 124, 125, 126, 127, 128, 129, 130, 131, 132, 133, 134, 135, 136, 137, 138, 139, 140, 141, 142, 143, 144, 145, 146, 147, 148, 149, 150, 151, 152, 153] (by decide +kernel) (by decide +kernel)
set_option maxRecDepth 20000 in
theorem gX9_chance_X1_visits_n197 : GoodIn wsX9_chance (wsX1_visits) := ggX9_chance_X1_visits
set_option maxRecDepth 20000 in
theorem ggX9_chance_X9_weight : GoodIn wsX9_chance wsX9_weight := goodIn_r _ [105, 1, 113, 114, 115, 116, 117, 118, 119, 120, 121, 122, 123, 136, 137, 138, 139, 140, 141, 142, 143, 144, 145, 146, 147, 148, 149, 150, 151, 152, 153] (by decide +kernel) (by decide +kernel)
set_option maxRecDepth 20000 in
theorem gX9_chance_X9_weight : GoodIn wsX9_chance (wsV RX9 326 RX9 yX9_weight wsX9_weight) := goodIn_app (goodIn_of _ (by decide +kernel)) ggX9_chance_X9_weight
set_option maxRecDepth 20000 in
theorem ggX9_chance_X9_allWeights : GoodIn wsX9_chance wsX9_allWeights := goodIn_r _ [108, 109] (by decide +kernel) (by decide +kernel)
set_option maxRecDepth 20000 in
theorem gX9_chance_X9_allWeights : GoodIn wsX9_chance (va_wsS RX9 330 yX9_allWeights wsX9_allWeights) := goodIn_app (goodIn_of _ (by decide +kernel)) ggX9_chance_X9_allWeights
set_option maxRecDepth 20000 in
theorem ggX9_chance_X9_inLowestTerms : GoodIn wsX9_chance wsX9_inLowestTerms := goodIn_r _ [112, 2] (by decide +kernel) (by decide +kernel)
set_option maxRecDepth 20000 in
theorem gX9_chance_X9_inLowestTerms : GoodIn wsX9_chance (va_wsS RX9 313 yX9_inLowestTerms wsX9_inLowestTerms) := goodIn_app (goodIn_of _ (by decide +kernel)) ggX9_chance_X9_inLowestTerms
theorem dX9_chance_0 : decode cX9_chance 0 = .ok (.aload_n 0, 1) := by decide +kernel
theorem dX9_chance_1 : decode cX9_chance 1 = .ok (.getfield 28, 3) := by decide +kernel
theorem dX9_chance_4 : decode cX9_chance 4 = .ok (.iload_n 1, 1) := by decide +kernel
theorem dX9_chance_5 : decode cX9_chance 5 = .ok (.iload_n 2, 1) := by decide +kernel
theorem dX9_chance_6 : decode cX9_chance 6 = .ok (.invokevirtual 200, 3) := by decide +kernel
theorem dX9_chance_9 : decode cX9_chance 9 = .ok (.ifCond .eq 19, 3) := by decide +kernel
theorem dX9_chance_12 : decode cX9_chance 12 = .ok (.aload_n 0, 1) := by decide +kernel
theorem dX9_chance_13 : decode cX9_chance 13 = .ok (.iload_n 3, 1) := by decide +kernel
theorem dX9_chance_14 : decode cX9_chance 14 = .ok (.invokevirtual 321, 3) := by decide +kernel
theorem dX9_chance_17 : decode cX9_chance 17 = .ok (.ifCond .eq 11, 3) := by decide +kernel
theorem dX9_chance_20 : decode cX9_chance 20 = .ok (.iload 4, 2) := by decide +kernel
theorem dX9_chance_22 : decode cX9_chance 22 = .ok (.invokestatic 308, 3) := by decide +kernel
theorem dX9_chance_25 : decode cX9_chance 25 = .ok (.ifCond .ne 7, 3) := by decide +kernel
theorem dX9_chance_28 : decode cX9_chance 28 = .ok (.ldc2_w 324, 3) := by decide +kernel
theorem dX9_chance_31 : decode cX9_chance 31 = .ok (.lreturn, 1) := by decide +kernel
theorem dX9_chance_32 : decode cX9_chance 32 = .ok (.lconst 0, 1) := by decide +kernel
theorem dX9_chance_33 : decode cX9_chance 33 = .ok (.lstore 5, 2) := by decide +kernel
theorem dX9_chance_35 : decode cX9_chance 35 = .ok (.aload_n 0, 1) := by decide +kernel
theorem dX9_chance_36 : decode cX9_chance 36 = .ok (.getfield 52, 3) := by decide +kernel
theorem dX9_chance_39 : decode cX9_chance 39 = .ok (.aload_n 0, 1) := by decide +kernel
theorem dX9_chance_40 : decode cX9_chance 40 = .ok (.getfield 28, 3) := by decide +kernel
theorem dX9_chance_43 : decode cX9_chance 43 = .ok (.invokevirtual 264, 3) := by decide +kernel
theorem dX9_chance_46 : decode cX9_chance 46 = .ok (.iconst 0, 1) := by decide +kernel
theorem dX9_chance_47 : decode cX9_chance 47 = .ok (.istore 7, 2) := by decide +kernel
theorem dX9_chance_49 : decode cX9_chance 49 = .ok (.iload 7, 2) := by decide +kernel
theorem dX9_chance_51 : decode cX9_chance 51 = .ok (.iconst 1, 1) := by decide +kernel
theorem dX9_chance_52 : decode cX9_chance 52 = .ok (.iload_n 3, 1) := by decide +kernel
theorem dX9_chance_53 : decode cX9_chance 53 = .ok (.iconst 1, 1) := by decide +kernel
theorem dX9_chance_54 : decode cX9_chance 54 = .ok (.iadd, 1) := by decide +kernel
theorem dX9_chance_55 : decode cX9_chance 55 = .ok (.ishl, 1) := by decide +kernel
theorem dX9_chance_56 : decode cX9_chance 56 = .ok (.if_icmp .ge 53, 3) := by decide +kernel
theorem dX9_chance_59 : decode cX9_chance 59 = .ok (.aload_n 0, 1) := by decide +kernel
theorem dX9_chance_60 : decode cX9_chance 60 = .ok (.getfield 52, 3) := by decide +kernel
theorem dX9_chance_63 : decode cX9_chance 63 = .ok (.iload 7, 2) := by decide +kernel
theorem dX9_chance_65 : decode cX9_chance 65 = .ok (.putfield 152, 3) := by decide +kernel
theorem dX9_chance_68 : decode cX9_chance 68 = .ok (.aload_n 0, 1) := by decide +kernel
theorem dX9_chance_69 : decode cX9_chance 69 = .ok (.getfield 52, 3) := by decide +kernel
theorem dX9_chance_72 : decode cX9_chance 72 = .ok (.iload_n 3, 1) := by decide +kernel
theorem dX9_chance_73 : decode cX9_chance 73 = .ok (.iconst 1, 1) := by decide +kernel
theorem dX9_chance_74 : decode cX9_chance 74 = .ok (.iadd, 1) := by decide +kernel
theorem dX9_chance_75 : decode cX9_chance 75 = .ok (.invokevirtual 301, 3) := by decide +kernel
theorem dX9_chance_78 : decode cX9_chance 78 = .ok (.aload_n 0, 1) := by decide +kernel
theorem dX9_chance_79 : decode cX9_chance 79 = .ok (.getfield 52, 3) := by decide +kernel
theorem dX9_chance_82 : decode cX9_chance 82 = .ok (.iload_n 1, 1) := by decide +kernel
theorem dX9_chance_83 : decode cX9_chance 83 = .ok (.iload_n 2, 1) := by decide +kernel
theorem dX9_chance_84 : decode cX9_chance 84 = .ok (.iload_n 3, 1) := by decide +kernel
theorem dX9_chance_85 : decode cX9_chance 85 = .ok (.invokevirtual 197, 3) := by decide +kernel
theorem dX9_chance_88 : decode cX9_chance 88 = .ok (.ifCond .eq 15, 3) := by decide +kernel
theorem dX9_chance_91 : decode cX9_chance 91 = .ok (.lload 5, 2) := by decide +kernel
theorem dX9_chance_93 : decode cX9_chance 93 = .ok (.aload_n 0, 1) := by decide +kernel
theorem dX9_chance_94 : decode cX9_chance 94 = .ok (.iload 7, 2) := by decide +kernel
theorem dX9_chance_96 : decode cX9_chance 96 = .ok (.iload_n 3, 1) := by decide +kernel
theorem dX9_chance_97 : decode cX9_chance 97 = .ok (.invokevirtual 326, 3) := by decide +kernel
theorem dX9_chance_100 : decode cX9_chance 100 = .ok (.ladd, 1) := by decide +kernel
theorem dX9_chance_101 : decode cX9_chance 101 = .ok (.lstore 5, 2) := by decide +kernel
theorem dX9_chance_103 : decode cX9_chance 103 = .ok (.iinc 7 1, 3) := by decide +kernel
theorem dX9_chance_106 : decode cX9_chance 106 = .ok (.goto (-57), 3) := by decide +kernel
theorem dX9_chance_109 : decode cX9_chance 109 = .ok (.lload 5, 2) := by decide +kernel
theorem dX9_chance_111 : decode cX9_chance 111 = .ok (.iload_n 3, 1) := by decide +kernel
theorem dX9_chance_112 : decode cX9_chance 112 = .ok (.invokestatic 330, 3) := by decide +kernel
theorem dX9_chance_115 : decode cX9_chance 115 = .ok (.iload 4, 2) := by decide +kernel
theorem dX9_chance_117 : decode cX9_chance 117 = .ok (.invokestatic 313, 3) := by decide +kernel
theorem dX9_chance_120 : decode cX9_chance 120 = .ok (.lreturn, 1) := by decide +kernel
set_option maxRecDepth 20000 in
theorem ggX9_mean_X6_hasRank : GoodIn wsX9_mean wsX6_hasRank := goodIn_r _ [7, 8, 123, 124, 125, 126, 127, 128, 129, 130, 131, 132, 133, 134, 135, 136, 137, 138, 139, 140] (by decide +kernel) (by decide +kernel)
set_option maxRecDepth 20000 in
theorem gX9_mean_X6_hasRank_n98 : GoodIn wsX9_mean (wsX6_hasRank) := ggX9_mean_X6_hasRank
set_option maxRecDepth 20000 in
theorem ggX9_mean_X9_isChanceYear : GoodIn wsX9_mean wsX9_isChanceYear := goodIn_r _ [13, 1, 14, 5, 15, 16, 17, 100, 101, 102, 103, 104, 105, 106, 107, 108, 109, 110, 123, 124, 125, 126, 127, 128, 129, 130, 131, 132, 133, 134, 135, 136, 137, 138, 139, 140] (by decide +kernel) (by decide +kernel)
set_option maxRecDepth 20000 in
theorem gX9_mean_X9_isChanceYear : GoodIn wsX9_mean (wsV RX9 321 RX9 yX9_isChanceYear wsX9_isChanceYear) := goodIn_app (goodIn_of _ (by decide +kernel)) ggX9_mean_X9_isChanceYear
set_option maxRecDepth 20000 in
theorem ggX9_mean_X9_isEither : GoodIn wsX9_mean wsX9_isEither := goodIn_r _ [20] (by decide +kernel) (by decide +kernel)
set_option maxRecDepth 20000 in
theorem gX9_mean_X9_isEither : GoodIn wsX9_mean (va_wsS RX9 308 yX9_isEither wsX9_isEither) := goodIn_app (goodIn_of _ (by decide +kernel)) ggX9_mean_X9_isEither
set_option maxRecDepth 20000 in
theorem ggX9_mean_X1_take : GoodIn wsX9_mean wsX1_take := goodIn_r _ [24, 25, 26, 27, 28, 29, 30, 31, 32, 33, 34, 35, 36, 5, 37, 38, 39, 40, 41, 42, 43, 44, 45, 46, 47, 4, 6, 7, 8, 48, 49, 50, 51, 52, 53, 54, 55, 111, 112, 113, 114, 115, 116, 117, 118, 119, 120, 121, 122, 123, 124, 125, 126, 127, 128, 129, 130, 131, 132, 133, 134, 135, 136, 137, 138, 139, 140, 141, 142, 143, 144] (by decide +kernel) (by decide +kernel)
set_option maxRecDepth 20000 in
theorem gX9_mean_X1_take_n264 : GoodIn wsX9_mean (wsX1_take) := ggX9_mean_X1_take
set_option maxRecDepth 20000 in
theorem ggX9_mean_X1_run : GoodIn wsX9_mean wsX1_run := goodIn_r _ [58, 35, 59, 60, 61, 22, 62, 25, 29, 63, 34, 64, 65, 66, 67, 68, 69, 70, 71, 72, 27, 73, 12, 74, 75, 76, 77, 78, 26, 79, 80, 81, 82, 83, 84, 85, 86, 87, 111, 112, 113, 114, 115, 116, 117, 118, 119, 120, 121, 122, 123, 124, 125, 126, 127, 128, 129, 130, 131, 132, 133, 134, 135, 136, 137, 138, 139, 140] (by decide +kernel) (by decide +kernel)
set_option maxRecDepth 20000 in
theorem gX9_mean_X1_run_n301 : GoodIn wsX9_mean (wsX1_run) := ggX9_mean_X1_run
set_option maxRecDepth 20000 in
theorem ggX9_mean_X9_weight : GoodIn wsX9_mean wsX9_weight := goodIn_r _ [91, 1, 100, 101, 102, 103, 104, 105, 106, 107, 108, 109, 110, 123, 124, 125, 126, 127, 128, 129, 130, 131, 132, 133, 134, 135, 136, 137, 138, 139, 140] (by decide +kernel) (by decide +kernel)
set_option maxRecDepth 20000 in
theorem gX9_mean_X9_weight : GoodIn wsX9_mean (wsV RX9 326 RX9 yX9_weight wsX9_weight) := goodIn_app (goodIn_of _ (by decide +kernel)) ggX9_mean_X9_weight
set_option maxRecDepth 20000 in
theorem ggX9_mean_X9_cell : GoodIn wsX9_mean wsX9_cell := goodIn_r _ [74] (by decide +kernel) (by decide +kernel)
set_option maxRecDepth 20000 in
theorem gX9_mean_X9_cell : GoodIn wsX9_mean (va_wsS RX9 162 yX9_cell wsX9_cell) := goodIn_app (goodIn_of _ (by decide +kernel)) ggX9_mean_X9_cell
set_option maxRecDepth 20000 in
theorem ggX9_mean_X9_allWeights : GoodIn wsX9_mean wsX9_allWeights := goodIn_r _ [95, 96] (by decide +kernel) (by decide +kernel)
set_option maxRecDepth 20000 in
theorem gX9_mean_X9_allWeights : GoodIn wsX9_mean (va_wsS RX9 330 yX9_allWeights wsX9_allWeights) := goodIn_app (goodIn_of _ (by decide +kernel)) ggX9_mean_X9_allWeights
set_option maxRecDepth 20000 in
theorem ggX9_mean_X9_inLowestTerms : GoodIn wsX9_mean wsX9_inLowestTerms := goodIn_r _ [99, 2] (by decide +kernel) (by decide +kernel)
set_option maxRecDepth 20000 in
theorem gX9_mean_X9_inLowestTerms : GoodIn wsX9_mean (va_wsS RX9 313 yX9_inLowestTerms wsX9_inLowestTerms) := goodIn_app (goodIn_of _ (by decide +kernel)) ggX9_mean_X9_inLowestTerms
theorem dX9_mean_0 : decode cX9_mean 0 = .ok (.aload_n 0, 1) := by decide +kernel
theorem dX9_mean_1 : decode cX9_mean 1 = .ok (.getfield 28, 3) := by decide +kernel
theorem dX9_mean_4 : decode cX9_mean 4 = .ok (.iload_n 1, 1) := by decide +kernel
theorem dX9_mean_5 : decode cX9_mean 5 = .ok (.invokevirtual 98, 3) := by decide +kernel
theorem dX9_mean_8 : decode cX9_mean 8 = .ok (.ifCond .eq 18, 3) := by decide +kernel
theorem dX9_mean_11 : decode cX9_mean 11 = .ok (.aload_n 0, 1) := by decide +kernel
theorem dX9_mean_12 : decode cX9_mean 12 = .ok (.iload_n 2, 1) := by decide +kernel
theorem dX9_mean_13 : decode cX9_mean 13 = .ok (.invokevirtual 321, 3) := by decide +kernel
theorem dX9_mean_16 : decode cX9_mean 16 = .ok (.ifCond .eq 10, 3) := by decide +kernel
theorem dX9_mean_19 : decode cX9_mean 19 = .ok (.iload_n 3, 1) := by decide +kernel
theorem dX9_mean_20 : decode cX9_mean 20 = .ok (.invokestatic 308, 3) := by decide +kernel
theorem dX9_mean_23 : decode cX9_mean 23 = .ok (.ifCond .ne 7, 3) := by decide +kernel
theorem dX9_mean_26 : decode cX9_mean 26 = .ok (.ldc2_w 324, 3) := by decide +kernel
theorem dX9_mean_29 : decode cX9_mean 29 = .ok (.lreturn, 1) := by decide +kernel
theorem dX9_mean_30 : decode cX9_mean 30 = .ok (.lconst 0, 1) := by decide +kernel
theorem dX9_mean_31 : decode cX9_mean 31 = .ok (.lstore 4, 2) := by decide +kernel
theorem dX9_mean_33 : decode cX9_mean 33 = .ok (.aload_n 0, 1) := by decide +kernel
theorem dX9_mean_34 : decode cX9_mean 34 = .ok (.getfield 52, 3) := by decide +kernel
theorem dX9_mean_37 : decode cX9_mean 37 = .ok (.aload_n 0, 1) := by decide +kernel
theorem dX9_mean_38 : decode cX9_mean 38 = .ok (.getfield 28, 3) := by decide +kernel
theorem dX9_mean_41 : decode cX9_mean 41 = .ok (.invokevirtual 264, 3) := by decide +kernel
theorem dX9_mean_44 : decode cX9_mean 44 = .ok (.iconst 0, 1) := by decide +kernel
theorem dX9_mean_45 : decode cX9_mean 45 = .ok (.istore 6, 2) := by decide +kernel
theorem dX9_mean_47 : decode cX9_mean 47 = .ok (.iload 6, 2) := by decide +kernel
theorem dX9_mean_49 : decode cX9_mean 49 = .ok (.iconst 1, 1) := by decide +kernel
theorem dX9_mean_50 : decode cX9_mean 50 = .ok (.iload_n 2, 1) := by decide +kernel
theorem dX9_mean_51 : decode cX9_mean 51 = .ok (.iconst 1, 1) := by decide +kernel
theorem dX9_mean_52 : decode cX9_mean 52 = .ok (.iadd, 1) := by decide +kernel
theorem dX9_mean_53 : decode cX9_mean 53 = .ok (.ishl, 1) := by decide +kernel
theorem dX9_mean_54 : decode cX9_mean 54 = .ok (.if_icmp .ge 55, 3) := by decide +kernel
theorem dX9_mean_57 : decode cX9_mean 57 = .ok (.aload_n 0, 1) := by decide +kernel
theorem dX9_mean_58 : decode cX9_mean 58 = .ok (.getfield 52, 3) := by decide +kernel
theorem dX9_mean_61 : decode cX9_mean 61 = .ok (.iload 6, 2) := by decide +kernel
theorem dX9_mean_63 : decode cX9_mean 63 = .ok (.putfield 152, 3) := by decide +kernel
theorem dX9_mean_66 : decode cX9_mean 66 = .ok (.aload_n 0, 1) := by decide +kernel
theorem dX9_mean_67 : decode cX9_mean 67 = .ok (.getfield 52, 3) := by decide +kernel
theorem dX9_mean_70 : decode cX9_mean 70 = .ok (.iload_n 2, 1) := by decide +kernel
theorem dX9_mean_71 : decode cX9_mean 71 = .ok (.iconst 1, 1) := by decide +kernel
theorem dX9_mean_72 : decode cX9_mean 72 = .ok (.iadd, 1) := by decide +kernel
theorem dX9_mean_73 : decode cX9_mean 73 = .ok (.invokevirtual 301, 3) := by decide +kernel
theorem dX9_mean_76 : decode cX9_mean 76 = .ok (.lload 4, 2) := by decide +kernel
theorem dX9_mean_78 : decode cX9_mean 78 = .ok (.aload_n 0, 1) := by decide +kernel
theorem dX9_mean_79 : decode cX9_mean 79 = .ok (.iload 6, 2) := by decide +kernel
theorem dX9_mean_81 : decode cX9_mean 81 = .ok (.iload_n 2, 1) := by decide +kernel
theorem dX9_mean_82 : decode cX9_mean 82 = .ok (.invokevirtual 326, 3) := by decide +kernel
theorem dX9_mean_85 : decode cX9_mean 85 = .ok (.aload_n 0, 1) := by decide +kernel
theorem dX9_mean_86 : decode cX9_mean 86 = .ok (.getfield 52, 3) := by decide +kernel
theorem dX9_mean_89 : decode cX9_mean 89 = .ok (.getfield 159, 3) := by decide +kernel
theorem dX9_mean_92 : decode cX9_mean 92 = .ok (.iload_n 1, 1) := by decide +kernel
theorem dX9_mean_93 : decode cX9_mean 93 = .ok (.iload_n 2, 1) := by decide +kernel
theorem dX9_mean_94 : decode cX9_mean 94 = .ok (.invokestatic 162, 3) := by decide +kernel
theorem dX9_mean_97 : decode cX9_mean 97 = .ok (.iaload, 1) := by decide +kernel
theorem dX9_mean_98 : decode cX9_mean 98 = .ok (.i2l, 1) := by decide +kernel
theorem dX9_mean_99 : decode cX9_mean 99 = .ok (.lmul, 1) := by decide +kernel
theorem dX9_mean_100 : decode cX9_mean 100 = .ok (.ladd, 1) := by decide +kernel
theorem dX9_mean_101 : decode cX9_mean 101 = .ok (.lstore 4, 2) := by decide +kernel
theorem dX9_mean_103 : decode cX9_mean 103 = .ok (.iinc 6 1, 3) := by decide +kernel
theorem dX9_mean_106 : decode cX9_mean 106 = .ok (.goto (-59), 3) := by decide +kernel
theorem dX9_mean_109 : decode cX9_mean 109 = .ok (.lload 4, 2) := by decide +kernel
theorem dX9_mean_111 : decode cX9_mean 111 = .ok (.iload_n 2, 1) := by decide +kernel
theorem dX9_mean_112 : decode cX9_mean 112 = .ok (.invokestatic 330, 3) := by decide +kernel
theorem dX9_mean_115 : decode cX9_mean 115 = .ok (.iload_n 3, 1) := by decide +kernel
theorem dX9_mean_116 : decode cX9_mean 116 = .ok (.invokestatic 313, 3) := by decide +kernel
theorem dX9_mean_119 : decode cX9_mean 119 = .ok (.lreturn, 1) := by decide +kernel
set_option maxRecDepth 20000 in
theorem ggX9_adds_X6_hasRank : GoodIn wsX9_adds wsX6_hasRank := goodIn_r _ [6, 7, 123, 124, 125, 126, 127, 128, 129, 130, 131, 132, 133, 134, 135, 136, 137, 138, 139, 140] (by decide +kernel) (by decide +kernel)
set_option maxRecDepth 20000 in
theorem gX9_adds_X6_hasRank_n98 : GoodIn wsX9_adds (wsX6_hasRank) := ggX9_adds_X6_hasRank
set_option maxRecDepth 20000 in
theorem ggX9_adds_X0_addPlank : GoodIn wsX9_adds wsX0_addPlank := goodIn_r _ [11, 12, 13, 14, 9, 15, 16, 17, 18, 19, 141, 142, 143, 144] (by decide +kernel) (by decide +kernel)
set_option maxRecDepth 20000 in
theorem gX9_adds_X0_addPlank_n338 : GoodIn wsX9_adds (wsX0_addPlank) := ggX9_adds_X0_addPlank
set_option maxRecDepth 20000 in
theorem ggX9_adds_X9_settle : GoodIn wsX9_adds wsX9_settle := goodIn_r _ [24, 2, 1, 25, 26, 27, 28, 29, 30, 31, 32, 33, 34, 35, 36, 37, 38, 39, 40, 4, 41, 42, 43, 44, 45, 46, 47, 48, 49, 50, 51, 3, 5, 6, 7, 52, 53, 54, 55, 56, 57, 58, 59, 60, 61, 62, 63, 64, 65, 66, 67, 68, 69, 70, 71, 72, 73, 74, 75, 76, 77, 78, 79, 80, 81, 82, 23, 83, 84, 85, 86, 87, 88, 89, 90, 91, 92, 93, 94, 95, 96, 97, 98, 99, 100, 101, 102, 103, 104, 105, 106, 107, 108, 112, 113, 114, 115, 116, 117, 118, 119, 120, 121, 122, 145, 146, 147, 148, 149, 150, 151, 152, 153, 154, 155, 156, 123, 124, 125, 126, 127, 128, 129, 130, 131, 132, 133, 134, 135, 136, 137, 138, 139, 140, 141, 142, 143, 144, 157, 158, 159, 160] (by decide +kernel) (by decide +kernel)
set_option maxRecDepth 20000 in
theorem gX9_adds_X9_settle : GoodIn wsX9_adds (wsV RX9 89 RX9 yX9_settle wsX9_settle) := goodIn_app (goodIn_of _ (by decide +kernel)) ggX9_adds_X9_settle
set_option maxRecDepth 20000 in
theorem ggX9_adds_X1_crosses : GoodIn wsX9_adds wsX1_crosses := goodIn_r _ [111, 32, 78, 79, 80, 26, 81, 31, 105, 106, 107, 108, 72, 29, 82, 23, 83, 145, 146, 147, 148, 149, 150, 151, 152, 153, 154, 155, 156, 123, 124, 125, 126, 127, 128, 129, 130, 131, 132, 133, 134, 135, 136, 137, 138, 139, 140] (by decide +kernel) (by decide +kernel)
set_option maxRecDepth 20000 in
theorem gX9_adds_X1_crosses_n193 : GoodIn wsX9_adds (wsX1_crosses) := ggX9_adds_X1_crosses
theorem dX9_adds_0 : decode cX9_adds 0 = .ok (.iload_n 1, 1) := by decide +kernel
theorem dX9_adds_1 : decode cX9_adds 1 = .ok (.iconst 1, 1) := by decide +kernel
theorem dX9_adds_2 : decode cX9_adds 2 = .ok (.if_icmp .lt 20, 3) := by decide +kernel
theorem dX9_adds_5 : decode cX9_adds 5 = .ok (.iload_n 1, 1) := by decide +kernel
theorem dX9_adds_6 : decode cX9_adds 6 = .ok (.bipush 9, 2) := by decide +kernel
theorem dX9_adds_8 : decode cX9_adds 8 = .ok (.if_icmp .gt 14, 3) := by decide +kernel
theorem dX9_adds_11 : decode cX9_adds 11 = .ok (.aload_n 0, 1) := by decide +kernel
theorem dX9_adds_12 : decode cX9_adds 12 = .ok (.getfield 28, 3) := by decide +kernel
theorem dX9_adds_15 : decode cX9_adds 15 = .ok (.iload_n 2, 1) := by decide +kernel
theorem dX9_adds_16 : decode cX9_adds 16 = .ok (.invokevirtual 98, 3) := by decide +kernel
theorem dX9_adds_19 : decode cX9_adds 19 = .ok (.ifCond .ne 6, 3) := by decide +kernel
theorem dX9_adds_22 : decode cX9_adds 22 = .ok (.bipush (-2), 2) := by decide +kernel
theorem dX9_adds_24 : decode cX9_adds 24 = .ok (.ireturn, 1) := by decide +kernel
theorem dX9_adds_25 : decode cX9_adds 25 = .ok (.aload_n 0, 1) := by decide +kernel
theorem dX9_adds_26 : decode cX9_adds 26 = .ok (.getfield 28, 3) := by decide +kernel
theorem dX9_adds_29 : decode cX9_adds 29 = .ok (.getfield 334, 3) := by decide +kernel
theorem dX9_adds_32 : decode cX9_adds 32 = .ok (.iload_n 2, 1) := by decide +kernel
theorem dX9_adds_33 : decode cX9_adds 33 = .ok (.iload_n 1, 1) := by decide +kernel
theorem dX9_adds_34 : decode cX9_adds 34 = .ok (.invokevirtual 338, 3) := by decide +kernel
theorem dX9_adds_37 : decode cX9_adds 37 = .ok (.ifCond .ne 6, 3) := by decide +kernel
theorem dX9_adds_40 : decode cX9_adds 40 = .ok (.bipush (-5), 2) := by decide +kernel
theorem dX9_adds_42 : decode cX9_adds 42 = .ok (.ireturn, 1) := by decide +kernel
theorem dX9_adds_43 : decode cX9_adds 43 = .ok (.aload_n 0, 1) := by decide +kernel
theorem dX9_adds_44 : decode cX9_adds 44 = .ok (.invokevirtual 89, 3) := by decide +kernel
theorem dX9_adds_47 : decode cX9_adds 47 = .ok (.iconst 0, 1) := by decide +kernel
theorem dX9_adds_48 : decode cX9_adds 48 = .ok (.istore_n 3, 1) := by decide +kernel
theorem dX9_adds_49 : decode cX9_adds 49 = .ok (.iconst 0, 1) := by decide +kernel
theorem dX9_adds_50 : decode cX9_adds 50 = .ok (.istore 4, 2) := by decide +kernel
theorem dX9_adds_52 : decode cX9_adds 52 = .ok (.iload 4, 2) := by decide +kernel
theorem dX9_adds_54 : decode cX9_adds 54 = .ok (.aload_n 0, 1) := by decide +kernel
theorem dX9_adds_55 : decode cX9_adds 55 = .ok (.getfield 28, 3) := by decide +kernel
theorem dX9_adds_58 : decode cX9_adds 58 = .ok (.getfield 175, 3) := by decide +kernel
theorem dX9_adds_61 : decode cX9_adds 61 = .ok (.if_icmp .ge 30, 3) := by decide +kernel
theorem dX9_adds_64 : decode cX9_adds 64 = .ok (.aload_n 0, 1) := by decide +kernel
theorem dX9_adds_65 : decode cX9_adds 65 = .ok (.getfield 48, 3) := by decide +kernel
theorem dX9_adds_68 : decode cX9_adds 68 = .ok (.iload 4, 2) := by decide +kernel
theorem dX9_adds_70 : decode cX9_adds 70 = .ok (.iload_n 2, 1) := by decide +kernel
theorem dX9_adds_71 : decode cX9_adds 71 = .ok (.iconst 0, 1) := by decide +kernel
theorem dX9_adds_72 : decode cX9_adds 72 = .ok (.invokevirtual 193, 3) := by decide +kernel
theorem dX9_adds_75 : decode cX9_adds 75 = .ok (.ifCond .eq 10, 3) := by decide +kernel
theorem dX9_adds_78 : decode cX9_adds 78 = .ok (.iload_n 3, 1) := by decide +kernel
theorem dX9_adds_79 : decode cX9_adds 79 = .ok (.iconst 1, 1) := by decide +kernel
theorem dX9_adds_80 : decode cX9_adds 80 = .ok (.iload 4, 2) := by decide +kernel
theorem dX9_adds_82 : decode cX9_adds 82 = .ok (.ishl, 1) := by decide +kernel
theorem dX9_adds_83 : decode cX9_adds 83 = .ok (.ior, 1) := by decide +kernel
theorem dX9_adds_84 : decode cX9_adds 84 = .ok (.istore_n 3, 1) := by decide +kernel
theorem dX9_adds_85 : decode cX9_adds 85 = .ok (.iinc 4 1, 3) := by decide +kernel
theorem dX9_adds_88 : decode cX9_adds 88 = .ok (.goto (-36), 3) := by decide +kernel
theorem dX9_adds_91 : decode cX9_adds 91 = .ok (.iload_n 3, 1) := by decide +kernel
theorem dX9_adds_92 : decode cX9_adds 92 = .ok (.ireturn, 1) := by decide +kernel
set_option maxRecDepth 20000 in
theorem ggX9_dredge_X6_hasBoth : GoodIn wsX9_dredge wsX6_hasBoth := goodIn_r _ [6, 7, 8, 9, 4, 10, 11, 12, 13, 14, 15, 16, 125, 126, 127, 128, 129, 130, 131, 132, 133, 134, 135, 136, 137, 138, 139, 140, 141, 142] (by decide +kernel) (by decide +kernel)
set_option maxRecDepth 20000 in
theorem gX9_dredge_X6_hasBoth_n155 : GoodIn wsX9_dredge (wsX6_hasBoth) := ggX9_dredge_X6_hasBoth
set_option maxRecDepth 20000 in
theorem ggX9_dredge_X0_addDredging : GoodIn wsX9_dredge wsX0_addDredging := goodIn_r _ [20, 21, 22, 23, 18, 24, 25, 26, 27, 28, 155, 156, 157, 158] (by decide +kernel) (by decide +kernel)
set_option maxRecDepth 20000 in
theorem gX9_dredge_X0_addDredging_n343 : GoodIn wsX9_dredge (wsX0_addDredging) := ggX9_dredge_X0_addDredging
set_option maxRecDepth 20000 in
theorem ggX9_dredge_X9_settle : GoodIn wsX9_dredge wsX9_settle := goodIn_r _ [33, 2, 1, 34, 35, 36, 37, 38, 39, 40, 41, 42, 43, 44, 45, 46, 47, 48, 49, 4, 50, 51, 52, 53, 54, 55, 56, 57, 58, 59, 7, 8, 9, 10, 11, 60, 61, 62, 63, 64, 65, 66, 67, 68, 69, 70, 71, 72, 73, 74, 75, 76, 77, 78, 79, 80, 81, 82, 83, 84, 85, 86, 87, 88, 89, 90, 32, 91, 92, 93, 94, 95, 96, 97, 98, 99, 100, 101, 102, 103, 104, 105, 106, 107, 108, 13, 14, 15, 16, 109, 110, 111, 112, 114, 115, 116, 117, 118, 119, 120, 121, 122, 123, 124, 143, 144, 145, 146, 147, 148, 149, 150, 151, 152, 153, 154, 125, 126, 127, 128, 129, 130, 131, 132, 133, 134, 135, 136, 137, 138, 139, 140, 141, 142, 155, 156, 157, 158, 159, 160, 161, 162] (by decide +kernel) (by decide +kernel)
set_option maxRecDepth 20000 in
theorem gX9_dredge_X9_settle : GoodIn wsX9_dredge (wsV RX9 89 RX9 yX9_settle wsX9_settle) := goodIn_app (goodIn_of _ (by decide +kernel)) ggX9_dredge_X9_settle
set_option maxRecDepth 20000 in
theorem ggX9_dredge_X9_cell : GoodIn wsX9_dredge wsX9_cell := goodIn_r _ [91] (by decide +kernel) (by decide +kernel)
set_option maxRecDepth 20000 in
theorem gX9_dredge_X9_cell : GoodIn wsX9_dredge (va_wsS RX9 162 yX9_cell wsX9_cell) := goodIn_app (goodIn_of _ (by decide +kernel)) ggX9_dredge_X9_cell
theorem dX9_dredge_0 : decode cX9_dredge 0 = .ok (.aload_n 0, 1) := by decide +kernel
theorem dX9_dredge_1 : decode cX9_dredge 1 = .ok (.getfield 28, 3) := by decide +kernel
theorem dX9_dredge_4 : decode cX9_dredge 4 = .ok (.iload_n 1, 1) := by decide +kernel
theorem dX9_dredge_5 : decode cX9_dredge 5 = .ok (.iload_n 2, 1) := by decide +kernel
theorem dX9_dredge_6 : decode cX9_dredge 6 = .ok (.invokevirtual 155, 3) := by decide +kernel
theorem dX9_dredge_9 : decode cX9_dredge 9 = .ok (.ifCond .ne 6, 3) := by decide +kernel
theorem dX9_dredge_12 : decode cX9_dredge 12 = .ok (.bipush (-2), 2) := by decide +kernel
theorem dX9_dredge_14 : decode cX9_dredge 14 = .ok (.ireturn, 1) := by decide +kernel
theorem dX9_dredge_15 : decode cX9_dredge 15 = .ok (.aload_n 0, 1) := by decide +kernel
theorem dX9_dredge_16 : decode cX9_dredge 16 = .ok (.getfield 28, 3) := by decide +kernel
theorem dX9_dredge_19 : decode cX9_dredge 19 = .ok (.getfield 334, 3) := by decide +kernel
theorem dX9_dredge_22 : decode cX9_dredge 22 = .ok (.iload_n 1, 1) := by decide +kernel
theorem dX9_dredge_23 : decode cX9_dredge 23 = .ok (.iload_n 2, 1) := by decide +kernel
theorem dX9_dredge_24 : decode cX9_dredge 24 = .ok (.invokevirtual 343, 3) := by decide +kernel
theorem dX9_dredge_27 : decode cX9_dredge 27 = .ok (.ifCond .ne 6, 3) := by decide +kernel
theorem dX9_dredge_30 : decode cX9_dredge 30 = .ok (.bipush (-5), 2) := by decide +kernel
theorem dX9_dredge_32 : decode cX9_dredge 32 = .ok (.ireturn, 1) := by decide +kernel
theorem dX9_dredge_33 : decode cX9_dredge 33 = .ok (.aload_n 0, 1) := by decide +kernel
theorem dX9_dredge_34 : decode cX9_dredge 34 = .ok (.invokevirtual 89, 3) := by decide +kernel
theorem dX9_dredge_37 : decode cX9_dredge 37 = .ok (.aload_n 0, 1) := by decide +kernel
theorem dX9_dredge_38 : decode cX9_dredge 38 = .ok (.getfield 48, 3) := by decide +kernel
theorem dX9_dredge_41 : decode cX9_dredge 41 = .ok (.getfield 159, 3) := by decide +kernel
theorem dX9_dredge_44 : decode cX9_dredge 44 = .ok (.iload_n 1, 1) := by decide +kernel
theorem dX9_dredge_45 : decode cX9_dredge 45 = .ok (.aload_n 0, 1) := by decide +kernel
theorem dX9_dredge_46 : decode cX9_dredge 46 = .ok (.getfield 28, 3) := by decide +kernel
theorem dX9_dredge_49 : decode cX9_dredge 49 = .ok (.getfield 178, 3) := by decide +kernel
theorem dX9_dredge_52 : decode cX9_dredge 52 = .ok (.iconst 1, 1) := by decide +kernel
theorem dX9_dredge_53 : decode cX9_dredge 53 = .ok (.isub, 1) := by decide +kernel
theorem dX9_dredge_54 : decode cX9_dredge 54 = .ok (.invokestatic 162, 3) := by decide +kernel
theorem dX9_dredge_57 : decode cX9_dredge 57 = .ok (.iaload, 1) := by decide +kernel
theorem dX9_dredge_58 : decode cX9_dredge 58 = .ok (.ireturn, 1) := by decide +kernel
set_option maxRecDepth 20000 in
theorem ggX9_undo_X6_isTold : GoodIn wsX9_undo wsX6_isTold := goodIn_r _ [5, 6, 112, 113, 114, 115, 116, 117, 118, 119, 120, 121, 122, 123, 124, 125, 126, 127, 128, 129] (by decide +kernel) (by decide +kernel)
set_option maxRecDepth 20000 in
theorem gX9_undo_X6_isTold_n148 : GoodIn wsX9_undo (wsX6_isTold) := ggX9_undo_X6_isTold
set_option maxRecDepth 20000 in
theorem ggX9_undo_X9_settle : GoodIn wsX9_undo wsX9_settle := goodIn_r _ [11, 12, 1, 13, 14, 15, 16, 17, 18, 19, 20, 21, 22, 23, 24, 25, 26, 27, 28, 3, 29, 30, 31, 32, 33, 34, 35, 36, 37, 38, 39, 40, 41, 42, 43, 44, 45, 46, 47, 48, 49, 50, 51, 52, 53, 54, 55, 56, 57, 58, 59, 60, 61, 62, 63, 64, 65, 66, 67, 68, 69, 70, 71, 72, 73, 74, 10, 75, 76, 77, 78, 79, 80, 81, 82, 83, 84, 85, 86, 87, 88, 89, 90, 91, 92, 93, 94, 95, 96, 97, 98, 99, 100, 101, 102, 103, 104, 105, 106, 107, 108, 109, 110, 111, 134, 135, 136, 137, 138, 139, 140, 141, 142, 143, 144, 145, 112, 113, 114, 115, 116, 117, 118, 119, 120, 121, 122, 123, 124, 125, 126, 127, 128, 129, 130, 131, 132, 133, 146, 147, 148, 149] (by decide +kernel) (by decide +kernel)
set_option maxRecDepth 20000 in
theorem gX9_undo_X9_settle : GoodIn wsX9_undo (wsV RX9 89 RX9 yX9_settle wsX9_settle) := goodIn_app (goodIn_of _ (by decide +kernel)) ggX9_undo_X9_settle
theorem dX9_undo_0 : decode cX9_undo 0 = .ok (.aload_n 0, 1) := by decide +kernel
theorem dX9_undo_1 : decode cX9_undo 1 = .ok (.getfield 28, 3) := by decide +kernel
theorem dX9_undo_4 : decode cX9_undo 4 = .ok (.invokevirtual 148, 3) := by decide +kernel
theorem dX9_undo_7 : decode cX9_undo 7 = .ok (.ifCond .ne 6, 3) := by decide +kernel
theorem dX9_undo_10 : decode cX9_undo 10 = .ok (.bipush (-2), 2) := by decide +kernel
theorem dX9_undo_12 : decode cX9_undo 12 = .ok (.ireturn, 1) := by decide +kernel
theorem dX9_undo_13 : decode cX9_undo 13 = .ok (.aload_n 0, 1) := by decide +kernel
theorem dX9_undo_14 : decode cX9_undo 14 = .ok (.getfield 28, 3) := by decide +kernel
theorem dX9_undo_17 : decode cX9_undo 17 = .ok (.getfield 334, 3) := by decide +kernel
theorem dX9_undo_20 : decode cX9_undo 20 = .ok (.getfield 346, 3) := by decide +kernel
theorem dX9_undo_23 : decode cX9_undo 23 = .ok (.ifCond .ne 6, 3) := by decide +kernel
theorem dX9_undo_26 : decode cX9_undo 26 = .ok (.bipush (-5), 2) := by decide +kernel
theorem dX9_undo_28 : decode cX9_undo 28 = .ok (.ireturn, 1) := by decide +kernel
theorem dX9_undo_29 : decode cX9_undo 29 = .ok (.aload_n 0, 1) := by decide +kernel
theorem dX9_undo_30 : decode cX9_undo 30 = .ok (.getfield 28, 3) := by decide +kernel
theorem dX9_undo_33 : decode cX9_undo 33 = .ok (.getfield 334, 3) := by decide +kernel
theorem dX9_undo_36 : decode cX9_undo 36 = .ok (.dup, 1) := by decide +kernel
theorem dX9_undo_37 : decode cX9_undo 37 = .ok (.getfield 346, 3) := by decide +kernel
theorem dX9_undo_40 : decode cX9_undo 40 = .ok (.iconst 1, 1) := by decide +kernel
theorem dX9_undo_41 : decode cX9_undo 41 = .ok (.isub, 1) := by decide +kernel
theorem dX9_undo_42 : decode cX9_undo 42 = .ok (.putfield 346, 3) := by decide +kernel
theorem dX9_undo_45 : decode cX9_undo 45 = .ok (.aload_n 0, 1) := by decide +kernel
theorem dX9_undo_46 : decode cX9_undo 46 = .ok (.invokevirtual 89, 3) := by decide +kernel
theorem dX9_undo_49 : decode cX9_undo 49 = .ok (.aload_n 0, 1) := by decide +kernel
theorem dX9_undo_50 : decode cX9_undo 50 = .ok (.getfield 28, 3) := by decide +kernel
theorem dX9_undo_53 : decode cX9_undo 53 = .ok (.getfield 334, 3) := by decide +kernel
theorem dX9_undo_56 : decode cX9_undo 56 = .ok (.getfield 346, 3) := by decide +kernel
theorem dX9_undo_59 : decode cX9_undo 59 = .ok (.ireturn, 1) := by decide +kernel
set_option maxRecDepth 20000 in
theorem ggX9_anew_X6_isTold : GoodIn wsX9_anew wsX6_isTold := goodIn_r _ [5, 6, 112, 113, 114, 115, 116, 117, 118, 119, 120, 121, 122, 123, 124, 125, 126, 127, 128, 129] (by decide +kernel) (by decide +kernel)
set_option maxRecDepth 20000 in
theorem gX9_anew_X6_isTold_n148 : GoodIn wsX9_anew (wsX6_isTold) := ggX9_anew_X6_isTold
set_option maxRecDepth 20000 in
theorem ggX9_anew_X9_settle : GoodIn wsX9_anew wsX9_settle := goodIn_r _ [11, 12, 1, 13, 14, 15, 16, 17, 18, 19, 20, 21, 22, 23, 24, 25, 26, 27, 28, 3, 29, 30, 31, 32, 33, 34, 35, 36, 37, 38, 39, 40, 41, 42, 43, 44, 45, 46, 47, 48, 49, 50, 51, 52, 53, 54, 55, 56, 57, 58, 59, 60, 61, 62, 63, 64, 65, 66, 67, 68, 69, 70, 71, 72, 73, 74, 10, 75, 76, 77, 78, 79, 80, 81, 82, 83, 84, 85, 86, 87, 88, 89, 90, 91, 92, 93, 94, 95, 96, 97, 98, 99, 100, 101, 102, 103, 104, 105, 106, 107, 108, 109, 110, 111, 134, 135, 136, 137, 138, 139, 140, 141, 142, 143, 144, 145, 112, 113, 114, 115, 116, 117, 118, 119, 120, 121, 122, 123, 124, 125, 126, 127, 128, 129, 130, 131, 132, 133, 146, 147, 148, 149] (by decide +kernel) (by decide +kernel)
