theorem dX10_hasPlank_47 : decode cX10_hasPlank 47 = .ok (.aload_n 0, 1) := by decide +kernel
theorem dX10_hasPlank_48 : decode cX10_hasPlank 48 = .ok (.getfield 9, 3) := by decide +kernel
theorem dX10_hasPlank_51 : decode cX10_hasPlank 51 = .ok (.bipush 34, 2) := by decide +kernel
theorem dX10_hasPlank_53 : decode cX10_hasPlank 53 = .ok (.iconst 2, 1) := by decide +kernel
theorem dX10_hasPlank_54 : decode cX10_hasPlank 54 = .ok (.iload_n 3, 1) := by decide +kernel
theorem dX10_hasPlank_55 : decode cX10_hasPlank 55 = .ok (.imul, 1) := by decide +kernel
theorem dX10_hasPlank_56 : decode cX10_hasPlank 56 = .ok (.iadd, 1) := by decide +kernel
theorem dX10_hasPlank_57 : decode cX10_hasPlank 57 = .ok (.iaload, 1) := by decide +kernel
theorem dX10_hasPlank_58 : decode cX10_hasPlank 58 = .ok (.aload_n 0, 1) := by decide +kernel
theorem dX10_hasPlank_59 : decode cX10_hasPlank 59 = .ok (.iload_n 1, 1) := by decide +kernel
theorem dX10_hasPlank_60 : decode cX10_hasPlank 60 = .ok (.iconst 0, 1) := by decide +kernel
theorem dX10_hasPlank_61 : decode cX10_hasPlank 61 = .ok (.invokevirtual 236, 3) := by decide +kernel
theorem dX10_hasPlank_64 : decode cX10_hasPlank 64 = .ok (.if_icmp .lt 7, 3) := by decide +kernel
theorem dX10_hasPlank_67 : decode cX10_hasPlank 67 = .ok (.iconst 1, 1) := by decide +kernel
theorem dX10_hasPlank_68 : decode cX10_hasPlank 68 = .ok (.goto 4, 3) := by decide +kernel
theorem dX10_hasPlank_71 : decode cX10_hasPlank 71 = .ok (.iconst 0, 1) := by decide +kernel
theorem dX10_hasPlank_72 : decode cX10_hasPlank 72 = .ok (.istore_n 2, 1) := by decide +kernel
theorem dX10_hasPlank_73 : decode cX10_hasPlank 73 = .ok (.iinc 3 1, 3) := by decide +kernel
theorem dX10_hasPlank_76 : decode cX10_hasPlank 76 = .ok (.goto (-53), 3) := by decide +kernel
theorem dX10_hasPlank_79 : decode cX10_hasPlank 79 = .ok (.iload_n 2, 1) := by decide +kernel
theorem dX10_hasPlank_80 : decode cX10_hasPlank 80 = .ok (.ireturn, 1) := by decide +kernel
set_option maxRecDepth 20000 in
theorem ggX10_doesFord_X10_isFrost : GoodIn wsX10_doesFord wsX10_isFrost := goodIn_r _ [7, 8, 9, 10, 6, 11, 28, 29, 30, 31, 32, 33, 34, 35, 36, 37, 38, 39, 40, 41, 42, 43, 44, 45, 46, 47, 48, 49, 50, 51, 52, 53, 54, 55, 56, 57, 58, 59, 60, 61, 62, 63, 64, 65, 66, 67, 68, 69, 70, 71, 72] (by decide +kernel) (by decide +kernel)
set_option maxRecDepth 20000 in
theorem gX10_doesFord_X10_isFrost : GoodIn wsX10_doesFord (wsV RX10 264 RX10 yX10_isFrost wsX10_isFrost) := goodIn_app (goodIn_of _ (by decide +kernel)) ggX10_doesFord_X10_isFrost
set_option maxRecDepth 20000 in
theorem ggX10_doesFord_X10_waterIn : GoodIn wsX10_doesFord wsX10_waterIn := goodIn_r _ [15, 16, 28, 29, 30, 31, 32, 33, 34, 35, 36, 37, 38, 39, 40, 41, 42, 43, 44, 45, 46, 47, 48, 49, 50, 51, 52, 53, 54, 55, 56, 57, 58, 59, 60, 61, 62, 63, 64, 65, 66, 67, 68, 69, 70, 71, 72] (by decide +kernel) (by decide +kernel)
set_option maxRecDepth 20000 in
theorem gX10_doesFord_X10_waterIn : GoodIn wsX10_doesFord (wsV RX10 294 RX10 yX10_waterIn wsX10_waterIn) := goodIn_app (goodIn_of _ (by decide +kernel)) ggX10_doesFord_X10_waterIn
set_option maxRecDepth 20000 in
theorem ggX10_doesFord_X10_bit : GoodIn wsX10_doesFord wsX10_bit := goodIn_r _ [11] (by decide +kernel) (by decide +kernel)
set_option maxRecDepth 20000 in
theorem gX10_doesFord_X10_bit : GoodIn wsX10_doesFord (va_wsS RX10 258 yX10_bit wsX10_bit) := goodIn_app (goodIn_of _ (by decide +kernel)) ggX10_doesFord_X10_bit
set_option maxRecDepth 20000 in
theorem ggX10_doesFord_X10_hasPlank : GoodIn wsX10_doesFord wsX10_hasPlank := goodIn_r _ [20, 21, 22, 23, 24, 25, 26, 6, 27, 28, 29, 30, 31, 32, 33, 34, 35, 36, 37, 38, 39, 40, 41, 42, 43, 44, 45, 46, 47, 48, 49, 50, 51, 52, 53, 54, 55, 56, 57, 58, 59, 60, 61, 62, 63, 64, 65, 66, 67, 68, 69, 70, 71, 72] (by decide +kernel) (by decide +kernel)
set_option maxRecDepth 20000 in
theorem gX10_doesFord_X10_hasPlank : GoodIn wsX10_doesFord (wsV RX10 300 RX10 yX10_hasPlank wsX10_hasPlank) := goodIn_app (goodIn_of _ (by decide +kernel)) ggX10_doesFord_X10_hasPlank
theorem dX10_doesFord_0 : decode cX10_doesFord 0 = .ok (.aload_n 0, 1) := by decide +kernel
theorem dX10_doesFord_1 : decode cX10_doesFord 1 = .ok (.iload_n 3, 1) := by decide +kernel
theorem dX10_doesFord_2 : decode cX10_doesFord 2 = .ok (.invokevirtual 264, 3) := by decide +kernel
theorem dX10_doesFord_5 : decode cX10_doesFord 5 = .ok (.ifCond .ne 38, 3) := by decide +kernel
theorem dX10_doesFord_8 : decode cX10_doesFord 8 = .ok (.aload_n 0, 1) := by decide +kernel
theorem dX10_doesFord_9 : decode cX10_doesFord 9 = .ok (.iload_n 2, 1) := by decide +kernel
theorem dX10_doesFord_10 : decode cX10_doesFord 10 = .ok (.iload_n 3, 1) := by decide +kernel
theorem dX10_doesFord_11 : decode cX10_doesFord 11 = .ok (.invokevirtual 294, 3) := by decide +kernel
theorem dX10_doesFord_14 : decode cX10_doesFord 14 = .ok (.aload_n 0, 1) := by decide +kernel
theorem dX10_doesFord_15 : decode cX10_doesFord 15 = .ok (.getfield 40, 3) := by decide +kernel
theorem dX10_doesFord_18 : decode cX10_doesFord 18 = .ok (.iload_n 1, 1) := by decide +kernel
theorem dX10_doesFord_19 : decode cX10_doesFord 19 = .ok (.iaload, 1) := by decide +kernel
theorem dX10_doesFord_20 : decode cX10_doesFord 20 = .ok (.if_icmp .le 23, 3) := by decide +kernel
theorem dX10_doesFord_23 : decode cX10_doesFord 23 = .ok (.aload_n 0, 1) := by decide +kernel
theorem dX10_doesFord_24 : decode cX10_doesFord 24 = .ok (.getfield 249, 3) := by decide +kernel
theorem dX10_doesFord_27 : decode cX10_doesFord 27 = .ok (.iload_n 2, 1) := by decide +kernel
theorem dX10_doesFord_28 : decode cX10_doesFord 28 = .ok (.invokestatic 258, 3) := by decide +kernel
theorem dX10_doesFord_31 : decode cX10_doesFord 31 = .ok (.iconst 1, 1) := by decide +kernel
theorem dX10_doesFord_32 : decode cX10_doesFord 32 = .ok (.if_icmp .eq 11, 3) := by decide +kernel
theorem dX10_doesFord_35 : decode cX10_doesFord 35 = .ok (.aload_n 0, 1) := by decide +kernel
theorem dX10_doesFord_36 : decode cX10_doesFord 36 = .ok (.iload_n 2, 1) := by decide +kernel
theorem dX10_doesFord_37 : decode cX10_doesFord 37 = .ok (.invokevirtual 300, 3) := by decide +kernel
theorem dX10_doesFord_40 : decode cX10_doesFord 40 = .ok (.ifCond .eq 7, 3) := by decide +kernel
theorem dX10_doesFord_43 : decode cX10_doesFord 43 = .ok (.iconst 1, 1) := by decide +kernel
theorem dX10_doesFord_44 : decode cX10_doesFord 44 = .ok (.goto 4, 3) := by decide +kernel
theorem dX10_doesFord_47 : decode cX10_doesFord 47 = .ok (.iconst 0, 1) := by decide +kernel
theorem dX10_doesFord_48 : decode cX10_doesFord 48 = .ok (.ireturn, 1) := by decide +kernel
set_option maxRecDepth 20000 in
theorem ggX10_doesCome_X10_doesFord : GoodIn wsX10_doesCome wsX10_doesFord := goodIn_r _ [5, 6, 7, 8, 9, 10, 4, 11, 12, 13, 14, 15, 16, 17, 18, 19, 20, 21, 22, 23, 24, 25, 26, 27, 28, 29, 30, 31, 32, 33, 34, 35, 36, 37, 38, 39, 40, 41, 42, 43, 44, 45, 46, 47, 48, 49, 50, 51, 52, 53, 54, 55, 56, 57, 58, 59, 60, 61, 62, 63, 64, 65, 66, 67, 68, 69, 70, 71, 72, 73, 74, 75, 76] (by decide +kernel) (by decide +kernel)
set_option maxRecDepth 20000 in
theorem gX10_doesCome_X10_doesFord : GoodIn wsX10_doesCome (wsV RX10 303 RX10 yX10_doesFord wsX10_doesFord) := goodIn_app (goodIn_of _ (by decide +kernel)) ggX10_doesCome_X10_doesFord
theorem dX10_doesCome_0 : decode cX10_doesCome 0 = .ok (.aload_n 0, 1) := by decide +kernel
theorem dX10_doesCome_1 : decode cX10_doesCome 1 = .ok (.iload_n 1, 1) := by decide +kernel
theorem dX10_doesCome_2 : decode cX10_doesCome 2 = .ok (.iload_n 1, 1) := by decide +kernel
theorem dX10_doesCome_3 : decode cX10_doesCome 3 = .ok (.iload_n 3, 1) := by decide +kernel
theorem dX10_doesCome_4 : decode cX10_doesCome 4 = .ok (.invokevirtual 303, 3) := by decide +kernel
theorem dX10_doesCome_7 : decode cX10_doesCome 7 = .ok (.ifCond .eq 17, 3) := by decide +kernel
theorem dX10_doesCome_10 : decode cX10_doesCome 10 = .ok (.aload_n 0, 1) := by decide +kernel
theorem dX10_doesCome_11 : decode cX10_doesCome 11 = .ok (.iload_n 1, 1) := by decide +kernel
theorem dX10_doesCome_12 : decode cX10_doesCome 12 = .ok (.iload_n 2, 1) := by decide +kernel
theorem dX10_doesCome_13 : decode cX10_doesCome 13 = .ok (.iload_n 3, 1) := by decide +kernel
theorem dX10_doesCome_14 : decode cX10_doesCome 14 = .ok (.invokevirtual 303, 3) := by decide +kernel
theorem dX10_doesCome_17 : decode cX10_doesCome 17 = .ok (.ifCond .eq 7, 3) := by decide +kernel
theorem dX10_doesCome_20 : decode cX10_doesCome 20 = .ok (.iconst 1, 1) := by decide +kernel
theorem dX10_doesCome_21 : decode cX10_doesCome 21 = .ok (.goto 4, 3) := by decide +kernel
theorem dX10_doesCome_24 : decode cX10_doesCome 24 = .ok (.iconst 0, 1) := by decide +kernel
theorem dX10_doesCome_25 : decode cX10_doesCome 25 = .ok (.ireturn, 1) := by decide +kernel
set_option maxRecDepth 20000 in
theorem ggX10_over_X10_asksYear : GoodIn wsX10_over wsX10_asksYear := goodIn_r _ [5, 6, 7, 8, 4, 9, 10, 11, 12, 13, 14, 15, 16, 17, 18, 19, 20, 21, 22, 23, 24, 25, 26, 27, 28, 29, 30, 31, 32, 33, 34, 35, 36, 37, 38, 39, 40, 41, 42, 43, 44, 45, 46, 47, 48, 49, 50, 51, 52, 53, 54, 55, 56, 57, 58, 59, 60, 61, 62, 63, 64, 65, 66, 67, 68, 69, 70, 71, 72, 73, 74, 75, 76, 77, 78, 95, 96, 97, 98, 99, 100, 101, 102, 103, 104, 105, 106, 107, 108, 109, 110, 111, 112, 113, 114, 115, 116, 117, 118, 119, 120, 121, 122, 123, 124, 125, 126, 127, 128, 129, 130, 131, 132, 133, 134, 135, 136, 137, 138, 139] (by decide +kernel) (by decide +kernel)
set_option maxRecDepth 20000 in
theorem gX10_over_X10_asksYear : GoodIn wsX10_over (wsV RX10 291 RX10 yX10_asksYear wsX10_asksYear) := goodIn_app (goodIn_of _ (by decide +kernel)) ggX10_over_X10_asksYear
set_option maxRecDepth 20000 in
theorem ggX10_over_X10_isRank : GoodIn wsX10_over wsX10_isRank := goodIn_r _ [82, 14, 68, 69, 4, 70, 95, 96, 97, 98, 99, 100, 101, 102, 103, 104, 105, 106, 107, 108, 109, 110, 111, 112, 113, 114, 115, 116, 117, 118, 119, 120, 121, 122, 123, 124, 125, 126, 127, 128, 129, 130, 131, 132, 133, 134, 135, 136, 137, 138, 139] (by decide +kernel) (by decide +kernel)
set_option maxRecDepth 20000 in
theorem gX10_over_X10_isRank : GoodIn wsX10_over (wsV RX10 230 RX10 yX10_isRank wsX10_isRank) := goodIn_app (goodIn_of _ (by decide +kernel)) ggX10_over_X10_isRank
set_option maxRecDepth 20000 in
theorem ggX10_over_X10_doesFord : GoodIn wsX10_over wsX10_doesFord := goodIn_r _ [86, 20, 16, 56, 57, 58, 4, 59, 17, 60, 61, 62, 87, 88, 89, 90, 51, 91, 92, 93, 94, 21, 14, 22, 29, 30, 31, 32, 95, 96, 97, 98, 99, 100, 101, 102, 103, 104, 105, 106, 107, 108, 109, 110, 111, 112, 113, 114, 115, 116, 117, 118, 119, 120, 121, 122, 123, 124, 125, 126, 127, 128, 129, 130, 131, 132, 133, 134, 135, 136, 137, 138, 139] (by decide +kernel) (by decide +kernel)
set_option maxRecDepth 20000 in
theorem gX10_over_X10_doesFord : GoodIn wsX10_over (wsV RX10 303 RX10 yX10_doesFord wsX10_doesFord) := goodIn_app (goodIn_of _ (by decide +kernel)) ggX10_over_X10_doesFord
theorem dX10_over_0 : decode cX10_over 0 = .ok (.aload_n 0, 1) := by decide +kernel
theorem dX10_over_1 : decode cX10_over 1 = .ok (.iload_n 3, 1) := by decide +kernel
theorem dX10_over_2 : decode cX10_over 2 = .ok (.invokevirtual 291, 3) := by decide +kernel
theorem dX10_over_5 : decode cX10_over 5 = .ok (.ifCond .eq 39, 3) := by decide +kernel
theorem dX10_over_8 : decode cX10_over 8 = .ok (.aload_n 0, 1) := by decide +kernel
theorem dX10_over_9 : decode cX10_over 9 = .ok (.iload_n 1, 1) := by decide +kernel
theorem dX10_over_10 : decode cX10_over 10 = .ok (.i2l, 1) := by decide +kernel
theorem dX10_over_11 : decode cX10_over 11 = .ok (.invokevirtual 230, 3) := by decide +kernel
theorem dX10_over_14 : decode cX10_over 14 = .ok (.ifCond .eq 30, 3) := by decide +kernel
theorem dX10_over_17 : decode cX10_over 17 = .ok (.aload_n 0, 1) := by decide +kernel
theorem dX10_over_18 : decode cX10_over 18 = .ok (.iload_n 2, 1) := by decide +kernel
theorem dX10_over_19 : decode cX10_over 19 = .ok (.i2l, 1) := by decide +kernel
theorem dX10_over_20 : decode cX10_over 20 = .ok (.invokevirtual 230, 3) := by decide +kernel
theorem dX10_over_23 : decode cX10_over 23 = .ok (.ifCond .eq 21, 3) := by decide +kernel
theorem dX10_over_26 : decode cX10_over 26 = .ok (.aload_n 0, 1) := by decide +kernel
theorem dX10_over_27 : decode cX10_over 27 = .ok (.iload_n 1, 1) := by decide +kernel
theorem dX10_over_28 : decode cX10_over 28 = .ok (.iload_n 2, 1) := by decide +kernel
theorem dX10_over_29 : decode cX10_over 29 = .ok (.iload_n 3, 1) := by decide +kernel
theorem dX10_over_30 : decode cX10_over 30 = .ok (.invokevirtual 303, 3) := by decide +kernel
theorem dX10_over_33 : decode cX10_over 33 = .ok (.ifCond .eq 7, 3) := by decide +kernel
theorem dX10_over_36 : decode cX10_over 36 = .ok (.iconst 1, 1) := by decide +kernel
theorem dX10_over_37 : decode cX10_over 37 = .ok (.goto 9, 3) := by decide +kernel
theorem dX10_over_40 : decode cX10_over 40 = .ok (.iconst 0, 1) := by decide +kernel
theorem dX10_over_41 : decode cX10_over 41 = .ok (.goto 5, 3) := by decide +kernel
theorem dX10_over_44 : decode cX10_over 44 = .ok (.bipush (-2), 2) := by decide +kernel
theorem dX10_over_46 : decode cX10_over 46 = .ok (.ireturn, 1) := by decide +kernel
set_option maxRecDepth 20000 in
theorem ggX10_comesOf_X10_ranks : GoodIn wsX10_comesOf wsX10_ranks := goodIn_r _ [5, 6, 40, 41, 42, 43, 44, 45, 46, 47, 48, 49, 50, 51, 52, 53, 54, 55, 56, 57, 58, 59, 60, 61, 62, 63, 64, 65, 66, 67, 68, 69, 70, 71, 72, 73, 74, 75, 76, 77, 78, 79, 80, 81, 82, 83, 84] (by decide +kernel) (by decide +kernel)
set_option maxRecDepth 20000 in
theorem gX10_comesOf_X10_ranks : GoodIn wsX10_comesOf (wsV RX10 261 RX10 yX10_ranks wsX10_ranks) := goodIn_app (goodIn_of _ (by decide +kernel)) ggX10_comesOf_X10_ranks
set_option maxRecDepth 20000 in
theorem ggX10_comesOf_X10_doesCome : GoodIn wsX10_comesOf wsX10_doesCome := goodIn_r _ [10, 11, 12, 13, 4, 14, 15, 16, 17, 18, 19, 20, 21, 22, 23, 24, 25, 26, 27, 28, 29, 30, 31, 32, 33, 34, 6, 35, 36, 37, 38, 39, 40, 41, 42, 43, 44, 45, 46, 47, 48, 49, 50, 51, 52, 53, 54, 55, 56, 57, 58, 59, 60, 61, 62, 63, 64, 65, 66, 67, 68, 69, 70, 71, 72, 73, 74, 75, 76, 77, 78, 79, 80, 81, 82, 83, 84] (by decide +kernel) (by decide +kernel)
set_option maxRecDepth 20000 in
theorem gX10_comesOf_X10_doesCome : GoodIn wsX10_comesOf (wsV RX10 307 RX10 yX10_doesCome wsX10_doesCome) := goodIn_app (goodIn_of _ (by decide +kernel)) ggX10_comesOf_X10_doesCome
theorem dX10_comesOf_0 : decode cX10_comesOf 0 = .ok (.iconst 0, 1) := by decide +kernel
theorem dX10_comesOf_1 : decode cX10_comesOf 1 = .ok (.istore_n 3, 1) := by decide +kernel
theorem dX10_comesOf_2 : decode cX10_comesOf 2 = .ok (.iconst 0, 1) := by decide +kernel
theorem dX10_comesOf_3 : decode cX10_comesOf 3 = .ok (.istore 4, 2) := by decide +kernel
theorem dX10_comesOf_5 : decode cX10_comesOf 5 = .ok (.iload 4, 2) := by decide +kernel
theorem dX10_comesOf_7 : decode cX10_comesOf 7 = .ok (.aload_n 0, 1) := by decide +kernel
theorem dX10_comesOf_8 : decode cX10_comesOf 8 = .ok (.invokevirtual 261, 3) := by decide +kernel
theorem dX10_comesOf_11 : decode cX10_comesOf 11 = .ok (.if_icmp .ge 37, 3) := by decide +kernel
theorem dX10_comesOf_14 : decode cX10_comesOf 14 = .ok (.iload_n 3, 1) := by decide +kernel
theorem dX10_comesOf_15 : decode cX10_comesOf 15 = .ok (.iload_n 1, 1) := by decide +kernel
theorem dX10_comesOf_16 : decode cX10_comesOf 16 = .ok (.iload 4, 2) := by decide +kernel
theorem dX10_comesOf_18 : decode cX10_comesOf 18 = .ok (.if_icmp .eq 21, 3) := by decide +kernel
theorem dX10_comesOf_21 : decode cX10_comesOf 21 = .ok (.aload_n 0, 1) := by decide +kernel
theorem dX10_comesOf_22 : decode cX10_comesOf 22 = .ok (.iload_n 1, 1) := by decide +kernel
theorem dX10_comesOf_23 : decode cX10_comesOf 23 = .ok (.iload 4, 2) := by decide +kernel
theorem dX10_comesOf_25 : decode cX10_comesOf 25 = .ok (.iload_n 2, 1) := by decide +kernel
theorem dX10_comesOf_26 : decode cX10_comesOf 26 = .ok (.invokevirtual 307, 3) := by decide +kernel
theorem dX10_comesOf_29 : decode cX10_comesOf 29 = .ok (.ifCond .eq 10, 3) := by decide +kernel
theorem dX10_comesOf_32 : decode cX10_comesOf 32 = .ok (.iconst 1, 1) := by decide +kernel
theorem dX10_comesOf_33 : decode cX10_comesOf 33 = .ok (.iload 4, 2) := by decide +kernel
theorem dX10_comesOf_35 : decode cX10_comesOf 35 = .ok (.ishl, 1) := by decide +kernel
theorem dX10_comesOf_36 : decode cX10_comesOf 36 = .ok (.goto 4, 3) := by decide +kernel
theorem dX10_comesOf_39 : decode cX10_comesOf 39 = .ok (.iconst 0, 1) := by decide +kernel
theorem dX10_comesOf_40 : decode cX10_comesOf 40 = .ok (.ior, 1) := by decide +kernel
theorem dX10_comesOf_41 : decode cX10_comesOf 41 = .ok (.istore_n 3, 1) := by decide +kernel
theorem dX10_comesOf_42 : decode cX10_comesOf 42 = .ok (.iinc 4 1, 3) := by decide +kernel
theorem dX10_comesOf_45 : decode cX10_comesOf 45 = .ok (.goto (-40), 3) := by decide +kernel
theorem dX10_comesOf_48 : decode cX10_comesOf 48 = .ok (.iload_n 3, 1) := by decide +kernel
theorem dX10_comesOf_49 : decode cX10_comesOf 49 = .ok (.ireturn, 1) := by decide +kernel
set_option maxRecDepth 20000 in
theorem ggX10_comes_X10_asksYear : GoodIn wsX10_comes wsX10_asksYear := goodIn_r _ [5, 6, 7, 8, 4, 9, 10, 11, 12, 13, 14, 15, 16, 17, 18, 19, 20, 21, 22, 23, 24, 25, 26, 27, 28, 29, 30, 31, 32, 33, 34, 35, 36, 37, 38, 39, 40, 41, 42, 43, 44, 45, 46, 47, 48, 49, 50, 51, 52, 53, 54, 55, 56, 57, 58, 59, 60, 61, 62, 63, 64, 65, 66, 67, 68, 69, 70, 71, 72, 73, 74, 75, 76, 77, 78, 103, 104, 105, 106, 107, 108, 109, 110, 111, 112, 113, 114, 115, 116, 117, 118, 119, 120, 121, 122, 123, 124, 125, 126, 127, 128, 129, 130, 131, 132, 133, 134, 135, 136, 137, 138, 139, 140, 141, 142, 143, 144, 145, 146, 147] (by decide +kernel) (by decide +kernel)
set_option maxRecDepth 20000 in
theorem gX10_comes_X10_asksYear : GoodIn wsX10_comes (wsV RX10 291 RX10 yX10_asksYear wsX10_asksYear) := goodIn_app (goodIn_of _ (by decide +kernel)) ggX10_comes_X10_asksYear
set_option maxRecDepth 20000 in
theorem ggX10_comes_X10_isRank : GoodIn wsX10_comes wsX10_isRank := goodIn_r _ [82, 14, 68, 69, 4, 70, 103, 104, 105, 106, 107, 108, 109, 110, 111, 112, 113, 114, 115, 116, 117, 118, 119, 120, 121, 122, 123, 124, 125, 126, 127, 128, 129, 130, 131, 132, 133, 134, 135, 136, 137, 138, 139, 140, 141, 142, 143, 144, 145, 146, 147] (by decide +kernel) (by decide +kernel)
set_option maxRecDepth 20000 in
theorem gX10_comes_X10_isRank : GoodIn wsX10_comes (wsV RX10 230 RX10 yX10_isRank wsX10_isRank) := goodIn_app (goodIn_of _ (by decide +kernel)) ggX10_comes_X10_isRank
set_option maxRecDepth 20000 in
theorem ggX10_comes_X10_comesOf : GoodIn wsX10_comes wsX10_comesOf := goodIn_r _ [86, 52, 53, 54, 4, 55, 14, 87, 88, 89, 90, 91, 92, 93, 94, 20, 16, 56, 57, 58, 59, 17, 60, 61, 62, 95, 96, 97, 98, 51, 99, 100, 101, 102, 21, 22, 29, 30, 31, 32, 103, 104, 105, 106, 107, 108, 109, 110, 111, 112, 113, 114, 115, 116, 117, 118, 119, 120, 121, 122, 123, 124, 125, 126, 127, 128, 129, 130, 131, 132, 133, 134, 135, 136, 137, 138, 139, 140, 141, 142, 143, 144, 145, 146, 147] (by decide +kernel) (by decide +kernel)
set_option maxRecDepth 20000 in
theorem gX10_comes_X10_comesOf : GoodIn wsX10_comes (wsV RX10 310 RX10 yX10_comesOf wsX10_comesOf) := goodIn_app (goodIn_of _ (by decide +kernel)) ggX10_comes_X10_comesOf
theorem dX10_comes_0 : decode cX10_comes 0 = .ok (.aload_n 0, 1) := by decide +kernel
theorem dX10_comes_1 : decode cX10_comes 1 = .ok (.iload_n 2, 1) := by decide +kernel
theorem dX10_comes_2 : decode cX10_comes 2 = .ok (.invokevirtual 291, 3) := by decide +kernel
theorem dX10_comes_5 : decode cX10_comes 5 = .ok (.ifCond .eq 21, 3) := by decide +kernel
theorem dX10_comes_8 : decode cX10_comes 8 = .ok (.aload_n 0, 1) := by decide +kernel
theorem dX10_comes_9 : decode cX10_comes 9 = .ok (.iload_n 1, 1) := by decide +kernel
theorem dX10_comes_10 : decode cX10_comes 10 = .ok (.i2l, 1) := by decide +kernel
theorem dX10_comes_11 : decode cX10_comes 11 = .ok (.invokevirtual 230, 3) := by decide +kernel
theorem dX10_comes_14 : decode cX10_comes 14 = .ok (.ifCond .eq 12, 3) := by decide +kernel
theorem dX10_comes_17 : decode cX10_comes 17 = .ok (.aload_n 0, 1) := by decide +kernel
theorem dX10_comes_18 : decode cX10_comes 18 = .ok (.iload_n 1, 1) := by decide +kernel
theorem dX10_comes_19 : decode cX10_comes 19 = .ok (.iload_n 2, 1) := by decide +kernel
theorem dX10_comes_20 : decode cX10_comes 20 = .ok (.invokevirtual 310, 3) := by decide +kernel
theorem dX10_comes_23 : decode cX10_comes 23 = .ok (.goto 5, 3) := by decide +kernel
theorem dX10_comes_26 : decode cX10_comes 26 = .ok (.bipush (-2), 2) := by decide +kernel
theorem dX10_comes_28 : decode cX10_comes 28 = .ok (.ireturn, 1) := by decide +kernel
set_option maxRecDepth 20000 in
theorem ggX10_guestsOf_X10_ranks : GoodIn wsX10_guestsOf wsX10_ranks := goodIn_r _ [5, 6, 40, 41, 42, 43, 44, 45, 46, 47, 48, 49, 50, 51, 52, 53, 54, 55, 56, 57, 58, 59, 60, 61, 62, 63, 64, 65, 66, 67, 68, 69, 70, 71, 72, 73, 74, 75, 76, 77, 78, 79, 80, 81, 82, 83, 84] (by decide +kernel) (by decide +kernel)
set_option maxRecDepth 20000 in
theorem gX10_guestsOf_X10_ranks : GoodIn wsX10_guestsOf (wsV RX10 261 RX10 yX10_ranks wsX10_ranks) := goodIn_app (goodIn_of _ (by decide +kernel)) ggX10_guestsOf_X10_ranks
set_option maxRecDepth 20000 in
theorem ggX10_guestsOf_X10_doesCome : GoodIn wsX10_guestsOf wsX10_doesCome := goodIn_r _ [10, 11, 12, 13, 4, 14, 15, 16, 17, 18, 19, 20, 21, 22, 23, 24, 25, 26, 27, 28, 29, 30, 31, 32, 33, 34, 6, 35, 36, 37, 38, 39, 40, 41, 42, 43, 44, 45, 46, 47, 48, 49, 50, 51, 52, 53, 54, 55, 56, 57, 58, 59, 60, 61, 62, 63, 64, 65, 66, 67, 68, 69, 70, 71, 72, 73, 74, 75, 76, 77, 78, 79, 80, 81, 82, 83, 84] (by decide +kernel) (by decide +kernel)
set_option maxRecDepth 20000 in
theorem gX10_guestsOf_X10_doesCome : GoodIn wsX10_guestsOf (wsV RX10 307 RX10 yX10_doesCome wsX10_doesCome) := goodIn_app (goodIn_of _ (by decide +kernel)) ggX10_guestsOf_X10_doesCome
theorem dX10_guestsOf_0 : decode cX10_guestsOf 0 = .ok (.iconst 0, 1) := by decide +kernel
theorem dX10_guestsOf_1 : decode cX10_guestsOf 1 = .ok (.istore_n 3, 1) := by decide +kernel
theorem dX10_guestsOf_2 : decode cX10_guestsOf 2 = .ok (.iconst 0, 1) := by decide +kernel
theorem dX10_guestsOf_3 : decode cX10_guestsOf 3 = .ok (.istore 4, 2) := by decide +kernel
theorem dX10_guestsOf_5 : decode cX10_guestsOf 5 = .ok (.iload 4, 2) := by decide +kernel
theorem dX10_guestsOf_7 : decode cX10_guestsOf 7 = .ok (.aload_n 0, 1) := by decide +kernel
theorem dX10_guestsOf_8 : decode cX10_guestsOf 8 = .ok (.invokevirtual 261, 3) := by decide +kernel
theorem dX10_guestsOf_11 : decode cX10_guestsOf 11 = .ok (.if_icmp .ge 37, 3) := by decide +kernel
theorem dX10_guestsOf_14 : decode cX10_guestsOf 14 = .ok (.iload_n 3, 1) := by decide +kernel
theorem dX10_guestsOf_15 : decode cX10_guestsOf 15 = .ok (.iload 4, 2) := by decide +kernel
theorem dX10_guestsOf_17 : decode cX10_guestsOf 17 = .ok (.iload_n 1, 1) := by decide +kernel
theorem dX10_guestsOf_18 : decode cX10_guestsOf 18 = .ok (.if_icmp .eq 21, 3) := by decide +kernel
theorem dX10_guestsOf_21 : decode cX10_guestsOf 21 = .ok (.aload_n 0, 1) := by decide +kernel
theorem dX10_guestsOf_22 : decode cX10_guestsOf 22 = .ok (.iload 4, 2) := by decide +kernel
theorem dX10_guestsOf_24 : decode cX10_guestsOf 24 = .ok (.iload_n 1, 1) := by decide +kernel
theorem dX10_guestsOf_25 : decode cX10_guestsOf 25 = .ok (.iload_n 2, 1) := by decide +kernel
theorem dX10_guestsOf_26 : decode cX10_guestsOf 26 = .ok (.invokevirtual 307, 3) := by decide +kernel
theorem dX10_guestsOf_29 : decode cX10_guestsOf 29 = .ok (.ifCond .eq 10, 3) := by decide +kernel
theorem dX10_guestsOf_32 : decode cX10_guestsOf 32 = .ok (.iconst 1, 1) := by decide +kernel
theorem dX10_guestsOf_33 : decode cX10_guestsOf 33 = .ok (.iload 4, 2) := by decide +kernel
theorem dX10_guestsOf_35 : decode cX10_guestsOf 35 = .ok (.ishl, 1) := by decide +kernel
theorem dX10_guestsOf_36 : decode cX10_guestsOf 36 = .ok (.goto 4, 3) := by decide +kernel
theorem dX10_guestsOf_39 : decode cX10_guestsOf 39 = .ok (.iconst 0, 1) := by decide +kernel
theorem dX10_guestsOf_40 : decode cX10_guestsOf 40 = .ok (.ior, 1) := by decide +kernel
theorem dX10_guestsOf_41 : decode cX10_guestsOf 41 = .ok (.istore_n 3, 1) := by decide +kernel
theorem dX10_guestsOf_42 : decode cX10_guestsOf 42 = .ok (.iinc 4 1, 3) := by decide +kernel
theorem dX10_guestsOf_45 : decode cX10_guestsOf 45 = .ok (.goto (-40), 3) := by decide +kernel
theorem dX10_guestsOf_48 : decode cX10_guestsOf 48 = .ok (.iload_n 3, 1) := by decide +kernel
theorem dX10_guestsOf_49 : decode cX10_guestsOf 49 = .ok (.ireturn, 1) := by decide +kernel
set_option maxRecDepth 20000 in
theorem ggX10_guests_X10_asksYear : GoodIn wsX10_guests wsX10_asksYear := goodIn_r _ [5, 6, 7, 8, 4, 9, 10, 11, 12, 13, 14, 15, 16, 17, 18, 19, 20, 21, 22, 23, 24, 25, 26, 27, 28, 29, 30, 31, 32, 33, 34, 35, 36, 37, 38, 39, 40, 41, 42, 43, 44, 45, 46, 47, 48, 49, 50, 51, 52, 53, 54, 55, 56, 57, 58, 59, 60, 61, 62, 63, 64, 65, 66, 67, 68, 69, 70, 71, 72, 73, 74, 75, 76, 77, 78, 103, 104, 105, 106, 107, 108, 109, 110, 111, 112, 113, 114, 115, 116, 117, 118, 119, 120, 121, 122, 123, 124, 125, 126, 127, 128, 129, 130, 131, 132, 133, 134, 135, 136, 137, 138, 139, 140, 141, 142, 143, 144, 145, 146, 147] (by decide +kernel) (by decide +kernel)
set_option maxRecDepth 20000 in
theorem gX10_guests_X10_asksYear : GoodIn wsX10_guests (wsV RX10 291 RX10 yX10_asksYear wsX10_asksYear) := goodIn_app (goodIn_of _ (by decide +kernel)) ggX10_guests_X10_asksYear
set_option maxRecDepth 20000 in
theorem ggX10_guests_X10_isRank : GoodIn wsX10_guests wsX10_isRank := goodIn_r _ [82, 14, 68, 69, 4, 70, 103, 104, 105, 106, 107, 108, 109, 110, 111, 112, 113, 114, 115, 116, 117, 118, 119, 120, 121, 122, 123, 124, 125, 126, 127, 128, 129, 130, 131, 132, 133, 134, 135, 136, 137, 138, 139, 140, 141, 142, 143, 144, 145, 146, 147] (by decide +kernel) (by decide +kernel)
set_option maxRecDepth 20000 in
theorem gX10_guests_X10_isRank : GoodIn wsX10_guests (wsV RX10 230 RX10 yX10_isRank wsX10_isRank) := goodIn_app (goodIn_of _ (by decide +kernel)) ggX10_guests_X10_isRank
set_option maxRecDepth 20000 in
theorem ggX10_guests_X10_guestsOf : GoodIn wsX10_guests wsX10_guestsOf := goodIn_r _ [86, 52, 53, 54, 4, 55, 14, 87, 88, 89, 90, 91, 92, 93, 94, 20, 16, 56, 57, 58, 59, 17, 60, 61, 62, 95, 96, 97, 98, 51, 99, 100, 101, 102, 21, 22, 29, 30, 31, 32, 103, 104, 105, 106, 107, 108, 109, 110, 111, 112, 113, 114, 115, 116, 117, 118, 119, 120, 121, 122, 123, 124, 125, 126, 127, 128, 129, 130, 131, 132, 133, 134, 135, 136, 137, 138, 139, 140, 141, 142, 143, 144, 145, 146, 147] (by decide +kernel) (by decide +kernel)
set_option maxRecDepth 20000 in
theorem gX10_guests_X10_guestsOf : GoodIn wsX10_guests (wsV RX10 313 RX10 yX10_guestsOf wsX10_guestsOf) := goodIn_app (goodIn_of _ (by decide +kernel)) ggX10_guests_X10_guestsOf
theorem dX10_guests_0 : decode cX10_guests 0 = .ok (.aload_n 0, 1) := by decide +kernel
theorem dX10_guests_1 : decode cX10_guests 1 = .ok (.iload_n 2, 1) := by decide +kernel
theorem dX10_guests_2 : decode cX10_guests 2 = .ok (.invokevirtual 291, 3) := by decide +kernel
theorem dX10_guests_5 : decode cX10_guests 5 = .ok (.ifCond .eq 21, 3) := by decide +kernel
theorem dX10_guests_8 : decode cX10_guests 8 = .ok (.aload_n 0, 1) := by decide +kernel
theorem dX10_guests_9 : decode cX10_guests 9 = .ok (.iload_n 1, 1) := by decide +kernel
theorem dX10_guests_10 : decode cX10_guests 10 = .ok (.i2l, 1) := by decide +kernel
theorem dX10_guests_11 : decode cX10_guests 11 = .ok (.invokevirtual 230, 3) := by decide +kernel
theorem dX10_guests_14 : decode cX10_guests 14 = .ok (.ifCond .eq 12, 3) := by decide +kernel
theorem dX10_guests_17 : decode cX10_guests 17 = .ok (.aload_n 0, 1) := by decide +kernel
theorem dX10_guests_18 : decode cX10_guests 18 = .ok (.iload_n 1, 1) := by decide +kernel
theorem dX10_guests_19 : decode cX10_guests 19 = .ok (.iload_n 2, 1) := by decide +kernel
theorem dX10_guests_20 : decode cX10_guests 20 = .ok (.invokevirtual 313, 3) := by decide +kernel
theorem dX10_guests_23 : decode cX10_guests 23 = .ok (.goto 5, 3) := by decide +kernel
theorem dX10_guests_26 : decode cX10_guests 26 = .ok (.bipush (-2), 2) := by decide +kernel
theorem dX10_guests_28 : decode cX10_guests 28 = .ok (.ireturn, 1) := by decide +kernel
set_option maxRecDepth 20000 in
theorem ggX10_areTwo_X10_isRank : GoodIn wsX10_areTwo wsX10_isRank := goodIn_r _ [5, 6, 7, 8, 4, 9, 10, 11, 12, 13, 14, 15, 16, 17, 18, 19, 20, 21, 22, 23, 24, 25, 26, 27, 28, 29, 30, 31, 32, 33, 34, 35, 36, 37, 38, 39, 40, 41, 42, 43, 44, 45, 46, 47, 48, 49, 50, 51, 52, 53, 54] (by decide +kernel) (by decide +kernel)
set_option maxRecDepth 20000 in
theorem gX10_areTwo_X10_isRank : GoodIn wsX10_areTwo (wsV RX10 230 RX10 yX10_isRank wsX10_isRank) := goodIn_app (goodIn_of _ (by decide +kernel)) ggX10_areTwo_X10_isRank
theorem dX10_areTwo_0 : decode cX10_areTwo 0 = .ok (.aload_n 0, 1) := by decide +kernel
theorem dX10_areTwo_1 : decode cX10_areTwo 1 = .ok (.iload_n 1, 1) := by decide +kernel
theorem dX10_areTwo_2 : decode cX10_areTwo 2 = .ok (.i2l, 1) := by decide +kernel
theorem dX10_areTwo_3 : decode cX10_areTwo 3 = .ok (.invokevirtual 230, 3) := by decide +kernel
theorem dX10_areTwo_6 : decode cX10_areTwo 6 = .ok (.ifCond .eq 21, 3) := by decide +kernel
theorem dX10_areTwo_9 : decode cX10_areTwo 9 = .ok (.aload_n 0, 1) := by decide +kernel
theorem dX10_areTwo_10 : decode cX10_areTwo 10 = .ok (.iload_n 2, 1) := by decide +kernel
theorem dX10_areTwo_11 : decode cX10_areTwo 11 = .ok (.i2l, 1) := by decide +kernel
theorem dX10_areTwo_12 : decode cX10_areTwo 12 = .ok (.invokevirtual 230, 3) := by decide +kernel
theorem dX10_areTwo_15 : decode cX10_areTwo 15 = .ok (.ifCond .eq 12, 3) := by decide +kernel
theorem dX10_areTwo_18 : decode cX10_areTwo 18 = .ok (.iload_n 1, 1) := by decide +kernel
theorem dX10_areTwo_19 : decode cX10_areTwo 19 = .ok (.iload_n 2, 1) := by decide +kernel
theorem dX10_areTwo_20 : decode cX10_areTwo 20 = .ok (.if_icmp .eq 7, 3) := by decide +kernel
theorem dX10_areTwo_23 : decode cX10_areTwo 23 = .ok (.iconst 1, 1) := by decide +kernel
theorem dX10_areTwo_24 : decode cX10_areTwo 24 = .ok (.goto 4, 3) := by decide +kernel
theorem dX10_areTwo_27 : decode cX10_areTwo 27 = .ok (.iconst 0, 1) := by decide +kernel
theorem dX10_areTwo_28 : decode cX10_areTwo 28 = .ok (.ireturn, 1) := by decide +kernel
set_option maxRecDepth 20000 in
theorem ggX10_first_X10_asksDukedom : GoodIn wsX10_first wsX10_asksDukedom := goodIn_r _ [5, 6, 7, 8, 4, 9, 10, 11, 12, 13, 14, 15, 16, 17, 18, 19, 20, 21, 22, 23, 24, 25, 26, 27, 28, 29, 30, 31, 32, 33, 34, 35, 36, 37, 38, 39, 40, 41, 42, 43, 44, 45, 46, 47, 48, 49, 50, 51, 52, 53, 54, 55, 56, 57, 58, 59, 60, 61, 62, 63, 64, 65, 66, 67, 68, 69, 70, 95, 96, 97, 98, 99, 100, 101, 102, 103, 104, 105, 106, 107, 108, 109, 110, 111, 112, 113, 114, 115, 116, 117, 118, 119, 120, 121, 122, 123, 124, 125, 126, 127, 128, 129, 130, 131, 132, 133, 134, 135, 136, 137, 138, 139] (by decide +kernel) (by decide +kernel)
set_option maxRecDepth 20000 in
theorem gX10_first_X10_asksDukedom : GoodIn wsX10_first (wsV RX10 285 RX10 yX10_asksDukedom wsX10_asksDukedom) := goodIn_app (goodIn_of _ (by decide +kernel)) ggX10_first_X10_asksDukedom
set_option maxRecDepth 20000 in
theorem ggX10_first_X10_areTwo : GoodIn wsX10_first wsX10_areTwo := goodIn_r _ [74, 75, 76, 77, 4, 78, 10, 64, 65, 66, 95, 96, 97, 98, 99, 100, 101, 102, 103, 104, 105, 106, 107, 108, 109, 110, 111, 112, 113, 114, 115, 116, 117, 118, 119, 120, 121, 122, 123, 124, 125, 126, 127, 128, 129, 130, 131, 132, 133, 134, 135, 136, 137, 138, 139] (by decide +kernel) (by decide +kernel)
set_option maxRecDepth 20000 in
theorem gX10_first_X10_areTwo : GoodIn wsX10_first (wsV RX10 316 RX10 yX10_areTwo wsX10_areTwo) := goodIn_app (goodIn_of _ (by decide +kernel)) ggX10_first_X10_areTwo
set_option maxRecDepth 20000 in
theorem ggX10_first_X10_years : GoodIn wsX10_first wsX10_years := goodIn_r _ [37, 10, 95, 96, 97, 98, 99, 100, 101, 102, 103, 104, 105, 106, 107, 108, 109, 110, 111, 112, 113, 114, 115, 116, 117, 118, 119, 120, 121, 122, 123, 124, 125, 126, 127, 128, 129, 130, 131, 132, 133, 134, 135, 136, 137, 138, 139] (by decide +kernel) (by decide +kernel)
set_option maxRecDepth 20000 in
theorem gX10_first_X10_years : GoodIn wsX10_first (wsV RX10 271 RX10 yX10_years wsX10_years) := goodIn_app (goodIn_of _ (by decide +kernel)) ggX10_first_X10_years
set_option maxRecDepth 20000 in
theorem ggX10_first_X10_doesCome : GoodIn wsX10_first wsX10_doesCome := goodIn_r _ [82, 83, 84, 85, 4, 86, 16, 12, 52, 53, 54, 55, 13, 56, 57, 58, 87, 88, 89, 90, 47, 91, 92, 93, 94, 17, 10, 18, 25, 26, 27, 28, 95, 96, 97, 98, 99, 100, 101, 102, 103, 104, 105, 106, 107, 108, 109, 110, 111, 112, 113, 114, 115, 116, 117, 118, 119, 120, 121, 122, 123, 124, 125, 126, 127, 128, 129, 130, 131, 132, 133, 134, 135, 136, 137, 138, 139] (by decide +kernel) (by decide +kernel)
set_option maxRecDepth 20000 in
theorem gX10_first_X10_doesCome : GoodIn wsX10_first (wsV RX10 307 RX10 yX10_doesCome wsX10_doesCome) := goodIn_app (goodIn_of _ (by decide +kernel)) ggX10_first_X10_doesCome
theorem dX10_first_0 : decode cX10_first 0 = .ok (.aload_n 0, 1) := by decide +kernel
theorem dX10_first_1 : decode cX10_first 1 = .ok (.invokevirtual 285, 3) := by decide +kernel
theorem dX10_first_4 : decode cX10_first 4 = .ok (.pop, 1) := by decide +kernel
theorem dX10_first_5 : decode cX10_first 5 = .ok (.aload_n 0, 1) := by decide +kernel
theorem dX10_first_6 : decode cX10_first 6 = .ok (.iload_n 1, 1) := by decide +kernel
theorem dX10_first_7 : decode cX10_first 7 = .ok (.iload_n 2, 1) := by decide +kernel
theorem dX10_first_8 : decode cX10_first 8 = .ok (.invokevirtual 316, 3) := by decide +kernel
theorem dX10_first_11 : decode cX10_first 11 = .ok (.ifCond .ne 6, 3) := by decide +kernel
theorem dX10_first_14 : decode cX10_first 14 = .ok (.bipush (-2), 2) := by decide +kernel
theorem dX10_first_16 : decode cX10_first 16 = .ok (.ireturn, 1) := by decide +kernel
theorem dX10_first_17 : decode cX10_first 17 = .ok (.iconst 0, 1) := by decide +kernel
theorem dX10_first_18 : decode cX10_first 18 = .ok (.istore_n 3, 1) := by decide +kernel
theorem dX10_first_19 : decode cX10_first 19 = .ok (.iload_n 3, 1) := by decide +kernel
theorem dX10_first_20 : decode cX10_first 20 = .ok (.aload_n 0, 1) := by decide +kernel
theorem dX10_first_21 : decode cX10_first 21 = .ok (.invokevirtual 271, 3) := by decide +kernel
theorem dX10_first_24 : decode cX10_first 24 = .ok (.if_icmp .ge 21, 3) := by decide +kernel
theorem dX10_first_27 : decode cX10_first 27 = .ok (.aload_n 0, 1) := by decide +kernel
theorem dX10_first_28 : decode cX10_first 28 = .ok (.iload_n 1, 1) := by decide +kernel
theorem dX10_first_29 : decode cX10_first 29 = .ok (.iload_n 2, 1) := by decide +kernel
theorem dX10_first_30 : decode cX10_first 30 = .ok (.iload_n 3, 1) := by decide +kernel
theorem dX10_first_31 : decode cX10_first 31 = .ok (.invokevirtual 307, 3) := by decide +kernel
theorem dX10_first_34 : decode cX10_first 34 = .ok (.ifCond .eq 5, 3) := by decide +kernel
theorem dX10_first_37 : decode cX10_first 37 = .ok (.iload_n 3, 1) := by decide +kernel
theorem dX10_first_38 : decode cX10_first 38 = .ok (.ireturn, 1) := by decide +kernel
theorem dX10_first_39 : decode cX10_first 39 = .ok (.iinc 3 1, 3) := by decide +kernel
theorem dX10_first_42 : decode cX10_first 42 = .ok (.goto (-23), 3) := by decide +kernel
theorem dX10_first_45 : decode cX10_first 45 = .ok (.iconst (-1), 1) := by decide +kernel
theorem dX10_first_46 : decode cX10_first 46 = .ok (.ireturn, 1) := by decide +kernel
set_option maxRecDepth 20000 in
theorem ggX10_often_X10_asksDukedom : GoodIn wsX10_often wsX10_asksDukedom := goodIn_r _ [5, 6, 7, 8, 4, 9, 10, 11, 12, 13, 14, 15, 16, 17, 18, 19, 20, 21, 22, 23, 24, 25, 26, 27, 28, 29, 30, 31, 32, 33, 34, 35, 36, 37, 38, 39, 40, 41, 42, 43, 44, 45, 46, 47, 48, 49, 50, 51, 52, 53, 54, 55, 56, 57, 58, 59, 60, 61, 62, 63, 64, 65, 66, 67, 68, 69, 70, 95, 96, 97, 98, 99, 100, 101, 102, 103, 104, 105, 106, 107, 108, 109, 110, 111, 112, 113, 114, 115, 116, 117, 118, 119, 120, 121, 122, 123, 124, 125, 126, 127, 128, 129, 130, 131, 132, 133, 134, 135, 136, 137, 138, 139] (by decide +kernel) (by decide +kernel)
set_option maxRecDepth 20000 in
theorem gX10_often_X10_asksDukedom : GoodIn wsX10_often (wsV RX10 285 RX10 yX10_asksDukedom wsX10_asksDukedom) := goodIn_app (goodIn_of _ (by decide +kernel)) ggX10_often_X10_asksDukedom
set_option maxRecDepth 20000 in
theorem ggX10_often_X10_areTwo : GoodIn wsX10_often wsX10_areTwo := goodIn_r _ [74, 75, 76, 77, 4, 78, 10, 64, 65, 66, 95, 96, 97, 98, 99, 100, 101, 102, 103, 104, 105, 106, 107, 108, 109, 110, 111, 112, 113, 114, 115, 116, 117, 118, 119, 120, 121, 122, 123, 124, 125, 126, 127, 128, 129, 130, 131, 132, 133, 134, 135, 136, 137, 138, 139] (by decide +kernel) (by decide +kernel)
set_option maxRecDepth 20000 in
theorem gX10_often_X10_areTwo : GoodIn wsX10_often (wsV RX10 316 RX10 yX10_areTwo wsX10_areTwo) := goodIn_app (goodIn_of _ (by decide +kernel)) ggX10_often_X10_areTwo
set_option maxRecDepth 20000 in
theorem ggX10_often_X10_years : GoodIn wsX10_often wsX10_years := goodIn_r _ [37, 10, 95, 96, 97, 98, 99, 100, 101, 102, 103, 104, 105, 106, 107, 108, 109, 110, 111, 112, 113, 114, 115, 116, 117, 118, 119, 120, 121, 122, 123, 124, 125, 126, 127, 128, 129, 130, 131, 132, 133, 134, 135, 136, 137, 138, 139] (by decide +kernel) (by decide +kernel)
set_option maxRecDepth 20000 in
theorem gX10_often_X10_years : GoodIn wsX10_often (wsV RX10 271 RX10 yX10_years wsX10_years) := goodIn_app (goodIn_of _ (by decide +kernel)) ggX10_often_X10_years
set_option maxRecDepth 20000 in
theorem ggX10_often_X10_doesCome : GoodIn wsX10_often wsX10_doesCome := goodIn_r _ [82, 83, 84, 85, 4, 86, 16, 12, 52, 53, 54, 55, 13, 56, 57, 58, 87, 88, 89, 90, 47, 91, 92, 93, 94, 17, 10, 18, 25, 26, 27, 28, 95, 96, 97, 98, 99, 100, 101, 102, 103, 104, 105, 106, 107, 108, 109, 110, 111, 112, 113, 114, 115, 116, 117, 118, 119, 120, 121, 122, 123, 124, 125, 126, 127, 128, 129, 130, 131, 132, 133, 134, 135, 136, 137, 138, 139] (by decide +kernel) (by decide +kernel)
set_option maxRecDepth 20000 in
theorem gX10_often_X10_doesCome : GoodIn wsX10_often (wsV RX10 307 RX10 yX10_doesCome wsX10_doesCome) := goodIn_app (goodIn_of _ (by decide +kernel)) ggX10_often_X10_doesCome
theorem dX10_often_0 : decode cX10_often 0 = .ok (.aload_n 0, 1) := by decide +kernel
theorem dX10_often_1 : decode cX10_often 1 = .ok (.invokevirtual 285, 3) := by decide +kernel
theorem dX10_often_4 : decode cX10_often 4 = .ok (.pop, 1) := by decide +kernel
theorem dX10_often_5 : decode cX10_often 5 = .ok (.aload_n 0, 1) := by decide +kernel
theorem dX10_often_6 : decode cX10_often 6 = .ok (.iload_n 1, 1) := by decide +kernel
theorem dX10_often_7 : decode cX10_often 7 = .ok (.iload_n 2, 1) := by decide +kernel
theorem dX10_often_8 : decode cX10_often 8 = .ok (.invokevirtual 316, 3) := by decide +kernel
theorem dX10_often_11 : decode cX10_often 11 = .ok (.ifCond .ne 6, 3) := by decide +kernel
theorem dX10_often_14 : decode cX10_often 14 = .ok (.bipush (-2), 2) := by decide +kernel
theorem dX10_often_16 : decode cX10_often 16 = .ok (.ireturn, 1) := by decide +kernel
theorem dX10_often_17 : decode cX10_often 17 = .ok (.iconst 0, 1) := by decide +kernel
theorem dX10_often_18 : decode cX10_often 18 = .ok (.istore_n 3, 1) := by decide +kernel
theorem dX10_often_19 : decode cX10_often 19 = .ok (.iconst 0, 1) := by decide +kernel
theorem dX10_often_20 : decode cX10_often 20 = .ok (.istore 4, 2) := by decide +kernel
theorem dX10_often_22 : decode cX10_often 22 = .ok (.iload 4, 2) := by decide +kernel
theorem dX10_often_24 : decode cX10_often 24 = .ok (.aload_n 0, 1) := by decide +kernel
theorem dX10_often_25 : decode cX10_often 25 = .ok (.invokevirtual 271, 3) := by decide +kernel
theorem dX10_often_28 : decode cX10_often 28 = .ok (.if_icmp .ge 28, 3) := by decide +kernel
theorem dX10_often_31 : decode cX10_often 31 = .ok (.iload_n 3, 1) := by decide +kernel
theorem dX10_often_32 : decode cX10_often 32 = .ok (.aload_n 0, 1) := by decide +kernel
theorem dX10_often_33 : decode cX10_often 33 = .ok (.iload_n 1, 1) := by decide +kernel
theorem dX10_often_34 : decode cX10_often 34 = .ok (.iload_n 2, 1) := by decide +kernel
theorem dX10_often_35 : decode cX10_often 35 = .ok (.iload 4, 2) := by decide +kernel
theorem dX10_often_37 : decode cX10_often 37 = .ok (.invokevirtual 307, 3) := by decide +kernel
theorem dX10_often_40 : decode cX10_often 40 = .ok (.ifCond .eq 7, 3) := by decide +kernel
theorem dX10_often_43 : decode cX10_often 43 = .ok (.iconst 1, 1) := by decide +kernel
theorem dX10_often_44 : decode cX10_often 44 = .ok (.goto 4, 3) := by decide +kernel
theorem dX10_often_47 : decode cX10_often 47 = .ok (.iconst 0, 1) := by decide +kernel
theorem dX10_often_48 : decode cX10_often 48 = .ok (.iadd, 1) := by decide +kernel
theorem dX10_often_49 : decode cX10_often 49 = .ok (.istore_n 3, 1) := by decide +kernel
theorem dX10_often_50 : decode cX10_often 50 = .ok (.iinc 4 1, 3) := by decide +kernel
theorem dX10_often_53 : decode cX10_often 53 = .ok (.goto (-31), 3) := by decide +kernel
theorem dX10_often_56 : decode cX10_often 56 = .ok (.iload_n 3, 1) := by decide +kernel
theorem dX10_often_57 : decode cX10_often 57 = .ok (.ireturn, 1) := by decide +kernel
set_option maxRecDepth 20000 in
theorem ggX10_newsOf_X10_bit : GoodIn wsX10_newsOf wsX10_bit := goodIn_r _ [5] (by decide +kernel) (by decide +kernel)
set_option maxRecDepth 20000 in
theorem gX10_newsOf_X10_bit : GoodIn wsX10_newsOf (va_wsS RX10 258 yX10_bit wsX10_bit) := goodIn_app (goodIn_of _ (by decide +kernel)) ggX10_newsOf_X10_bit
set_option maxRecDepth 20000 in
theorem ggX10_newsOf_X10_ranks : GoodIn wsX10_newsOf wsX10_ranks := goodIn_r _ [9, 10, 45, 46, 47, 48, 49, 50, 51, 52, 53, 54, 55, 56, 57, 58, 59, 60, 61, 62, 63, 64, 65, 66, 67, 68, 69, 70, 71, 72, 73, 74, 75, 76, 77, 78, 79, 80, 81, 82, 83, 84, 85, 86, 87, 88, 89] (by decide +kernel) (by decide +kernel)
set_option maxRecDepth 20000 in
theorem gX10_newsOf_X10_ranks : GoodIn wsX10_newsOf (wsV RX10 261 RX10 yX10_ranks wsX10_ranks) := goodIn_app (goodIn_of _ (by decide +kernel)) ggX10_newsOf_X10_ranks
set_option maxRecDepth 20000 in
theorem ggX10_newsOf_X10_comesOf : GoodIn wsX10_newsOf wsX10_comesOf := goodIn_r _ [14, 6, 7, 8, 4, 9, 10, 15, 16, 17, 18, 19, 20, 21, 22, 23, 24, 25, 26, 27, 28, 29, 2, 3, 5, 30, 31, 32, 33, 34, 35, 36, 37, 38, 39, 40, 41, 42, 43, 44, 45, 46, 47, 48, 49, 50, 51, 52, 53, 54, 55, 56, 57, 58, 59, 60, 61, 62, 63, 64, 65, 66, 67, 68, 69, 70, 71, 72, 73, 74, 75, 76, 77, 78, 79, 80, 81, 82, 83, 84, 85, 86, 87, 88, 89] (by decide +kernel) (by decide +kernel)
set_option maxRecDepth 20000 in
theorem gX10_newsOf_X10_comesOf : GoodIn wsX10_newsOf (wsV RX10 310 RX10 yX10_comesOf wsX10_comesOf) := goodIn_app (goodIn_of _ (by decide +kernel)) ggX10_newsOf_X10_comesOf
theorem dX10_newsOf_0 : decode cX10_newsOf 0 = .ok (.iconst 1, 1) := by decide +kernel
theorem dX10_newsOf_1 : decode cX10_newsOf 1 = .ok (.iload_n 1, 1) := by decide +kernel
theorem dX10_newsOf_2 : decode cX10_newsOf 2 = .ok (.ishl, 1) := by decide +kernel
theorem dX10_newsOf_3 : decode cX10_newsOf 3 = .ok (.istore 4, 2) := by decide +kernel
theorem dX10_newsOf_5 : decode cX10_newsOf 5 = .ok (.iconst 0, 1) := by decide +kernel
theorem dX10_newsOf_6 : decode cX10_newsOf 6 = .ok (.istore 5, 2) := by decide +kernel
theorem dX10_newsOf_8 : decode cX10_newsOf 8 = .ok (.iload 5, 2) := by decide +kernel
theorem dX10_newsOf_10 : decode cX10_newsOf 10 = .ok (.bipush 6, 2) := by decide +kernel
theorem dX10_newsOf_12 : decode cX10_newsOf 12 = .ok (.if_icmp .ge 71, 3) := by decide +kernel
theorem dX10_newsOf_15 : decode cX10_newsOf 15 = .ok (.iload 4, 2) := by decide +kernel
theorem dX10_newsOf_17 : decode cX10_newsOf 17 = .ok (.iload_n 2, 1) := by decide +kernel
theorem dX10_newsOf_18 : decode cX10_newsOf 18 = .ok (.invokestatic 258, 3) := by decide +kernel
theorem dX10_newsOf_21 : decode cX10_newsOf 21 = .ok (.iconst 1, 1) := by decide +kernel
theorem dX10_newsOf_22 : decode cX10_newsOf 22 = .ok (.if_icmp .ne 6, 3) := by decide +kernel
theorem dX10_newsOf_25 : decode cX10_newsOf 25 = .ok (.iload 5, 2) := by decide +kernel
theorem dX10_newsOf_27 : decode cX10_newsOf 27 = .ok (.ireturn, 1) := by decide +kernel
theorem dX10_newsOf_28 : decode cX10_newsOf 28 = .ok (.iload 4, 2) := by decide +kernel
theorem dX10_newsOf_30 : decode cX10_newsOf 30 = .ok (.istore 6, 2) := by decide +kernel
theorem dX10_newsOf_32 : decode cX10_newsOf 32 = .ok (.iconst 0, 1) := by decide +kernel
theorem dX10_newsOf_33 : decode cX10_newsOf 33 = .ok (.istore 7, 2) := by decide +kernel
theorem dX10_newsOf_35 : decode cX10_newsOf 35 = .ok (.iload 7, 2) := by decide +kernel
theorem dX10_newsOf_37 : decode cX10_newsOf 37 = .ok (.aload_n 0, 1) := by decide +kernel
theorem dX10_newsOf_38 : decode cX10_newsOf 38 = .ok (.invokevirtual 261, 3) := by decide +kernel
theorem dX10_newsOf_41 : decode cX10_newsOf 41 = .ok (.if_icmp .ge 32, 3) := by decide +kernel
theorem dX10_newsOf_44 : decode cX10_newsOf 44 = .ok (.iload 4, 2) := by decide +kernel
theorem dX10_newsOf_46 : decode cX10_newsOf 46 = .ok (.iload 7, 2) := by decide +kernel
theorem dX10_newsOf_48 : decode cX10_newsOf 48 = .ok (.invokestatic 258, 3) := by decide +kernel
theorem dX10_newsOf_51 : decode cX10_newsOf 51 = .ok (.iconst 1, 1) := by decide +kernel
theorem dX10_newsOf_52 : decode cX10_newsOf 52 = .ok (.if_icmp .ne 15, 3) := by decide +kernel
theorem dX10_newsOf_55 : decode cX10_newsOf 55 = .ok (.iload 6, 2) := by decide +kernel
theorem dX10_newsOf_57 : decode cX10_newsOf 57 = .ok (.aload_n 0, 1) := by decide +kernel
theorem dX10_newsOf_58 : decode cX10_newsOf 58 = .ok (.iload 7, 2) := by decide +kernel
theorem dX10_newsOf_60 : decode cX10_newsOf 60 = .ok (.iload_n 3, 1) := by decide +kernel
theorem dX10_newsOf_61 : decode cX10_newsOf 61 = .ok (.invokevirtual 310, 3) := by decide +kernel
theorem dX10_newsOf_64 : decode cX10_newsOf 64 = .ok (.ior, 1) := by decide +kernel
theorem dX10_newsOf_65 : decode cX10_newsOf 65 = .ok (.istore 6, 2) := by decide +kernel
theorem dX10_newsOf_67 : decode cX10_newsOf 67 = .ok (.iinc 7 1, 3) := by decide +kernel
theorem dX10_newsOf_70 : decode cX10_newsOf 70 = .ok (.goto (-35), 3) := by decide +kernel
theorem dX10_newsOf_73 : decode cX10_newsOf 73 = .ok (.iload 6, 2) := by decide +kernel
theorem dX10_newsOf_75 : decode cX10_newsOf 75 = .ok (.istore 4, 2) := by decide +kernel
theorem dX10_newsOf_77 : decode cX10_newsOf 77 = .ok (.iinc 5 1, 3) := by decide +kernel
theorem dX10_newsOf_80 : decode cX10_newsOf 80 = .ok (.goto (-72), 3) := by decide +kernel
theorem dX10_newsOf_83 : decode cX10_newsOf 83 = .ok (.ldc_w 320, 3) := by decide +kernel
theorem dX10_newsOf_86 : decode cX10_newsOf 86 = .ok (.ireturn, 1) := by decide +kernel
theorem dX10_orNone_0 : decode cX10_orNone 0 = .ok (.iload_n 0, 1) := by decide +kernel
theorem dX10_orNone_1 : decode cX10_orNone 1 = .ok (.ldc_w 320, 3) := by decide +kernel
theorem dX10_orNone_4 : decode cX10_orNone 4 = .ok (.if_icmp .lt 7, 3) := by decide +kernel
theorem dX10_orNone_7 : decode cX10_orNone 7 = .ok (.iconst (-1), 1) := by decide +kernel
theorem dX10_orNone_8 : decode cX10_orNone 8 = .ok (.goto 4, 3) := by decide +kernel
theorem dX10_orNone_11 : decode cX10_orNone 11 = .ok (.iload_n 0, 1) := by decide +kernel
theorem dX10_orNone_12 : decode cX10_orNone 12 = .ok (.ireturn, 1) := by decide +kernel
set_option maxRecDepth 20000 in
theorem ggX10_news_X10_asksYear : GoodIn wsX10_news wsX10_asksYear := goodIn_r _ [5, 6, 7, 8, 4, 9, 10, 11, 12, 13, 14, 15, 16, 17, 18, 19, 20, 21, 22, 23, 24, 25, 26, 27, 28, 29, 30, 31, 32, 33, 34, 35, 36, 37, 38, 39, 40, 41, 42, 43, 44, 45, 46, 47, 48, 49, 50, 51, 52, 53, 54, 55, 56, 57, 58, 59, 60, 61, 62, 63, 64, 65, 66, 67, 68, 69, 70, 71, 72, 73, 74, 75, 76, 77, 78, 111, 112, 113, 114, 115, 116, 117, 118, 119, 120, 121, 122, 123, 124, 125, 126, 127, 128, 129, 130, 131, 132, 133, 134, 135, 136, 137, 138, 139, 140, 141, 142, 143, 144, 145, 146, 147, 148, 149, 150, 151, 152, 153, 154, 155] (by decide +kernel) (by decide +kernel)
set_option maxRecDepth 20000 in
theorem gX10_news_X10_asksYear : GoodIn wsX10_news (wsV RX10 291 RX10 yX10_asksYear wsX10_asksYear) := goodIn_app (goodIn_of _ (by decide +kernel)) ggX10_news_X10_asksYear
set_option maxRecDepth 20000 in
theorem ggX10_news_X10_isRank : GoodIn wsX10_news wsX10_isRank := goodIn_r _ [82, 14, 68, 69, 4, 70, 111, 112, 113, 114, 115, 116, 117, 118, 119, 120, 121, 122, 123, 124, 125, 126, 127, 128, 129, 130, 131, 132, 133, 134, 135, 136, 137, 138, 139, 140, 141, 142, 143, 144, 145, 146, 147, 148, 149, 150, 151, 152, 153, 154, 155] (by decide +kernel) (by decide +kernel)
set_option maxRecDepth 20000 in
theorem gX10_news_X10_isRank : GoodIn wsX10_news (wsV RX10 230 RX10 yX10_isRank wsX10_isRank) := goodIn_app (goodIn_of _ (by decide +kernel)) ggX10_news_X10_isRank
set_option maxRecDepth 20000 in
theorem ggX10_news_X10_newsOf : GoodIn wsX10_news wsX10_newsOf := goodIn_r _ [86, 87, 60, 61, 4, 62, 52, 53, 54, 55, 14, 88, 89, 90, 91, 92, 93, 94, 95, 96, 97, 98, 99, 20, 16, 56, 57, 58, 59, 17, 100, 101, 102, 103, 51, 104, 105, 106, 107, 21, 22, 29, 30, 31, 32, 111, 112, 113, 114, 115, 116, 117, 118, 119, 120, 121, 122, 123, 124, 125, 126, 127, 128, 129, 130, 131, 132, 133, 134, 135, 136, 137, 138, 139, 140, 141, 142, 143, 144, 145, 146, 147, 148, 149, 150, 151, 152, 153, 154, 155] (by decide +kernel) (by decide +kernel)
set_option maxRecDepth 20000 in
theorem gX10_news_X10_newsOf : GoodIn wsX10_news (wsV RX10 321 RX10 yX10_newsOf wsX10_newsOf) := goodIn_app (goodIn_of _ (by decide +kernel)) ggX10_news_X10_newsOf
set_option maxRecDepth 20000 in
theorem ggX10_news_X10_orNone : GoodIn wsX10_news wsX10_orNone := goodIn_r _ [110, 87] (by decide +kernel) (by decide +kernel)
set_option maxRecDepth 20000 in
theorem gX10_news_X10_orNone : GoodIn wsX10_news (va_wsS RX10 325 yX10_orNone wsX10_orNone) := goodIn_app (goodIn_of _ (by decide +kernel)) ggX10_news_X10_orNone
theorem dX10_news_0 : decode cX10_news 0 = .ok (.aload_n 0, 1) := by decide +kernel
theorem dX10_news_1 : decode cX10_news 1 = .ok (.iload_n 3, 1) := by decide +kernel
theorem dX10_news_2 : decode cX10_news 2 = .ok (.invokevirtual 291, 3) := by decide +kernel
theorem dX10_news_5 : decode cX10_news 5 = .ok (.ifCond .eq 34, 3) := by decide +kernel
theorem dX10_news_8 : decode cX10_news 8 = .ok (.aload_n 0, 1) := by decide +kernel
theorem dX10_news_9 : decode cX10_news 9 = .ok (.iload_n 1, 1) := by decide +kernel
theorem dX10_news_10 : decode cX10_news 10 = .ok (.i2l, 1) := by decide +kernel
theorem dX10_news_11 : decode cX10_news 11 = .ok (.invokevirtual 230, 3) := by decide +kernel
theorem dX10_news_14 : decode cX10_news 14 = .ok (.ifCond .eq 25, 3) := by decide +kernel
theorem dX10_news_17 : decode cX10_news 17 = .ok (.aload_n 0, 1) := by decide +kernel
theorem dX10_news_18 : decode cX10_news 18 = .ok (.iload_n 2, 1) := by decide +kernel
theorem dX10_news_19 : decode cX10_news 19 = .ok (.i2l, 1) := by decide +kernel
theorem dX10_news_20 : decode cX10_news 20 = .ok (.invokevirtual 230, 3) := by decide +kernel
theorem dX10_news_23 : decode cX10_news 23 = .ok (.ifCond .eq 16, 3) := by decide +kernel
theorem dX10_news_26 : decode cX10_news 26 = .ok (.aload_n 0, 1) := by decide +kernel
theorem dX10_news_27 : decode cX10_news 27 = .ok (.iload_n 1, 1) := by decide +kernel
theorem dX10_news_28 : decode cX10_news 28 = .ok (.iload_n 2, 1) := by decide +kernel
theorem dX10_news_29 : decode cX10_news 29 = .ok (.iload_n 3, 1) := by decide +kernel
theorem dX10_news_30 : decode cX10_news 30 = .ok (.invokevirtual 321, 3) := by decide +kernel
theorem dX10_news_33 : decode cX10_news 33 = .ok (.invokestatic 325, 3) := by decide +kernel
theorem dX10_news_36 : decode cX10_news 36 = .ok (.goto 5, 3) := by decide +kernel
theorem dX10_news_39 : decode cX10_news 39 = .ok (.bipush (-2), 2) := by decide +kernel
theorem dX10_news_41 : decode cX10_news 41 = .ok (.ireturn, 1) := by decide +kernel
set_option maxRecDepth 20000 in
theorem ggX10_widest_X10_asksYear : GoodIn wsX10_widest wsX10_asksYear := goodIn_r _ [10, 11, 12, 13, 9, 14, 15, 16, 17, 18, 19, 20, 21, 22, 23, 24, 25, 26, 27, 28, 29, 2, 3, 4, 5, 30, 31, 32, 33, 34, 35, 36, 37, 38, 39, 40, 41, 42, 43, 44, 45, 46, 47, 48, 49, 50, 51, 52, 53, 54, 55, 56, 57, 58, 59, 60, 61, 62, 63, 64, 65, 66, 67, 68, 69, 70, 71, 72, 73, 74, 75, 76, 77, 78, 79, 104, 105, 106, 107, 108, 109, 110, 111, 112, 113, 114, 115, 116, 117, 118, 119, 120, 121, 122, 123, 124, 125, 126, 127, 128, 129, 130, 131, 132, 133, 134, 135, 136, 137, 138, 139, 140, 141, 142, 143, 144, 145, 146, 147, 148] (by decide +kernel) (by decide +kernel)
set_option maxRecDepth 20000 in
theorem gX10_widest_X10_asksYear : GoodIn wsX10_widest (wsV RX10 291 RX10 yX10_asksYear wsX10_asksYear) := goodIn_app (goodIn_of _ (by decide +kernel)) ggX10_widest_X10_asksYear
set_option maxRecDepth 20000 in
theorem ggX10_widest_X10_ranks : GoodIn wsX10_widest wsX10_ranks := goodIn_r _ [56, 19, 104, 105, 106, 107, 108, 109, 110, 111, 112, 113, 114, 115, 116, 117, 118, 119, 120, 121, 122, 123, 124, 125, 126, 127, 128, 129, 130, 131, 132, 133, 134, 135, 136, 137, 138, 139, 140, 141, 142, 143, 144, 145, 146, 147, 148] (by decide +kernel) (by decide +kernel)
set_option maxRecDepth 20000 in
theorem gX10_widest_X10_ranks : GoodIn wsX10_widest (wsV RX10 261 RX10 yX10_ranks wsX10_ranks) := goodIn_app (goodIn_of _ (by decide +kernel)) ggX10_widest_X10_ranks
set_option maxRecDepth 20000 in
theorem ggX10_widest_X10_newsOf : GoodIn wsX10_widest wsX10_newsOf := goodIn_r _ [83, 1, 61, 62, 9, 63, 53, 54, 55, 56, 19, 84, 85, 86, 87, 88, 89, 90, 91, 92, 93, 94, 95, 25, 21, 57, 58, 59, 60, 22, 96, 97, 98, 99, 52, 100, 101, 102, 103, 26, 27, 30, 31, 32, 33, 104, 105, 106, 107, 108, 109, 110, 111, 112, 113, 114, 115, 116, 117, 118, 119, 120, 121, 122, 123, 124, 125, 126, 127, 128, 129, 130, 131, 132, 133, 134, 135, 136, 137, 138, 139, 140, 141, 142, 143, 144, 145, 146, 147, 148] (by decide +kernel) (by decide +kernel)
set_option maxRecDepth 20000 in
theorem gX10_widest_X10_newsOf : GoodIn wsX10_widest (wsV RX10 321 RX10 yX10_newsOf wsX10_newsOf) := goodIn_app (goodIn_of _ (by decide +kernel)) ggX10_widest_X10_newsOf
theorem dX10_widest_0 : decode cX10_widest 0 = .ok (.aload_n 0, 1) := by decide +kernel
theorem dX10_widest_1 : decode cX10_widest 1 = .ok (.iload_n 1, 1) := by decide +kernel
theorem dX10_widest_2 : decode cX10_widest 2 = .ok (.invokevirtual 291, 3) := by decide +kernel
theorem dX10_widest_5 : decode cX10_widest 5 = .ok (.ifCond .ne 6, 3) := by decide +kernel
theorem dX10_widest_8 : decode cX10_widest 8 = .ok (.bipush (-2), 2) := by decide +kernel
theorem dX10_widest_10 : decode cX10_widest 10 = .ok (.ireturn, 1) := by decide +kernel
theorem dX10_widest_11 : decode cX10_widest 11 = .ok (.iconst 0, 1) := by decide +kernel
theorem dX10_widest_12 : decode cX10_widest 12 = .ok (.istore_n 2, 1) := by decide +kernel
theorem dX10_widest_13 : decode cX10_widest 13 = .ok (.iconst 0, 1) := by decide +kernel
theorem dX10_widest_14 : decode cX10_widest 14 = .ok (.istore_n 3, 1) := by decide +kernel
theorem dX10_widest_15 : decode cX10_widest 15 = .ok (.iload_n 3, 1) := by decide +kernel
theorem dX10_widest_16 : decode cX10_widest 16 = .ok (.aload_n 0, 1) := by decide +kernel
theorem dX10_widest_17 : decode cX10_widest 17 = .ok (.invokevirtual 261, 3) := by decide +kernel
theorem dX10_widest_20 : decode cX10_widest 20 = .ok (.if_icmp .ge 54, 3) := by decide +kernel
theorem dX10_widest_23 : decode cX10_widest 23 = .ok (.iconst 0, 1) := by decide +kernel
theorem dX10_widest_24 : decode cX10_widest 24 = .ok (.istore 4, 2) := by decide +kernel
theorem dX10_widest_26 : decode cX10_widest 26 = .ok (.iload 4, 2) := by decide +kernel
theorem dX10_widest_28 : decode cX10_widest 28 = .ok (.aload_n 0, 1) := by decide +kernel
theorem dX10_widest_29 : decode cX10_widest 29 = .ok (.invokevirtual 261, 3) := by decide +kernel
theorem dX10_widest_32 : decode cX10_widest 32 = .ok (.if_icmp .ge 36, 3) := by decide +kernel
theorem dX10_widest_35 : decode cX10_widest 35 = .ok (.aload_n 0, 1) := by decide +kernel
theorem dX10_widest_36 : decode cX10_widest 36 = .ok (.iload_n 3, 1) := by decide +kernel
theorem dX10_widest_37 : decode cX10_widest 37 = .ok (.iload 4, 2) := by decide +kernel
theorem dX10_widest_39 : decode cX10_widest 39 = .ok (.iload_n 1, 1) := by decide +kernel
theorem dX10_widest_40 : decode cX10_widest 40 = .ok (.invokevirtual 321, 3) := by decide +kernel
theorem dX10_widest_43 : decode cX10_widest 43 = .ok (.ldc_w 320, 3) := by decide +kernel
theorem dX10_widest_46 : decode cX10_widest 46 = .ok (.if_icmp .ge 16, 3) := by decide +kernel
theorem dX10_widest_49 : decode cX10_widest 49 = .ok (.iload_n 2, 1) := by decide +kernel
theorem dX10_widest_50 : decode cX10_widest 50 = .ok (.aload_n 0, 1) := by decide +kernel
theorem dX10_widest_51 : decode cX10_widest 51 = .ok (.iload_n 3, 1) := by decide +kernel
theorem dX10_widest_52 : decode cX10_widest 52 = .ok (.iload 4, 2) := by decide +kernel
theorem dX10_widest_54 : decode cX10_widest 54 = .ok (.iload_n 1, 1) := by decide +kernel
theorem dX10_widest_55 : decode cX10_widest 55 = .ok (.invokevirtual 321, 3) := by decide +kernel
theorem dX10_widest_58 : decode cX10_widest 58 = .ok (.invokestatic 255, 3) := by decide +kernel
theorem dX10_widest_61 : decode cX10_widest 61 = .ok (.istore_n 2, 1) := by decide +kernel
theorem dX10_widest_62 : decode cX10_widest 62 = .ok (.iinc 4 1, 3) := by decide +kernel
theorem dX10_widest_65 : decode cX10_widest 65 = .ok (.goto (-39), 3) := by decide +kernel
theorem dX10_widest_68 : decode cX10_widest 68 = .ok (.iinc 3 1, 3) := by decide +kernel
theorem dX10_widest_71 : decode cX10_widest 71 = .ok (.goto (-56), 3) := by decide +kernel
theorem dX10_widest_74 : decode cX10_widest 74 = .ok (.iload_n 2, 1) := by decide +kernel
theorem dX10_widest_75 : decode cX10_widest 75 = .ok (.ireturn, 1) := by decide +kernel
set_option maxRecDepth 20000 in
theorem ggX10_friendsOf_X10_ranks : GoodIn wsX10_friendsOf wsX10_ranks := goodIn_r _ [5, 6, 40, 41, 42, 43, 44, 45, 46, 47, 48, 49, 50, 51, 52, 53, 54, 55, 56, 57, 58, 59, 60, 61, 62, 63, 64, 65, 66, 67, 68, 69, 70, 71, 72, 73, 74, 75, 76, 77, 78, 79, 80, 81, 82, 83, 84] (by decide +kernel) (by decide +kernel)
set_option maxRecDepth 20000 in
theorem gX10_friendsOf_X10_ranks : GoodIn wsX10_friendsOf (wsV RX10 261 RX10 yX10_ranks wsX10_ranks) := goodIn_app (goodIn_of _ (by decide +kernel)) ggX10_friendsOf_X10_ranks
set_option maxRecDepth 20000 in
theorem ggX10_friendsOf_X10_doesCome : GoodIn wsX10_friendsOf wsX10_doesCome := goodIn_r _ [10, 11, 12, 13, 4, 14, 15, 16, 17, 18, 19, 20, 21, 22, 23, 24, 25, 26, 27, 28, 29, 30, 31, 32, 33, 34, 6, 35, 36, 37, 38, 39, 40, 41, 42, 43, 44, 45, 46, 47, 48, 49, 50, 51, 52, 53, 54, 55, 56, 57, 58, 59, 60, 61, 62, 63, 64, 65, 66, 67, 68, 69, 70, 71, 72, 73, 74, 75, 76, 77, 78, 79, 80, 81, 82, 83, 84] (by decide +kernel) (by decide +kernel)
set_option maxRecDepth 20000 in
theorem gX10_friendsOf_X10_doesCome : GoodIn wsX10_friendsOf (wsV RX10 307 RX10 yX10_doesCome wsX10_doesCome) := goodIn_app (goodIn_of _ (by decide +kernel)) ggX10_friendsOf_X10_doesCome
theorem dX10_friendsOf_0 : decode cX10_friendsOf 0 = .ok (.iconst 0, 1) := by decide +kernel
theorem dX10_friendsOf_1 : decode cX10_friendsOf 1 = .ok (.istore_n 2, 1) := by decide +kernel
theorem dX10_friendsOf_2 : decode cX10_friendsOf 2 = .ok (.iconst 0, 1) := by decide +kernel
theorem dX10_friendsOf_3 : decode cX10_friendsOf 3 = .ok (.istore_n 3, 1) := by decide +kernel
theorem dX10_friendsOf_4 : decode cX10_friendsOf 4 = .ok (.iload_n 3, 1) := by decide +kernel
theorem dX10_friendsOf_5 : decode cX10_friendsOf 5 = .ok (.aload_n 0, 1) := by decide +kernel
theorem dX10_friendsOf_6 : decode cX10_friendsOf 6 = .ok (.invokevirtual 261, 3) := by decide +kernel
theorem dX10_friendsOf_9 : decode cX10_friendsOf 9 = .ok (.if_icmp .ge 59, 3) := by decide +kernel
theorem dX10_friendsOf_12 : decode cX10_friendsOf 12 = .ok (.iload_n 3, 1) := by decide +kernel
theorem dX10_friendsOf_13 : decode cX10_friendsOf 13 = .ok (.iconst 1, 1) := by decide +kernel
theorem dX10_friendsOf_14 : decode cX10_friendsOf 14 = .ok (.iadd, 1) := by decide +kernel
theorem dX10_friendsOf_15 : decode cX10_friendsOf 15 = .ok (.istore 4, 2) := by decide +kernel
theorem dX10_friendsOf_17 : decode cX10_friendsOf 17 = .ok (.iload 4, 2) := by decide +kernel
theorem dX10_friendsOf_19 : decode cX10_friendsOf 19 = .ok (.aload_n 0, 1) := by decide +kernel
theorem dX10_friendsOf_20 : decode cX10_friendsOf 20 = .ok (.invokevirtual 261, 3) := by decide +kernel
theorem dX10_friendsOf_23 : decode cX10_friendsOf 23 = .ok (.if_icmp .ge 39, 3) := by decide +kernel
theorem dX10_friendsOf_26 : decode cX10_friendsOf 26 = .ok (.iload_n 2, 1) := by decide +kernel
theorem dX10_friendsOf_27 : decode cX10_friendsOf 27 = .ok (.aload_n 0, 1) := by decide +kernel
theorem dX10_friendsOf_28 : decode cX10_friendsOf 28 = .ok (.iload_n 3, 1) := by decide +kernel
theorem dX10_friendsOf_29 : decode cX10_friendsOf 29 = .ok (.iload 4, 2) := by decide +kernel
theorem dX10_friendsOf_31 : decode cX10_friendsOf 31 = .ok (.iload_n 1, 1) := by decide +kernel
theorem dX10_friendsOf_32 : decode cX10_friendsOf 32 = .ok (.invokevirtual 307, 3) := by decide +kernel
theorem dX10_friendsOf_35 : decode cX10_friendsOf 35 = .ok (.ifCond .eq 18, 3) := by decide +kernel
theorem dX10_friendsOf_38 : decode cX10_friendsOf 38 = .ok (.aload_n 0, 1) := by decide +kernel
theorem dX10_friendsOf_39 : decode cX10_friendsOf 39 = .ok (.iload 4, 2) := by decide +kernel
theorem dX10_friendsOf_41 : decode cX10_friendsOf 41 = .ok (.iload_n 3, 1) := by decide +kernel
theorem dX10_friendsOf_42 : decode cX10_friendsOf 42 = .ok (.iload_n 1, 1) := by decide +kernel
theorem dX10_friendsOf_43 : decode cX10_friendsOf 43 = .ok (.invokevirtual 307, 3) := by decide +kernel
theorem dX10_friendsOf_46 : decode cX10_friendsOf 46 = .ok (.ifCond .eq 7, 3) := by decide +kernel
theorem dX10_friendsOf_49 : decode cX10_friendsOf 49 = .ok (.iconst 1, 1) := by decide +kernel
theorem dX10_friendsOf_50 : decode cX10_friendsOf 50 = .ok (.goto 4, 3) := by decide +kernel
theorem dX10_friendsOf_53 : decode cX10_friendsOf 53 = .ok (.iconst 0, 1) := by decide +kernel
theorem dX10_friendsOf_54 : decode cX10_friendsOf 54 = .ok (.iadd, 1) := by decide +kernel
theorem dX10_friendsOf_55 : decode cX10_friendsOf 55 = .ok (.istore_n 2, 1) := by decide +kernel
theorem dX10_friendsOf_56 : decode cX10_friendsOf 56 = .ok (.iinc 4 1, 3) := by decide +kernel
theorem dX10_friendsOf_59 : decode cX10_friendsOf 59 = .ok (.goto (-42), 3) := by decide +kernel
theorem dX10_friendsOf_62 : decode cX10_friendsOf 62 = .ok (.iinc 3 1, 3) := by decide +kernel
theorem dX10_friendsOf_65 : decode cX10_friendsOf 65 = .ok (.goto (-61), 3) := by decide +kernel
theorem dX10_friendsOf_68 : decode cX10_friendsOf 68 = .ok (.iload_n 2, 1) := by decide +kernel
theorem dX10_friendsOf_69 : decode cX10_friendsOf 69 = .ok (.ireturn, 1) := by decide +kernel
set_option maxRecDepth 20000 in
theorem ggX10_friends_X10_asksYear : GoodIn wsX10_friends wsX10_asksYear := goodIn_r _ [5, 6, 7, 8, 4, 9, 10, 11, 12, 13, 14, 15, 16, 17, 18, 19, 20, 21, 22, 23, 24, 25, 26, 27, 28, 29, 30, 31, 32, 33, 34, 35, 36, 37, 38, 39, 40, 41, 42, 43, 44, 45, 46, 47, 48, 49, 50, 51, 52, 53, 54, 55, 56, 57, 58, 59, 60, 61, 62, 63, 64, 65, 66, 67, 68, 69, 70, 71, 72, 73, 74, 75, 76, 77, 78, 99, 100, 101, 102, 103, 104, 105, 106, 107, 108, 109, 110, 111, 112, 113, 114, 115, 116, 117, 118, 119, 120, 121, 122, 123, 124, 125, 126, 127, 128, 129, 130, 131, 132, 133, 134, 135, 136, 137, 138, 139, 140, 141, 142, 143] (by decide +kernel) (by decide +kernel)
set_option maxRecDepth 20000 in
theorem gX10_friends_X10_asksYear : GoodIn wsX10_friends (wsV RX10 291 RX10 yX10_asksYear wsX10_asksYear) := goodIn_app (goodIn_of _ (by decide +kernel)) ggX10_friends_X10_asksYear
set_option maxRecDepth 20000 in
theorem ggX10_friends_X10_friendsOf : GoodIn wsX10_friends wsX10_friendsOf := goodIn_r _ [82, 52, 53, 54, 4, 55, 14, 83, 84, 85, 86, 87, 88, 89, 90, 20, 16, 56, 57, 58, 59, 17, 60, 61, 62, 91, 92, 93, 94, 51, 95, 96, 97, 98, 21, 22, 29, 30, 31, 32, 99, 100, 101, 102, 103, 104, 105, 106, 107, 108, 109, 110, 111, 112, 113, 114, 115, 116, 117, 118, 119, 120, 121, 122, 123, 124, 125, 126, 127, 128, 129, 130, 131, 132, 133, 134, 135, 136, 137, 138, 139, 140, 141, 142, 143] (by decide +kernel) (by decide +kernel)
set_option maxRecDepth 20000 in
theorem gX10_friends_X10_friendsOf : GoodIn wsX10_friends (wsV RX10 328 RX10 yX10_friendsOf wsX10_friendsOf) := goodIn_app (goodIn_of _ (by decide +kernel)) ggX10_friends_X10_friendsOf
theorem dX10_friends_0 : decode cX10_friends 0 = .ok (.aload_n 0, 1) := by decide +kernel
theorem dX10_friends_1 : decode cX10_friends 1 = .ok (.iload_n 1, 1) := by decide +kernel
theorem dX10_friends_2 : decode cX10_friends 2 = .ok (.invokevirtual 291, 3) := by decide +kernel
theorem dX10_friends_5 : decode cX10_friends 5 = .ok (.ifCond .eq 11, 3) := by decide +kernel
theorem dX10_friends_8 : decode cX10_friends 8 = .ok (.aload_n 0, 1) := by decide +kernel
theorem dX10_friends_9 : decode cX10_friends 9 = .ok (.iload_n 1, 1) := by decide +kernel
theorem dX10_friends_10 : decode cX10_friends 10 = .ok (.invokevirtual 328, 3) := by decide +kernel
theorem dX10_friends_13 : decode cX10_friends 13 = .ok (.goto 5, 3) := by decide +kernel
theorem dX10_friends_16 : decode cX10_friends 16 = .ok (.bipush (-2), 2) := by decide +kernel
theorem dX10_friends_18 : decode cX10_friends 18 = .ok (.ireturn, 1) := by decide +kernel
set_option maxRecDepth 20000 in
theorem ggX10_fair_X10_asksDukedom : GoodIn wsX10_fair wsX10_asksDukedom := goodIn_r _ [5, 6, 7, 8, 4, 9, 10, 11, 12, 13, 14, 15, 16, 17, 18, 19, 20, 21, 22, 23, 24, 25, 26, 27, 28, 29, 30, 31, 32, 33, 34, 35, 36, 37, 38, 39, 40, 41, 42, 43, 44, 45, 46, 47, 48, 49, 50, 51, 52, 53, 54, 55, 56, 57, 58, 59, 60, 61, 62, 63, 64, 65, 66, 67, 68, 69, 70, 91, 92, 93, 94, 95, 96, 97, 98, 99, 100, 101, 102, 103, 104, 105, 106, 107, 108, 109, 110, 111, 112, 113, 114, 115, 116, 117, 118, 119, 120, 121, 122, 123, 124, 125, 126, 127, 128, 129, 130, 131, 132, 133, 134, 135] (by decide +kernel) (by decide +kernel)
set_option maxRecDepth 20000 in
theorem gX10_fair_X10_asksDukedom : GoodIn wsX10_fair (wsV RX10 285 RX10 yX10_asksDukedom wsX10_asksDukedom) := goodIn_app (goodIn_of _ (by decide +kernel)) ggX10_fair_X10_asksDukedom
set_option maxRecDepth 20000 in
theorem ggX10_fair_X10_years : GoodIn wsX10_fair wsX10_years := goodIn_r _ [37, 10, 91, 92, 93, 94, 95, 96, 97, 98, 99, 100, 101, 102, 103, 104, 105, 106, 107, 108, 109, 110, 111, 112, 113, 114, 115, 116, 117, 118, 119, 120, 121, 122, 123, 124, 125, 126, 127, 128, 129, 130, 131, 132, 133, 134, 135] (by decide +kernel) (by decide +kernel)
set_option maxRecDepth 20000 in
theorem gX10_fair_X10_years : GoodIn wsX10_fair (wsV RX10 271 RX10 yX10_years wsX10_years) := goodIn_app (goodIn_of _ (by decide +kernel)) ggX10_fair_X10_years
set_option maxRecDepth 20000 in
theorem ggX10_fair_X10_friendsOf : GoodIn wsX10_fair wsX10_friendsOf := goodIn_r _ [74, 48, 49, 50, 4, 51, 10, 75, 76, 77, 78, 79, 80, 81, 82, 16, 12, 52, 53, 54, 55, 13, 56, 57, 58, 83, 84, 85, 86, 47, 87, 88, 89, 90, 17, 18, 25, 26, 27, 28, 91, 92, 93, 94, 95, 96, 97, 98, 99, 100, 101, 102, 103, 104, 105, 106, 107, 108, 109, 110, 111, 112, 113, 114, 115, 116, 117, 118, 119, 120, 121, 122, 123, 124, 125, 126, 127, 128, 129, 130, 131, 132, 133, 134, 135] (by decide +kernel) (by decide +kernel)
set_option maxRecDepth 20000 in
theorem gX10_fair_X10_friendsOf : GoodIn wsX10_fair (wsV RX10 328 RX10 yX10_friendsOf wsX10_friendsOf) := goodIn_app (goodIn_of _ (by decide +kernel)) ggX10_fair_X10_friendsOf
theorem dX10_fair_0 : decode cX10_fair 0 = .ok (.aload_n 0, 1) := by decide +kernel
theorem dX10_fair_1 : decode cX10_fair 1 = .ok (.invokevirtual 285, 3) := by decide +kernel
theorem dX10_fair_4 : decode cX10_fair 4 = .ok (.ifCond .ne 6, 3) := by decide +kernel
theorem dX10_fair_7 : decode cX10_fair 7 = .ok (.bipush (-2), 2) := by decide +kernel
theorem dX10_fair_9 : decode cX10_fair 9 = .ok (.ireturn, 1) := by decide +kernel
theorem dX10_fair_10 : decode cX10_fair 10 = .ok (.iconst 0, 1) := by decide +kernel
theorem dX10_fair_11 : decode cX10_fair 11 = .ok (.istore_n 1, 1) := by decide +kernel
theorem dX10_fair_12 : decode cX10_fair 12 = .ok (.iconst 1, 1) := by decide +kernel
theorem dX10_fair_13 : decode cX10_fair 13 = .ok (.istore_n 2, 1) := by decide +kernel
theorem dX10_fair_14 : decode cX10_fair 14 = .ok (.iload_n 2, 1) := by decide +kernel
theorem dX10_fair_15 : decode cX10_fair 15 = .ok (.aload_n 0, 1) := by decide +kernel
theorem dX10_fair_16 : decode cX10_fair 16 = .ok (.invokevirtual 271, 3) := by decide +kernel
theorem dX10_fair_19 : decode cX10_fair 19 = .ok (.if_icmp .ge 28, 3) := by decide +kernel
theorem dX10_fair_22 : decode cX10_fair 22 = .ok (.aload_n 0, 1) := by decide +kernel
theorem dX10_fair_23 : decode cX10_fair 23 = .ok (.iload_n 2, 1) := by decide +kernel
theorem dX10_fair_24 : decode cX10_fair 24 = .ok (.invokevirtual 328, 3) := by decide +kernel
theorem dX10_fair_27 : decode cX10_fair 27 = .ok (.aload_n 0, 1) := by decide +kernel
theorem dX10_fair_28 : decode cX10_fair 28 = .ok (.iload_n 1, 1) := by decide +kernel
theorem dX10_fair_29 : decode cX10_fair 29 = .ok (.invokevirtual 328, 3) := by decide +kernel
theorem dX10_fair_32 : decode cX10_fair 32 = .ok (.if_icmp .le 7, 3) := by decide +kernel
theorem dX10_fair_35 : decode cX10_fair 35 = .ok (.iload_n 2, 1) := by decide +kernel
theorem dX10_fair_36 : decode cX10_fair 36 = .ok (.goto 4, 3) := by decide +kernel
theorem dX10_fair_39 : decode cX10_fair 39 = .ok (.iload_n 1, 1) := by decide +kernel
theorem dX10_fair_40 : decode cX10_fair 40 = .ok (.istore_n 1, 1) := by decide +kernel
theorem dX10_fair_41 : decode cX10_fair 41 = .ok (.iinc 2 1, 3) := by decide +kernel
theorem dX10_fair_44 : decode cX10_fair 44 = .ok (.goto (-30), 3) := by decide +kernel
theorem dX10_fair_47 : decode cX10_fair 47 = .ok (.iload_n 1, 1) := by decide +kernel
theorem dX10_fair_48 : decode cX10_fair 48 = .ok (.ireturn, 1) := by decide +kernel
set_option maxRecDepth 20000 in
theorem ggX10_fords_X10_asksYear : GoodIn wsX10_fords wsX10_asksYear := goodIn_r _ [5, 6, 7, 8, 4, 9, 10, 11, 12, 13, 14, 15, 16, 17, 18, 19, 20, 21, 22, 23, 24, 25, 26, 27, 28, 29, 30, 31, 32, 33, 34, 35, 36, 37, 38, 39, 40, 41, 42, 43, 44, 45, 46, 47, 48, 49, 50, 51, 52, 53, 54, 55, 56, 57, 58, 59, 60, 61, 62, 63, 64, 65, 66, 67, 68, 69, 70, 71, 72, 73, 74, 75, 76, 77, 78, 95, 96, 97, 98, 99, 100, 101, 102, 103, 104, 105, 106, 107, 108, 109, 110, 111, 112, 113, 114, 115, 116, 117, 118, 119, 120, 121, 122, 123, 124, 125, 126, 127, 128, 129, 130, 131, 132, 133, 134, 135, 136, 137, 138, 139] (by decide +kernel) (by decide +kernel)
set_option maxRecDepth 20000 in
theorem gX10_fords_X10_asksYear : GoodIn wsX10_fords (wsV RX10 291 RX10 yX10_asksYear wsX10_asksYear) := goodIn_app (goodIn_of _ (by decide +kernel)) ggX10_fords_X10_asksYear
set_option maxRecDepth 20000 in
theorem ggX10_fords_X10_isRank : GoodIn wsX10_fords wsX10_isRank := goodIn_r _ [82, 14, 68, 69, 4, 70, 95, 96, 97, 98, 99, 100, 101, 102, 103, 104, 105, 106, 107, 108, 109, 110, 111, 112, 113, 114, 115, 116, 117, 118, 119, 120, 121, 122, 123, 124, 125, 126, 127, 128, 129, 130, 131, 132, 133, 134, 135, 136, 137, 138, 139] (by decide +kernel) (by decide +kernel)
set_option maxRecDepth 20000 in
theorem gX10_fords_X10_isRank : GoodIn wsX10_fords (wsV RX10 230 RX10 yX10_isRank wsX10_isRank) := goodIn_app (goodIn_of _ (by decide +kernel)) ggX10_fords_X10_isRank
set_option maxRecDepth 20000 in
theorem ggX10_fords_X10_ranks : GoodIn wsX10_fords wsX10_ranks := goodIn_r _ [55, 14, 95, 96, 97, 98, 99, 100, 101, 102, 103, 104, 105, 106, 107, 108, 109, 110, 111, 112, 113, 114, 115, 116, 117, 118, 119, 120, 121, 122, 123, 124, 125, 126, 127, 128, 129, 130, 131, 132, 133, 134, 135, 136, 137, 138, 139] (by decide +kernel) (by decide +kernel)
set_option maxRecDepth 20000 in
theorem gX10_fords_X10_ranks : GoodIn wsX10_fords (wsV RX10 261 RX10 yX10_ranks wsX10_ranks) := goodIn_app (goodIn_of _ (by decide +kernel)) ggX10_fords_X10_ranks
set_option maxRecDepth 20000 in
theorem ggX10_fords_X10_doesFord : GoodIn wsX10_fords wsX10_doesFord := goodIn_r _ [86, 20, 16, 56, 57, 58, 4, 59, 17, 60, 61, 62, 87, 88, 89, 90, 51, 91, 92, 93, 94, 21, 14, 22, 29, 30, 31, 32, 95, 96, 97, 98, 99, 100, 101, 102, 103, 104, 105, 106, 107, 108, 109, 110, 111, 112, 113, 114, 115, 116, 117, 118, 119, 120, 121, 122, 123, 124, 125, 126, 127, 128, 129, 130, 131, 132, 133, 134, 135, 136, 137, 138, 139] (by decide +kernel) (by decide +kernel)
set_option maxRecDepth 20000 in
theorem gX10_fords_X10_doesFord : GoodIn wsX10_fords (wsV RX10 303 RX10 yX10_doesFord wsX10_doesFord) := goodIn_app (goodIn_of _ (by decide +kernel)) ggX10_fords_X10_doesFord
theorem dX10_fords_0 : decode cX10_fords 0 = .ok (.aload_n 0, 1) := by decide +kernel
theorem dX10_fords_1 : decode cX10_fords 1 = .ok (.iload_n 2, 1) := by decide +kernel
theorem dX10_fords_2 : decode cX10_fords 2 = .ok (.invokevirtual 291, 3) := by decide +kernel
theorem dX10_fords_5 : decode cX10_fords 5 = .ok (.ifCond .eq 12, 3) := by decide +kernel
theorem dX10_fords_8 : decode cX10_fords 8 = .ok (.aload_n 0, 1) := by decide +kernel
theorem dX10_fords_9 : decode cX10_fords 9 = .ok (.iload_n 1, 1) := by decide +kernel
theorem dX10_fords_10 : decode cX10_fords 10 = .ok (.i2l, 1) := by decide +kernel
theorem dX10_fords_11 : decode cX10_fords 11 = .ok (.invokevirtual 230, 3) := by decide +kernel
theorem dX10_fords_14 : decode cX10_fords 14 = .ok (.ifCond .ne 6, 3) := by decide +kernel
theorem dX10_fords_17 : decode cX10_fords 17 = .ok (.bipush (-2), 2) := by decide +kernel
theorem dX10_fords_19 : decode cX10_fords 19 = .ok (.ireturn, 1) := by decide +kernel
theorem dX10_fords_20 : decode cX10_fords 20 = .ok (.iconst 0, 1) := by decide +kernel
theorem dX10_fords_21 : decode cX10_fords 21 = .ok (.istore_n 3, 1) := by decide +kernel
theorem dX10_fords_22 : decode cX10_fords 22 = .ok (.iconst 0, 1) := by decide +kernel
theorem dX10_fords_23 : decode cX10_fords 23 = .ok (.istore 4, 2) := by decide +kernel
theorem dX10_fords_25 : decode cX10_fords 25 = .ok (.iload 4, 2) := by decide +kernel
theorem dX10_fords_27 : decode cX10_fords 27 = .ok (.aload_n 0, 1) := by decide +kernel
theorem dX10_fords_28 : decode cX10_fords 28 = .ok (.invokevirtual 261, 3) := by decide +kernel
theorem dX10_fords_31 : decode cX10_fords 31 = .ok (.if_icmp .ge 31, 3) := by decide +kernel
theorem dX10_fords_34 : decode cX10_fords 34 = .ok (.iload_n 3, 1) := by decide +kernel
theorem dX10_fords_35 : decode cX10_fords 35 = .ok (.aload_n 0, 1) := by decide +kernel
theorem dX10_fords_36 : decode cX10_fords 36 = .ok (.iload_n 1, 1) := by decide +kernel
theorem dX10_fords_37 : decode cX10_fords 37 = .ok (.iload 4, 2) := by decide +kernel
theorem dX10_fords_39 : decode cX10_fords 39 = .ok (.iload_n 2, 1) := by decide +kernel
theorem dX10_fords_40 : decode cX10_fords 40 = .ok (.invokevirtual 303, 3) := by decide +kernel
theorem dX10_fords_43 : decode cX10_fords 43 = .ok (.ifCond .eq 10, 3) := by decide +kernel
theorem dX10_fords_46 : decode cX10_fords 46 = .ok (.iconst 1, 1) := by decide +kernel
theorem dX10_fords_47 : decode cX10_fords 47 = .ok (.iload 4, 2) := by decide +kernel
theorem dX10_fords_49 : decode cX10_fords 49 = .ok (.ishl, 1) := by decide +kernel
theorem dX10_fords_50 : decode cX10_fords 50 = .ok (.goto 4, 3) := by decide +kernel
theorem dX10_fords_53 : decode cX10_fords 53 = .ok (.iconst 0, 1) := by decide +kernel
theorem dX10_fords_54 : decode cX10_fords 54 = .ok (.ior, 1) := by decide +kernel
theorem dX10_fords_55 : decode cX10_fords 55 = .ok (.istore_n 3, 1) := by decide +kernel
theorem dX10_fords_56 : decode cX10_fords 56 = .ok (.iinc 4 1, 3) := by decide +kernel
theorem dX10_fords_59 : decode cX10_fords 59 = .ok (.goto (-34), 3) := by decide +kernel
theorem dX10_fords_62 : decode cX10_fords 62 = .ok (.iload_n 3, 1) := by decide +kernel
theorem dX10_fords_63 : decode cX10_fords 63 = .ok (.ireturn, 1) := by decide +kernel
set_option maxRecDepth 20000 in
theorem ggX10_shut_X10_asksYear : GoodIn wsX10_shut wsX10_asksYear := goodIn_r _ [5, 6, 7, 8, 4, 9, 10, 11, 12, 13, 14, 15, 16, 17, 18, 19, 20, 21, 22, 23, 24, 25, 26, 27, 28, 29, 30, 31, 32, 33, 34, 35, 36, 37, 38, 39, 40, 41, 42, 43, 44, 45, 46, 47, 48, 49, 50, 51, 52, 53, 54, 55, 56, 57, 58, 59, 60, 61, 62, 63, 64, 65, 66, 67, 68, 69, 70, 71, 72, 73, 74, 75, 76, 77, 78, 91, 92, 93, 94, 95, 96, 97, 98, 99, 100, 101, 102, 103, 104, 105, 106, 107, 108, 109, 110, 111, 112, 113, 114, 115, 116, 117, 118, 119, 120, 121, 122, 123, 124, 125, 126, 127, 128, 129, 130, 131, 132, 133, 134, 135] (by decide +kernel) (by decide +kernel)
set_option maxRecDepth 20000 in
theorem gX10_shut_X10_asksYear : GoodIn wsX10_shut (wsV RX10 291 RX10 yX10_asksYear wsX10_asksYear) := goodIn_app (goodIn_of _ (by decide +kernel)) ggX10_shut_X10_asksYear
set_option maxRecDepth 20000 in
theorem ggX10_shut_X10_ranks : GoodIn wsX10_shut wsX10_ranks := goodIn_r _ [55, 14, 91, 92, 93, 94, 95, 96, 97, 98, 99, 100, 101, 102, 103, 104, 105, 106, 107, 108, 109, 110, 111, 112, 113, 114, 115, 116, 117, 118, 119, 120, 121, 122, 123, 124, 125, 126, 127, 128, 129, 130, 131, 132, 133, 134, 135] (by decide +kernel) (by decide +kernel)
set_option maxRecDepth 20000 in
theorem gX10_shut_X10_ranks : GoodIn wsX10_shut (wsV RX10 261 RX10 yX10_ranks wsX10_ranks) := goodIn_app (goodIn_of _ (by decide +kernel)) ggX10_shut_X10_ranks
set_option maxRecDepth 20000 in
theorem ggX10_shut_X10_doesFord : GoodIn wsX10_shut wsX10_doesFord := goodIn_r _ [82, 20, 16, 56, 57, 58, 4, 59, 17, 60, 61, 62, 83, 84, 85, 86, 51, 87, 88, 89, 90, 21, 14, 22, 29, 30, 31, 32, 91, 92, 93, 94, 95, 96, 97, 98, 99, 100, 101, 102, 103, 104, 105, 106, 107, 108, 109, 110, 111, 112, 113, 114, 115, 116, 117, 118, 119, 120, 121, 122, 123, 124, 125, 126, 127, 128, 129, 130, 131, 132, 133, 134, 135] (by decide +kernel) (by decide +kernel)
set_option maxRecDepth 20000 in
theorem gX10_shut_X10_doesFord : GoodIn wsX10_shut (wsV RX10 303 RX10 yX10_doesFord wsX10_doesFord) := goodIn_app (goodIn_of _ (by decide +kernel)) ggX10_shut_X10_doesFord
theorem dX10_shut_0 : decode cX10_shut 0 = .ok (.aload_n 0, 1) := by decide +kernel
theorem dX10_shut_1 : decode cX10_shut 1 = .ok (.iload_n 1, 1) := by decide +kernel
theorem dX10_shut_2 : decode cX10_shut 2 = .ok (.invokevirtual 291, 3) := by decide +kernel
theorem dX10_shut_5 : decode cX10_shut 5 = .ok (.ifCond .ne 6, 3) := by decide +kernel
theorem dX10_shut_8 : decode cX10_shut 8 = .ok (.bipush (-2), 2) := by decide +kernel
theorem dX10_shut_10 : decode cX10_shut 10 = .ok (.ireturn, 1) := by decide +kernel
theorem dX10_shut_11 : decode cX10_shut 11 = .ok (.iconst 0, 1) := by decide +kernel
theorem dX10_shut_12 : decode cX10_shut 12 = .ok (.istore_n 2, 1) := by decide +kernel
theorem dX10_shut_13 : decode cX10_shut 13 = .ok (.iconst 0, 1) := by decide +kernel
theorem dX10_shut_14 : decode cX10_shut 14 = .ok (.istore_n 3, 1) := by decide +kernel
theorem dX10_shut_15 : decode cX10_shut 15 = .ok (.iload_n 3, 1) := by decide +kernel
theorem dX10_shut_16 : decode cX10_shut 16 = .ok (.aload_n 0, 1) := by decide +kernel
theorem dX10_shut_17 : decode cX10_shut 17 = .ok (.invokevirtual 261, 3) := by decide +kernel
theorem dX10_shut_20 : decode cX10_shut 20 = .ok (.if_icmp .ge 29, 3) := by decide +kernel
theorem dX10_shut_23 : decode cX10_shut 23 = .ok (.iload_n 2, 1) := by decide +kernel
theorem dX10_shut_24 : decode cX10_shut 24 = .ok (.aload_n 0, 1) := by decide +kernel
theorem dX10_shut_25 : decode cX10_shut 25 = .ok (.iload_n 3, 1) := by decide +kernel
theorem dX10_shut_26 : decode cX10_shut 26 = .ok (.iload_n 3, 1) := by decide +kernel
theorem dX10_shut_27 : decode cX10_shut 27 = .ok (.iload_n 1, 1) := by decide +kernel
theorem dX10_shut_28 : decode cX10_shut 28 = .ok (.invokevirtual 303, 3) := by decide +kernel
theorem dX10_shut_31 : decode cX10_shut 31 = .ok (.ifCond .eq 7, 3) := by decide +kernel
theorem dX10_shut_34 : decode cX10_shut 34 = .ok (.iconst 0, 1) := by decide +kernel
theorem dX10_shut_35 : decode cX10_shut 35 = .ok (.goto 6, 3) := by decide +kernel
theorem dX10_shut_38 : decode cX10_shut 38 = .ok (.iconst 1, 1) := by decide +kernel
theorem dX10_shut_39 : decode cX10_shut 39 = .ok (.iload_n 3, 1) := by decide +kernel
theorem dX10_shut_40 : decode cX10_shut 40 = .ok (.ishl, 1) := by decide +kernel
theorem dX10_shut_41 : decode cX10_shut 41 = .ok (.ior, 1) := by decide +kernel
theorem dX10_shut_42 : decode cX10_shut 42 = .ok (.istore_n 2, 1) := by decide +kernel
theorem dX10_shut_43 : decode cX10_shut 43 = .ok (.iinc 3 1, 3) := by decide +kernel
theorem dX10_shut_46 : decode cX10_shut 46 = .ok (.goto (-31), 3) := by decide +kernel
theorem dX10_shut_49 : decode cX10_shut 49 = .ok (.iload_n 2, 1) := by decide +kernel
theorem dX10_shut_50 : decode cX10_shut 50 = .ok (.ireturn, 1) := by decide +kernel
set_option maxRecDepth 20000 in
theorem ggX10_lone_X10_asksDukedom : GoodIn wsX10_lone wsX10_asksDukedom := goodIn_r _ [5, 6, 7, 8, 4, 9, 10, 11, 12, 13, 14, 15, 16, 17, 18, 19, 20, 21, 22, 23, 24, 25, 26, 27, 28, 29, 30, 31, 32, 33, 34, 35, 36, 37, 38, 39, 40, 41, 42, 43, 44, 45, 46, 47, 48, 49, 50, 51, 52, 53, 54, 55, 56, 57, 58, 59, 60, 61, 62, 63, 64, 65, 66, 67, 68, 69, 70, 91, 92, 93, 94, 95, 96, 97, 98, 99, 100, 101, 102, 103, 104, 105, 106, 107, 108, 109, 110, 111, 112, 113, 114, 115, 116, 117, 118, 119, 120, 121, 122, 123, 124, 125, 126, 127, 128, 129, 130, 131, 132, 133, 134, 135] (by decide +kernel) (by decide +kernel)
set_option maxRecDepth 20000 in
theorem gX10_lone_X10_asksDukedom : GoodIn wsX10_lone (wsV RX10 285 RX10 yX10_asksDukedom wsX10_asksDukedom) := goodIn_app (goodIn_of _ (by decide +kernel)) ggX10_lone_X10_asksDukedom
set_option maxRecDepth 20000 in
theorem ggX10_lone_X10_ranks : GoodIn wsX10_lone wsX10_ranks := goodIn_r _ [51, 10, 91, 92, 93, 94, 95, 96, 97, 98, 99, 100, 101, 102, 103, 104, 105, 106, 107, 108, 109, 110, 111, 112, 113, 114, 115, 116, 117, 118, 119, 120, 121, 122, 123, 124, 125, 126, 127, 128, 129, 130, 131, 132, 133, 134, 135] (by decide +kernel) (by decide +kernel)
set_option maxRecDepth 20000 in
theorem gX10_lone_X10_ranks : GoodIn wsX10_lone (wsV RX10 261 RX10 yX10_ranks wsX10_ranks) := goodIn_app (goodIn_of _ (by decide +kernel)) ggX10_lone_X10_ranks
set_option maxRecDepth 20000 in
theorem ggX10_lone_X10_years : GoodIn wsX10_lone wsX10_years := goodIn_r _ [37, 10, 91, 92, 93, 94, 95, 96, 97, 98, 99, 100, 101, 102, 103, 104, 105, 106, 107, 108, 109, 110, 111, 112, 113, 114, 115, 116, 117, 118, 119, 120, 121, 122, 123, 124, 125, 126, 127, 128, 129, 130, 131, 132, 133, 134, 135] (by decide +kernel) (by decide +kernel)
set_option maxRecDepth 20000 in
theorem gX10_lone_X10_years : GoodIn wsX10_lone (wsV RX10 271 RX10 yX10_years wsX10_years) := goodIn_app (goodIn_of _ (by decide +kernel)) ggX10_lone_X10_years
set_option maxRecDepth 20000 in
theorem ggX10_lone_X10_guestsOf : GoodIn wsX10_lone wsX10_guestsOf := goodIn_r _ [74, 48, 49, 50, 4, 51, 10, 75, 76, 77, 78, 79, 80, 81, 82, 16, 12, 52, 53, 54, 55, 13, 56, 57, 58, 83, 84, 85, 86, 47, 87, 88, 89, 90, 17, 18, 25, 26, 27, 28, 91, 92, 93, 94, 95, 96, 97, 98, 99, 100, 101, 102, 103, 104, 105, 106, 107, 108, 109, 110, 111, 112, 113, 114, 115, 116, 117, 118, 119, 120, 121, 122, 123, 124, 125, 126, 127, 128, 129, 130, 131, 132, 133, 134, 135] (by decide +kernel) (by decide +kernel)
set_option maxRecDepth 20000 in
theorem gX10_lone_X10_guestsOf : GoodIn wsX10_lone (wsV RX10 313 RX10 yX10_guestsOf wsX10_guestsOf) := goodIn_app (goodIn_of _ (by decide +kernel)) ggX10_lone_X10_guestsOf
theorem dX10_lone_0 : decode cX10_lone 0 = .ok (.aload_n 0, 1) := by decide +kernel
theorem dX10_lone_1 : decode cX10_lone 1 = .ok (.invokevirtual 285, 3) := by decide +kernel
theorem dX10_lone_4 : decode cX10_lone 4 = .ok (.ifCond .ne 6, 3) := by decide +kernel
theorem dX10_lone_7 : decode cX10_lone 7 = .ok (.bipush (-2), 2) := by decide +kernel
theorem dX10_lone_9 : decode cX10_lone 9 = .ok (.ireturn, 1) := by decide +kernel
theorem dX10_lone_10 : decode cX10_lone 10 = .ok (.iconst 0, 1) := by decide +kernel
theorem dX10_lone_11 : decode cX10_lone 11 = .ok (.istore_n 1, 1) := by decide +kernel
theorem dX10_lone_12 : decode cX10_lone 12 = .ok (.iconst 0, 1) := by decide +kernel
theorem dX10_lone_13 : decode cX10_lone 13 = .ok (.istore_n 2, 1) := by decide +kernel
theorem dX10_lone_14 : decode cX10_lone 14 = .ok (.iload_n 2, 1) := by decide +kernel
theorem dX10_lone_15 : decode cX10_lone 15 = .ok (.aload_n 0, 1) := by decide +kernel
theorem dX10_lone_16 : decode cX10_lone 16 = .ok (.invokevirtual 261, 3) := by decide +kernel
theorem dX10_lone_19 : decode cX10_lone 19 = .ok (.if_icmp .ge 63, 3) := by decide +kernel
theorem dX10_lone_22 : decode cX10_lone 22 = .ok (.iconst 1, 1) := by decide +kernel
theorem dX10_lone_23 : decode cX10_lone 23 = .ok (.istore_n 3, 1) := by decide +kernel
theorem dX10_lone_24 : decode cX10_lone 24 = .ok (.iconst 0, 1) := by decide +kernel
theorem dX10_lone_25 : decode cX10_lone 25 = .ok (.istore 4, 2) := by decide +kernel
theorem dX10_lone_27 : decode cX10_lone 27 = .ok (.iload 4, 2) := by decide +kernel
theorem dX10_lone_29 : decode cX10_lone 29 = .ok (.aload_n 0, 1) := by decide +kernel
theorem dX10_lone_30 : decode cX10_lone 30 = .ok (.invokevirtual 271, 3) := by decide +kernel
theorem dX10_lone_33 : decode cX10_lone 33 = .ok (.if_icmp .ge 29, 3) := by decide +kernel
theorem dX10_lone_36 : decode cX10_lone 36 = .ok (.iload_n 3, 1) := by decide +kernel
theorem dX10_lone_37 : decode cX10_lone 37 = .ok (.ifCond .eq 17, 3) := by decide +kernel
theorem dX10_lone_40 : decode cX10_lone 40 = .ok (.aload_n 0, 1) := by decide +kernel
theorem dX10_lone_41 : decode cX10_lone 41 = .ok (.iload_n 2, 1) := by decide +kernel
theorem dX10_lone_42 : decode cX10_lone 42 = .ok (.iload 4, 2) := by decide +kernel
theorem dX10_lone_44 : decode cX10_lone 44 = .ok (.invokevirtual 313, 3) := by decide +kernel
theorem dX10_lone_47 : decode cX10_lone 47 = .ok (.ifCond .ne 7, 3) := by decide +kernel
theorem dX10_lone_50 : decode cX10_lone 50 = .ok (.iconst 1, 1) := by decide +kernel
theorem dX10_lone_51 : decode cX10_lone 51 = .ok (.goto 4, 3) := by decide +kernel
theorem dX10_lone_54 : decode cX10_lone 54 = .ok (.iconst 0, 1) := by decide +kernel
theorem dX10_lone_55 : decode cX10_lone 55 = .ok (.istore_n 3, 1) := by decide +kernel
theorem dX10_lone_56 : decode cX10_lone 56 = .ok (.iinc 4 1, 3) := by decide +kernel
theorem dX10_lone_59 : decode cX10_lone 59 = .ok (.goto (-32), 3) := by decide +kernel
theorem dX10_lone_62 : decode cX10_lone 62 = .ok (.iload_n 1, 1) := by decide +kernel
theorem dX10_lone_63 : decode cX10_lone 63 = .ok (.iload_n 3, 1) := by decide +kernel
theorem dX10_lone_64 : decode cX10_lone 64 = .ok (.ifCond .eq 9, 3) := by decide +kernel
theorem dX10_lone_67 : decode cX10_lone 67 = .ok (.iconst 1, 1) := by decide +kernel
theorem dX10_lone_68 : decode cX10_lone 68 = .ok (.iload_n 2, 1) := by decide +kernel
theorem dX10_lone_69 : decode cX10_lone 69 = .ok (.ishl, 1) := by decide +kernel
theorem dX10_lone_70 : decode cX10_lone 70 = .ok (.goto 4, 3) := by decide +kernel
theorem dX10_lone_73 : decode cX10_lone 73 = .ok (.iconst 0, 1) := by decide +kernel
theorem dX10_lone_74 : decode cX10_lone 74 = .ok (.ior, 1) := by decide +kernel
theorem dX10_lone_75 : decode cX10_lone 75 = .ok (.istore_n 1, 1) := by decide +kernel
theorem dX10_lone_76 : decode cX10_lone 76 = .ok (.iinc 2 1, 3) := by decide +kernel
theorem dX10_lone_79 : decode cX10_lone 79 = .ok (.goto (-65), 3) := by decide +kernel
theorem dX10_lone_82 : decode cX10_lone 82 = .ok (.iload_n 1, 1) := by decide +kernel
theorem dX10_lone_83 : decode cX10_lone 83 = .ok (.ireturn, 1) := by decide +kernel
set_option maxRecDepth 20000 in
theorem ggX10_isKept_X10_inviteOf : GoodIn wsX10_isKept wsX10_inviteOf := goodIn_r _ [5, 6, 47, 48, 49, 50, 51, 52, 53, 54, 55, 56, 57, 58, 59, 60, 61, 62, 63, 64, 65, 66, 67, 68, 69, 70, 71, 72, 73, 74, 75, 76, 77, 78, 79, 80, 81, 82, 83, 84, 85, 86, 87, 88, 89, 90, 91] (by decide +kernel) (by decide +kernel)
set_option maxRecDepth 20000 in
theorem gX10_isKept_X10_inviteOf : GoodIn wsX10_isKept (wsV RX10 243 RX10 yX10_inviteOf wsX10_inviteOf) := goodIn_app (goodIn_of _ (by decide +kernel)) ggX10_isKept_X10_inviteOf
set_option maxRecDepth 20000 in
theorem ggX10_isKept_X10_isYear : GoodIn wsX10_isKept wsX10_isYear := goodIn_r _ [10, 6, 11, 12, 4, 13, 47, 48, 49, 50, 51, 52, 53, 54, 55, 56, 57, 58, 59, 60, 61, 62, 63, 64, 65, 66, 67, 68, 69, 70, 71, 72, 73, 74, 75, 76, 77, 78, 79, 80, 81, 82, 83, 84, 85, 86, 87, 88, 89, 90, 91] (by decide +kernel) (by decide +kernel)
set_option maxRecDepth 20000 in
theorem gX10_isKept_X10_isYear : GoodIn wsX10_isKept (wsV RX10 288 RX10 yX10_isYear wsX10_isYear) := goodIn_app (goodIn_of _ (by decide +kernel)) ggX10_isKept_X10_isYear
set_option maxRecDepth 20000 in
theorem ggX10_isKept_X10_doesCome : GoodIn wsX10_isKept wsX10_doesCome := goodIn_r _ [17, 18, 19, 20, 4, 21, 22, 23, 24, 25, 26, 27, 28, 29, 30, 31, 32, 33, 34, 35, 36, 37, 38, 39, 40, 41, 6, 42, 43, 44, 45, 46, 47, 48, 49, 50, 51, 52, 53, 54, 55, 56, 57, 58, 59, 60, 61, 62, 63, 64, 65, 66, 67, 68, 69, 70, 71, 72, 73, 74, 75, 76, 77, 78, 79, 80, 81, 82, 83, 84, 85, 86, 87, 88, 89, 90, 91] (by decide +kernel) (by decide +kernel)
set_option maxRecDepth 20000 in
theorem gX10_isKept_X10_doesCome : GoodIn wsX10_isKept (wsV RX10 307 RX10 yX10_doesCome wsX10_doesCome) := goodIn_app (goodIn_of _ (by decide +kernel)) ggX10_isKept_X10_doesCome
theorem dX10_isKept_0 : decode cX10_isKept 0 = .ok (.aload_n 0, 1) := by decide +kernel
theorem dX10_isKept_1 : decode cX10_isKept 1 = .ok (.aload_n 0, 1) := by decide +kernel
theorem dX10_isKept_2 : decode cX10_isKept 2 = .ok (.iload_n 1, 1) := by decide +kernel
theorem dX10_isKept_3 : decode cX10_isKept 3 = .ok (.iconst 2, 1) := by decide +kernel
theorem dX10_isKept_4 : decode cX10_isKept 4 = .ok (.invokevirtual 243, 3) := by decide +kernel
theorem dX10_isKept_7 : decode cX10_isKept 7 = .ok (.i2l, 1) := by decide +kernel
theorem dX10_isKept_8 : decode cX10_isKept 8 = .ok (.invokevirtual 288, 3) := by decide +kernel
theorem dX10_isKept_11 : decode cX10_isKept 11 = .ok (.ifCond .eq 32, 3) := by decide +kernel
theorem dX10_isKept_14 : decode cX10_isKept 14 = .ok (.aload_n 0, 1) := by decide +kernel
theorem dX10_isKept_15 : decode cX10_isKept 15 = .ok (.aload_n 0, 1) := by decide +kernel
theorem dX10_isKept_16 : decode cX10_isKept 16 = .ok (.iload_n 1, 1) := by decide +kernel
theorem dX10_isKept_17 : decode cX10_isKept 17 = .ok (.iconst 0, 1) := by decide +kernel
theorem dX10_isKept_18 : decode cX10_isKept 18 = .ok (.invokevirtual 243, 3) := by decide +kernel
theorem dX10_isKept_21 : decode cX10_isKept 21 = .ok (.aload_n 0, 1) := by decide +kernel
theorem dX10_isKept_22 : decode cX10_isKept 22 = .ok (.iload_n 1, 1) := by decide +kernel
theorem dX10_isKept_23 : decode cX10_isKept 23 = .ok (.iconst 1, 1) := by decide +kernel
theorem dX10_isKept_24 : decode cX10_isKept 24 = .ok (.invokevirtual 243, 3) := by decide +kernel
theorem dX10_isKept_27 : decode cX10_isKept 27 = .ok (.aload_n 0, 1) := by decide +kernel
theorem dX10_isKept_28 : decode cX10_isKept 28 = .ok (.iload_n 1, 1) := by decide +kernel
theorem dX10_isKept_29 : decode cX10_isKept 29 = .ok (.iconst 2, 1) := by decide +kernel
theorem dX10_isKept_30 : decode cX10_isKept 30 = .ok (.invokevirtual 243, 3) := by decide +kernel
theorem dX10_isKept_33 : decode cX10_isKept 33 = .ok (.invokevirtual 307, 3) := by decide +kernel
theorem dX10_isKept_36 : decode cX10_isKept 36 = .ok (.ifCond .eq 7, 3) := by decide +kernel
theorem dX10_isKept_39 : decode cX10_isKept 39 = .ok (.iconst 1, 1) := by decide +kernel
theorem dX10_isKept_40 : decode cX10_isKept 40 = .ok (.goto 4, 3) := by decide +kernel
theorem dX10_isKept_43 : decode cX10_isKept 43 = .ok (.iconst 0, 1) := by decide +kernel
theorem dX10_isKept_44 : decode cX10_isKept 44 = .ok (.ireturn, 1) := by decide +kernel
set_option maxRecDepth 20000 in
theorem ggX10_keptSet_X10_isKept : GoodIn wsX10_keptSet wsX10_isKept := goodIn_r _ [6, 7, 8, 9, 5, 10, 1, 11, 12, 13, 14, 15, 16, 17, 18, 19, 20, 21, 22, 23, 24, 25, 26, 27, 28, 29, 30, 31, 32, 33, 34, 35, 36, 37, 38, 39, 40, 41, 42, 43, 44, 45, 46, 47, 48, 49, 50, 51, 52, 53, 54, 55, 56, 57, 58, 59, 60, 61, 62, 63, 64, 65, 66, 67, 68, 69, 70, 71, 72, 73, 74, 75, 76, 77, 78, 79, 80, 81, 82, 83, 84, 85, 86, 87, 88, 89, 90, 91, 92, 93, 94, 95] (by decide +kernel) (by decide +kernel)
set_option maxRecDepth 20000 in
theorem gX10_keptSet_X10_isKept : GoodIn wsX10_keptSet (wsV RX10 331 RX10 yX10_isKept wsX10_isKept) := goodIn_app (goodIn_of _ (by decide +kernel)) ggX10_keptSet_X10_isKept
theorem dX10_keptSet_0 : decode cX10_keptSet 0 = .ok (.iconst 0, 1) := by decide +kernel
theorem dX10_keptSet_1 : decode cX10_keptSet 1 = .ok (.istore_n 1, 1) := by decide +kernel
theorem dX10_keptSet_2 : decode cX10_keptSet 2 = .ok (.iconst 0, 1) := by decide +kernel
theorem dX10_keptSet_3 : decode cX10_keptSet 3 = .ok (.istore_n 2, 1) := by decide +kernel
theorem dX10_keptSet_4 : decode cX10_keptSet 4 = .ok (.iload_n 2, 1) := by decide +kernel
theorem dX10_keptSet_5 : decode cX10_keptSet 5 = .ok (.aload_n 0, 1) := by decide +kernel
theorem dX10_keptSet_6 : decode cX10_keptSet 6 = .ok (.getfield 9, 3) := by decide +kernel
theorem dX10_keptSet_9 : decode cX10_keptSet 9 = .ok (.bipush 7, 2) := by decide +kernel
theorem dX10_keptSet_11 : decode cX10_keptSet 11 = .ok (.iaload, 1) := by decide +kernel
theorem dX10_keptSet_12 : decode cX10_keptSet 12 = .ok (.if_icmp .ge 27, 3) := by decide +kernel
theorem dX10_keptSet_15 : decode cX10_keptSet 15 = .ok (.iload_n 1, 1) := by decide +kernel
theorem dX10_keptSet_16 : decode cX10_keptSet 16 = .ok (.aload_n 0, 1) := by decide +kernel
theorem dX10_keptSet_17 : decode cX10_keptSet 17 = .ok (.iload_n 2, 1) := by decide +kernel
theorem dX10_keptSet_18 : decode cX10_keptSet 18 = .ok (.invokevirtual 331, 3) := by decide +kernel
theorem dX10_keptSet_21 : decode cX10_keptSet 21 = .ok (.ifCond .eq 9, 3) := by decide +kernel
theorem dX10_keptSet_24 : decode cX10_keptSet 24 = .ok (.iconst 1, 1) := by decide +kernel
theorem dX10_keptSet_25 : decode cX10_keptSet 25 = .ok (.iload_n 2, 1) := by decide +kernel
theorem dX10_keptSet_26 : decode cX10_keptSet 26 = .ok (.ishl, 1) := by decide +kernel
theorem dX10_keptSet_27 : decode cX10_keptSet 27 = .ok (.goto 4, 3) := by decide +kernel
theorem dX10_keptSet_30 : decode cX10_keptSet 30 = .ok (.iconst 0, 1) := by decide +kernel
theorem dX10_keptSet_31 : decode cX10_keptSet 31 = .ok (.ior, 1) := by decide +kernel
theorem dX10_keptSet_32 : decode cX10_keptSet 32 = .ok (.istore_n 1, 1) := by decide +kernel
theorem dX10_keptSet_33 : decode cX10_keptSet 33 = .ok (.iinc 2 1, 3) := by decide +kernel
theorem dX10_keptSet_36 : decode cX10_keptSet 36 = .ok (.goto (-32), 3) := by decide +kernel
theorem dX10_keptSet_39 : decode cX10_keptSet 39 = .ok (.iload_n 1, 1) := by decide +kernel
theorem dX10_keptSet_40 : decode cX10_keptSet 40 = .ok (.ireturn, 1) := by decide +kernel
set_option maxRecDepth 20000 in
theorem ggX10_keptMany_X10_keptSet : GoodIn wsX10_keptMany wsX10_keptSet := goodIn_r _ [5, 6, 7, 8, 9, 4, 10, 11, 12, 13, 14, 15, 16, 17, 18, 19, 20, 21, 22, 23, 24, 25, 26, 27, 28, 29, 30, 31, 32, 33, 34, 35, 36, 37, 38, 39, 40, 41, 42, 43, 44, 45, 46, 47, 48, 49, 50, 51, 52, 53, 54, 58, 59, 60, 61, 62, 63, 64, 65, 66, 67, 68, 69, 70, 71, 72, 73, 74, 75, 76, 77, 78, 79, 80, 81, 82, 83, 84, 85, 86, 87, 88, 89, 90, 91, 92, 93, 94, 95, 96, 97, 98, 99, 100, 101, 102] (by decide +kernel) (by decide +kernel)
set_option maxRecDepth 20000 in
theorem gX10_keptMany_X10_keptSet : GoodIn wsX10_keptMany (wsV RX10 334 RX10 yX10_keptSet wsX10_keptSet) := goodIn_app (goodIn_of _ (by decide +kernel)) ggX10_keptMany_X10_keptSet
set_option maxRecDepth 20000 in
theorem ggX10_keptMany_X10_bits : GoodIn wsX10_keptMany wsX10_bits := goodIn_r _ [57] (by decide +kernel) (by decide +kernel)
set_option maxRecDepth 20000 in
theorem gX10_keptMany_X10_bits : GoodIn wsX10_keptMany (va_wsS RX10 337 yX10_bits wsX10_bits) := goodIn_app (goodIn_of _ (by decide +kernel)) ggX10_keptMany_X10_bits
theorem dX10_keptMany_0 : decode cX10_keptMany 0 = .ok (.aload_n 0, 1) := by decide +kernel
theorem dX10_keptMany_1 : decode cX10_keptMany 1 = .ok (.invokevirtual 334, 3) := by decide +kernel
theorem dX10_keptMany_4 : decode cX10_keptMany 4 = .ok (.invokestatic 337, 3) := by decide +kernel
theorem dX10_keptMany_7 : decode cX10_keptMany 7 = .ok (.ireturn, 1) := by decide +kernel
set_option maxRecDepth 20000 in
theorem ggX10_kept_X10_asksDukedom : GoodIn wsX10_kept wsX10_asksDukedom := goodIn_r _ [5, 6, 7, 8, 4, 9, 10, 11, 12, 13, 14, 15, 16, 17, 18, 19, 20, 21, 22, 23, 24, 25, 26, 27, 28, 29, 30, 31, 32, 33, 34, 35, 36, 37, 38, 39, 40, 41, 42, 43, 44, 45, 46, 47, 48, 49, 50, 51, 52, 53, 54, 55, 56, 57, 58, 59, 60, 61, 62, 63, 64, 65, 66, 67, 68, 69, 70, 103, 104, 105, 106, 107, 108, 109, 110, 111, 112, 113, 114, 115, 116, 117, 118, 119, 120, 121, 122, 123, 124, 125, 126, 127, 128, 129, 130, 131, 132, 133, 134, 135, 136, 137, 138, 139, 140, 141, 142, 143, 144, 145, 146, 147] (by decide +kernel) (by decide +kernel)
set_option maxRecDepth 20000 in
theorem gX10_kept_X10_asksDukedom : GoodIn wsX10_kept (wsV RX10 285 RX10 yX10_asksDukedom wsX10_asksDukedom) := goodIn_app (goodIn_of _ (by decide +kernel)) ggX10_kept_X10_asksDukedom
set_option maxRecDepth 20000 in
theorem ggX10_kept_X10_isInvite : GoodIn wsX10_kept wsX10_isInvite := goodIn_r _ [74, 10, 64, 65, 4, 66, 103, 104, 105, 106, 107, 108, 109, 110, 111, 112, 113, 114, 115, 116, 117, 118, 119, 120, 121, 122, 123, 124, 125, 126, 127, 128, 129, 130, 131, 132, 133, 134, 135, 136, 137, 138, 139, 140, 141, 142, 143, 144, 145, 146, 147] (by decide +kernel) (by decide +kernel)
set_option maxRecDepth 20000 in
theorem gX10_kept_X10_isInvite : GoodIn wsX10_kept (wsV RX10 239 RX10 yX10_isInvite wsX10_isInvite) := goodIn_app (goodIn_of _ (by decide +kernel)) ggX10_kept_X10_isInvite
set_option maxRecDepth 20000 in
theorem ggX10_kept_X10_isKept : GoodIn wsX10_kept wsX10_isKept := goodIn_r _ [78, 79, 80, 81, 4, 82, 10, 83, 84, 85, 86, 64, 65, 66, 87, 88, 89, 90, 91, 92, 93, 94, 16, 12, 52, 53, 54, 55, 13, 56, 57, 58, 95, 96, 97, 98, 47, 99, 100, 101, 102, 17, 18, 25, 26, 27, 28, 103, 104, 105, 106, 107, 108, 109, 110, 111, 112, 113, 114, 115, 116, 117, 118, 119, 120, 121, 122, 123, 124, 125, 126, 127, 128, 129, 130, 131, 132, 133, 134, 135, 136, 137, 138, 139, 140, 141, 142, 143, 144, 145, 146, 147] (by decide +kernel) (by decide +kernel)
set_option maxRecDepth 20000 in
theorem gX10_kept_X10_isKept : GoodIn wsX10_kept (wsV RX10 331 RX10 yX10_isKept wsX10_isKept) := goodIn_app (goodIn_of _ (by decide +kernel)) ggX10_kept_X10_isKept
theorem dX10_kept_0 : decode cX10_kept 0 = .ok (.aload_n 0, 1) := by decide +kernel
theorem dX10_kept_1 : decode cX10_kept 1 = .ok (.invokevirtual 285, 3) := by decide +kernel
theorem dX10_kept_4 : decode cX10_kept 4 = .ok (.pop, 1) := by decide +kernel
theorem dX10_kept_5 : decode cX10_kept 5 = .ok (.aload_n 0, 1) := by decide +kernel
theorem dX10_kept_6 : decode cX10_kept 6 = .ok (.iload_n 1, 1) := by decide +kernel
theorem dX10_kept_7 : decode cX10_kept 7 = .ok (.invokevirtual 239, 3) := by decide +kernel
theorem dX10_kept_10 : decode cX10_kept 10 = .ok (.ifCond .eq 19, 3) := by decide +kernel
theorem dX10_kept_13 : decode cX10_kept 13 = .ok (.aload_n 0, 1) := by decide +kernel
theorem dX10_kept_14 : decode cX10_kept 14 = .ok (.iload_n 1, 1) := by decide +kernel
theorem dX10_kept_15 : decode cX10_kept 15 = .ok (.invokevirtual 331, 3) := by decide +kernel
theorem dX10_kept_18 : decode cX10_kept 18 = .ok (.ifCond .eq 7, 3) := by decide +kernel
theorem dX10_kept_21 : decode cX10_kept 21 = .ok (.iconst 1, 1) := by decide +kernel
theorem dX10_kept_22 : decode cX10_kept 22 = .ok (.goto 9, 3) := by decide +kernel
theorem dX10_kept_25 : decode cX10_kept 25 = .ok (.iconst 0, 1) := by decide +kernel
theorem dX10_kept_26 : decode cX10_kept 26 = .ok (.goto 5, 3) := by decide +kernel
theorem dX10_kept_29 : decode cX10_kept 29 = .ok (.bipush (-2), 2) := by decide +kernel
theorem dX10_kept_31 : decode cX10_kept 31 = .ok (.ireturn, 1) := by decide +kernel
set_option maxRecDepth 20000 in
theorem ggX10_keeps_X10_asksDukedom : GoodIn wsX10_keeps wsX10_asksDukedom := goodIn_r _ [5, 6, 7, 8, 4, 9, 10, 11, 12, 13, 14, 15, 16, 17, 18, 19, 20, 21, 22, 23, 24, 25, 26, 27, 28, 29, 30, 31, 32, 33, 34, 35, 36, 37, 38, 39, 40, 41, 42, 43, 44, 45, 46, 47, 48, 49, 50, 51, 52, 53, 54, 55, 56, 57, 58, 59, 60, 61, 62, 63, 64, 65, 66, 67, 68, 69, 70, 103, 104, 105, 106, 107, 108, 109, 110, 111, 112, 113, 114, 115, 116, 117, 118, 119, 120, 121, 122, 123, 124, 125, 126, 127, 128, 129, 130, 131, 132, 133, 134, 135, 136, 137, 138, 139, 140, 141, 142, 143, 144, 145, 146, 147] (by decide +kernel) (by decide +kernel)
set_option maxRecDepth 20000 in
theorem gX10_keeps_X10_asksDukedom : GoodIn wsX10_keeps (wsV RX10 285 RX10 yX10_asksDukedom wsX10_asksDukedom) := goodIn_app (goodIn_of _ (by decide +kernel)) ggX10_keeps_X10_asksDukedom
set_option maxRecDepth 20000 in
theorem ggX10_keeps_X10_keptSet : GoodIn wsX10_keeps wsX10_keptSet := goodIn_r _ [74, 10, 75, 76, 77, 4, 78, 79, 80, 81, 82, 83, 84, 85, 86, 64, 65, 66, 87, 88, 89, 90, 91, 92, 93, 94, 16, 12, 52, 53, 54, 55, 13, 56, 57, 58, 95, 96, 97, 98, 47, 99, 100, 101, 102, 17, 18, 25, 26, 27, 28, 103, 104, 105, 106, 107, 108, 109, 110, 111, 112, 113, 114, 115, 116, 117, 118, 119, 120, 121, 122, 123, 124, 125, 126, 127, 128, 129, 130, 131, 132, 133, 134, 135, 136, 137, 138, 139, 140, 141, 142, 143, 144, 145, 146, 147] (by decide +kernel) (by decide +kernel)
set_option maxRecDepth 20000 in
theorem gX10_keeps_X10_keptSet : GoodIn wsX10_keeps (wsV RX10 334 RX10 yX10_keptSet wsX10_keptSet) := goodIn_app (goodIn_of _ (by decide +kernel)) ggX10_keeps_X10_keptSet
theorem dX10_keeps_0 : decode cX10_keeps 0 = .ok (.aload_n 0, 1) := by decide +kernel
theorem dX10_keeps_1 : decode cX10_keeps 1 = .ok (.invokevirtual 285, 3) := by decide +kernel
theorem dX10_keeps_4 : decode cX10_keeps 4 = .ok (.ifCond .eq 10, 3) := by decide +kernel
theorem dX10_keeps_7 : decode cX10_keeps 7 = .ok (.aload_n 0, 1) := by decide +kernel
theorem dX10_keeps_8 : decode cX10_keeps 8 = .ok (.invokevirtual 334, 3) := by decide +kernel
theorem dX10_keeps_11 : decode cX10_keeps 11 = .ok (.goto 5, 3) := by decide +kernel
theorem dX10_keeps_14 : decode cX10_keeps 14 = .ok (.bipush (-2), 2) := by decide +kernel
theorem dX10_keeps_16 : decode cX10_keeps 16 = .ok (.ireturn, 1) := by decide +kernel
set_option maxRecDepth 20000 in
theorem ggX10_hinders_X10_asksDukedom : GoodIn wsX10_hinders wsX10_asksDukedom := goodIn_r _ [5, 6, 7, 8, 4, 9, 10, 11, 12, 13, 14, 15, 16, 17, 18, 19, 20, 21, 22, 23, 24, 25, 26, 27, 28, 29, 30, 31, 32, 33, 34, 35, 36, 37, 38, 39, 40, 41, 42, 43, 44, 45, 46, 47, 48, 49, 50, 51, 52, 53, 54, 55, 56, 57, 58, 59, 60, 61, 62, 63, 64, 65, 66, 67, 68, 69, 70, 95, 96, 97, 98, 99, 100, 101, 102, 103, 104, 105, 106, 107, 108, 109, 110, 111, 112, 113, 114, 115, 116, 117, 118, 119, 120, 121, 122, 123, 124, 125, 126, 127, 128, 129, 130, 131, 132, 133, 134, 135, 136, 137, 138, 139] (by decide +kernel) (by decide +kernel)
set_option maxRecDepth 20000 in
theorem gX10_hinders_X10_asksDukedom : GoodIn wsX10_hinders (wsV RX10 285 RX10 yX10_asksDukedom wsX10_asksDukedom) := goodIn_app (goodIn_of _ (by decide +kernel)) ggX10_hinders_X10_asksDukedom
set_option maxRecDepth 20000 in
theorem ggX10_hinders_X10_isInvite : GoodIn wsX10_hinders wsX10_isInvite := goodIn_r _ [74, 10, 64, 65, 4, 66, 95, 96, 97, 98, 99, 100, 101, 102, 103, 104, 105, 106, 107, 108, 109, 110, 111, 112, 113, 114, 115, 116, 117, 118, 119, 120, 121, 122, 123, 124, 125, 126, 127, 128, 129, 130, 131, 132, 133, 134, 135, 136, 137, 138, 139] (by decide +kernel) (by decide +kernel)
set_option maxRecDepth 20000 in
theorem gX10_hinders_X10_isInvite : GoodIn wsX10_hinders (wsV RX10 239 RX10 yX10_isInvite wsX10_isInvite) := goodIn_app (goodIn_of _ (by decide +kernel)) ggX10_hinders_X10_isInvite
set_option maxRecDepth 20000 in
theorem ggX10_hinders_X10_inviteOf : GoodIn wsX10_hinders wsX10_inviteOf := goodIn_r _ [78, 10, 95, 96, 97, 98, 99, 100, 101, 102, 103, 104, 105, 106, 107, 108, 109, 110, 111, 112, 113, 114, 115, 116, 117, 118, 119, 120, 121, 122, 123, 124, 125, 126, 127, 128, 129, 130, 131, 132, 133, 134, 135, 136, 137, 138, 139] (by decide +kernel) (by decide +kernel)
set_option maxRecDepth 20000 in
theorem gX10_hinders_X10_inviteOf : GoodIn wsX10_hinders (wsV RX10 243 RX10 yX10_inviteOf wsX10_inviteOf) := goodIn_app (goodIn_of _ (by decide +kernel)) ggX10_hinders_X10_inviteOf
set_option maxRecDepth 20000 in
theorem ggX10_hinders_X10_isYear : GoodIn wsX10_hinders wsX10_isYear := goodIn_r _ [82, 10, 64, 65, 4, 66, 95, 96, 97, 98, 99, 100, 101, 102, 103, 104, 105, 106, 107, 108, 109, 110, 111, 112, 113, 114, 115, 116, 117, 118, 119, 120, 121, 122, 123, 124, 125, 126, 127, 128, 129, 130, 131, 132, 133, 134, 135, 136, 137, 138, 139] (by decide +kernel) (by decide +kernel)
set_option maxRecDepth 20000 in
theorem gX10_hinders_X10_isYear : GoodIn wsX10_hinders (wsV RX10 288 RX10 yX10_isYear wsX10_isYear) := goodIn_app (goodIn_of _ (by decide +kernel)) ggX10_hinders_X10_isYear
set_option maxRecDepth 20000 in
theorem ggX10_hinders_X10_doesFord : GoodIn wsX10_hinders wsX10_doesFord := goodIn_r _ [86, 16, 12, 52, 53, 54, 4, 55, 13, 56, 57, 58, 87, 88, 89, 90, 47, 91, 92, 93, 94, 17, 10, 18, 25, 26, 27, 28, 95, 96, 97, 98, 99, 100, 101, 102, 103, 104, 105, 106, 107, 108, 109, 110, 111, 112, 113, 114, 115, 116, 117, 118, 119, 120, 121, 122, 123, 124, 125, 126, 127, 128, 129, 130, 131, 132, 133, 134, 135, 136, 137, 138, 139] (by decide +kernel) (by decide +kernel)
set_option maxRecDepth 20000 in
theorem gX10_hinders_X10_doesFord : GoodIn wsX10_hinders (wsV RX10 303 RX10 yX10_doesFord wsX10_doesFord) := goodIn_app (goodIn_of _ (by decide +kernel)) ggX10_hinders_X10_doesFord
theorem dX10_hinders_0 : decode cX10_hinders 0 = .ok (.aload_n 0, 1) := by decide +kernel
theorem dX10_hinders_1 : decode cX10_hinders 1 = .ok (.invokevirtual 285, 3) := by decide +kernel
theorem dX10_hinders_4 : decode cX10_hinders 4 = .ok (.pop, 1) := by decide +kernel
theorem dX10_hinders_5 : decode cX10_hinders 5 = .ok (.aload_n 0, 1) := by decide +kernel
theorem dX10_hinders_6 : decode cX10_hinders 6 = .ok (.iload_n 1, 1) := by decide +kernel
theorem dX10_hinders_7 : decode cX10_hinders 7 = .ok (.invokevirtual 239, 3) := by decide +kernel
theorem dX10_hinders_10 : decode cX10_hinders 10 = .ok (.ifCond .ne 6, 3) := by decide +kernel
theorem dX10_hinders_13 : decode cX10_hinders 13 = .ok (.bipush (-2), 2) := by decide +kernel
theorem dX10_hinders_15 : decode cX10_hinders 15 = .ok (.ireturn, 1) := by decide +kernel
theorem dX10_hinders_16 : decode cX10_hinders 16 = .ok (.aload_n 0, 1) := by decide +kernel
theorem dX10_hinders_17 : decode cX10_hinders 17 = .ok (.aload_n 0, 1) := by decide +kernel
theorem dX10_hinders_18 : decode cX10_hinders 18 = .ok (.iload_n 1, 1) := by decide +kernel
theorem dX10_hinders_19 : decode cX10_hinders 19 = .ok (.iconst 2, 1) := by decide +kernel
theorem dX10_hinders_20 : decode cX10_hinders 20 = .ok (.invokevirtual 243, 3) := by decide +kernel
theorem dX10_hinders_23 : decode cX10_hinders 23 = .ok (.i2l, 1) := by decide +kernel
theorem dX10_hinders_24 : decode cX10_hinders 24 = .ok (.invokevirtual 288, 3) := by decide +kernel
theorem dX10_hinders_27 : decode cX10_hinders 27 = .ok (.ifCond .ne 5, 3) := by decide +kernel
theorem dX10_hinders_30 : decode cX10_hinders 30 = .ok (.iconst 0, 1) := by decide +kernel
theorem dX10_hinders_31 : decode cX10_hinders 31 = .ok (.ireturn, 1) := by decide +kernel
theorem dX10_hinders_32 : decode cX10_hinders 32 = .ok (.aload_n 0, 1) := by decide +kernel
theorem dX10_hinders_33 : decode cX10_hinders 33 = .ok (.iload_n 1, 1) := by decide +kernel
theorem dX10_hinders_34 : decode cX10_hinders 34 = .ok (.iconst 0, 1) := by decide +kernel
theorem dX10_hinders_35 : decode cX10_hinders 35 = .ok (.invokevirtual 243, 3) := by decide +kernel
theorem dX10_hinders_38 : decode cX10_hinders 38 = .ok (.istore_n 2, 1) := by decide +kernel
theorem dX10_hinders_39 : decode cX10_hinders 39 = .ok (.aload_n 0, 1) := by decide +kernel
theorem dX10_hinders_40 : decode cX10_hinders 40 = .ok (.iload_n 1, 1) := by decide +kernel
theorem dX10_hinders_41 : decode cX10_hinders 41 = .ok (.iconst 1, 1) := by decide +kernel
theorem dX10_hinders_42 : decode cX10_hinders 42 = .ok (.invokevirtual 243, 3) := by decide +kernel
theorem dX10_hinders_45 : decode cX10_hinders 45 = .ok (.istore_n 3, 1) := by decide +kernel
theorem dX10_hinders_46 : decode cX10_hinders 46 = .ok (.aload_n 0, 1) := by decide +kernel
theorem dX10_hinders_47 : decode cX10_hinders 47 = .ok (.iload_n 2, 1) := by decide +kernel
theorem dX10_hinders_48 : decode cX10_hinders 48 = .ok (.iload_n 2, 1) := by decide +kernel
theorem dX10_hinders_49 : decode cX10_hinders 49 = .ok (.aload_n 0, 1) := by decide +kernel
theorem dX10_hinders_50 : decode cX10_hinders 50 = .ok (.iload_n 1, 1) := by decide +kernel
theorem dX10_hinders_51 : decode cX10_hinders 51 = .ok (.iconst 2, 1) := by decide +kernel
theorem dX10_hinders_52 : decode cX10_hinders 52 = .ok (.invokevirtual 243, 3) := by decide +kernel
theorem dX10_hinders_55 : decode cX10_hinders 55 = .ok (.invokevirtual 303, 3) := by decide +kernel
theorem dX10_hinders_58 : decode cX10_hinders 58 = .ok (.ifCond .eq 7, 3) := by decide +kernel
theorem dX10_hinders_61 : decode cX10_hinders 61 = .ok (.iconst 0, 1) := by decide +kernel
theorem dX10_hinders_62 : decode cX10_hinders 62 = .ok (.goto 6, 3) := by decide +kernel
theorem dX10_hinders_65 : decode cX10_hinders 65 = .ok (.iconst 1, 1) := by decide +kernel
theorem dX10_hinders_66 : decode cX10_hinders 66 = .ok (.iload_n 2, 1) := by decide +kernel
theorem dX10_hinders_67 : decode cX10_hinders 67 = .ok (.ishl, 1) := by decide +kernel
theorem dX10_hinders_68 : decode cX10_hinders 68 = .ok (.aload_n 0, 1) := by decide +kernel
theorem dX10_hinders_69 : decode cX10_hinders 69 = .ok (.iload_n 2, 1) := by decide +kernel
theorem dX10_hinders_70 : decode cX10_hinders 70 = .ok (.iload_n 3, 1) := by decide +kernel
theorem dX10_hinders_71 : decode cX10_hinders 71 = .ok (.aload_n 0, 1) := by decide +kernel
theorem dX10_hinders_72 : decode cX10_hinders 72 = .ok (.iload_n 1, 1) := by decide +kernel
theorem dX10_hinders_73 : decode cX10_hinders 73 = .ok (.iconst 2, 1) := by decide +kernel
theorem dX10_hinders_74 : decode cX10_hinders 74 = .ok (.invokevirtual 243, 3) := by decide +kernel
theorem dX10_hinders_77 : decode cX10_hinders 77 = .ok (.invokevirtual 303, 3) := by decide +kernel
theorem dX10_hinders_80 : decode cX10_hinders 80 = .ok (.ifCond .eq 7, 3) := by decide +kernel
theorem dX10_hinders_83 : decode cX10_hinders 83 = .ok (.iconst 0, 1) := by decide +kernel
theorem dX10_hinders_84 : decode cX10_hinders 84 = .ok (.goto 6, 3) := by decide +kernel
theorem dX10_hinders_87 : decode cX10_hinders 87 = .ok (.iconst 1, 1) := by decide +kernel
theorem dX10_hinders_88 : decode cX10_hinders 88 = .ok (.iload_n 3, 1) := by decide +kernel
theorem dX10_hinders_89 : decode cX10_hinders 89 = .ok (.ishl, 1) := by decide +kernel
theorem dX10_hinders_90 : decode cX10_hinders 90 = .ok (.ior, 1) := by decide +kernel
theorem dX10_hinders_91 : decode cX10_hinders 91 = .ok (.ireturn, 1) := by decide +kernel
set_option maxRecDepth 20000 in
theorem ggX10_keptOf_X10_inviteOf : GoodIn wsX10_keptOf wsX10_inviteOf := goodIn_r _ [6, 1, 51, 52, 53, 54, 55, 56, 57, 58, 59, 60, 61, 62, 63, 64, 65, 66, 67, 68, 69, 70, 71, 72, 73, 74, 75, 76, 77, 78, 79, 80, 81, 82, 83, 84, 85, 86, 87, 88, 89, 90, 91, 92, 93, 94, 95] (by decide +kernel) (by decide +kernel)
set_option maxRecDepth 20000 in
theorem gX10_keptOf_X10_inviteOf : GoodIn wsX10_keptOf (wsV RX10 243 RX10 yX10_inviteOf wsX10_inviteOf) := goodIn_app (goodIn_of _ (by decide +kernel)) ggX10_keptOf_X10_inviteOf
set_option maxRecDepth 20000 in
theorem ggX10_keptOf_X10_isKept : GoodIn wsX10_keptOf wsX10_isKept := goodIn_r _ [10, 2, 3, 4, 5, 6, 1, 11, 12, 13, 14, 15, 16, 17, 18, 19, 20, 21, 22, 23, 24, 25, 26, 27, 28, 29, 30, 31, 32, 33, 34, 35, 36, 37, 38, 39, 40, 41, 42, 43, 44, 45, 46, 47, 48, 49, 50, 51, 52, 53, 54, 55, 56, 57, 58, 59, 60, 61, 62, 63, 64, 65, 66, 67, 68, 69, 70, 71, 72, 73, 74, 75, 76, 77, 78, 79, 80, 81, 82, 83, 84, 85, 86, 87, 88, 89, 90, 91, 92, 93, 94, 95] (by decide +kernel) (by decide +kernel)
set_option maxRecDepth 20000 in
theorem gX10_keptOf_X10_isKept : GoodIn wsX10_keptOf (wsV RX10 331 RX10 yX10_isKept wsX10_isKept) := goodIn_app (goodIn_of _ (by decide +kernel)) ggX10_keptOf_X10_isKept
theorem dX10_keptOf_0 : decode cX10_keptOf 0 = .ok (.iconst 0, 1) := by decide +kernel
theorem dX10_keptOf_1 : decode cX10_keptOf 1 = .ok (.istore_n 3, 1) := by decide +kernel
theorem dX10_keptOf_2 : decode cX10_keptOf 2 = .ok (.iconst 0, 1) := by decide +kernel
theorem dX10_keptOf_3 : decode cX10_keptOf 3 = .ok (.istore 4, 2) := by decide +kernel
theorem dX10_keptOf_5 : decode cX10_keptOf 5 = .ok (.iload 4, 2) := by decide +kernel
theorem dX10_keptOf_7 : decode cX10_keptOf 7 = .ok (.aload_n 0, 1) := by decide +kernel
theorem dX10_keptOf_8 : decode cX10_keptOf 8 = .ok (.getfield 9, 3) := by decide +kernel
theorem dX10_keptOf_11 : decode cX10_keptOf 11 = .ok (.bipush 7, 2) := by decide +kernel
theorem dX10_keptOf_13 : decode cX10_keptOf 13 = .ok (.iaload, 1) := by decide +kernel
theorem dX10_keptOf_14 : decode cX10_keptOf 14 = .ok (.if_icmp .ge 37, 3) := by decide +kernel
theorem dX10_keptOf_17 : decode cX10_keptOf 17 = .ok (.iload_n 3, 1) := by decide +kernel
theorem dX10_keptOf_18 : decode cX10_keptOf 18 = .ok (.aload_n 0, 1) := by decide +kernel
theorem dX10_keptOf_19 : decode cX10_keptOf 19 = .ok (.iload 4, 2) := by decide +kernel
theorem dX10_keptOf_21 : decode cX10_keptOf 21 = .ok (.iload_n 2, 1) := by decide +kernel
theorem dX10_keptOf_22 : decode cX10_keptOf 22 = .ok (.invokevirtual 243, 3) := by decide +kernel
theorem dX10_keptOf_25 : decode cX10_keptOf 25 = .ok (.iload_n 1, 1) := by decide +kernel
theorem dX10_keptOf_26 : decode cX10_keptOf 26 = .ok (.if_icmp .ne 16, 3) := by decide +kernel
theorem dX10_keptOf_29 : decode cX10_keptOf 29 = .ok (.aload_n 0, 1) := by decide +kernel
theorem dX10_keptOf_30 : decode cX10_keptOf 30 = .ok (.iload 4, 2) := by decide +kernel
theorem dX10_keptOf_32 : decode cX10_keptOf 32 = .ok (.invokevirtual 331, 3) := by decide +kernel
theorem dX10_keptOf_35 : decode cX10_keptOf 35 = .ok (.ifCond .eq 7, 3) := by decide +kernel
theorem dX10_keptOf_38 : decode cX10_keptOf 38 = .ok (.iconst 1, 1) := by decide +kernel
theorem dX10_keptOf_39 : decode cX10_keptOf 39 = .ok (.goto 4, 3) := by decide +kernel
theorem dX10_keptOf_42 : decode cX10_keptOf 42 = .ok (.iconst 0, 1) := by decide +kernel
theorem dX10_keptOf_43 : decode cX10_keptOf 43 = .ok (.iadd, 1) := by decide +kernel
theorem dX10_keptOf_44 : decode cX10_keptOf 44 = .ok (.istore_n 3, 1) := by decide +kernel
theorem dX10_keptOf_45 : decode cX10_keptOf 45 = .ok (.iinc 4 1, 3) := by decide +kernel
theorem dX10_keptOf_48 : decode cX10_keptOf 48 = .ok (.goto (-43), 3) := by decide +kernel
theorem dX10_keptOf_51 : decode cX10_keptOf 51 = .ok (.iload_n 3, 1) := by decide +kernel
theorem dX10_keptOf_52 : decode cX10_keptOf 52 = .ok (.ireturn, 1) := by decide +kernel
set_option maxRecDepth 20000 in
theorem ggX10_hosts_X10_asksRank : GoodIn wsX10_hosts wsX10_asksRank := goodIn_r _ [5, 6, 7, 8, 4, 9, 10, 11, 12, 13, 14, 15, 16, 17, 18, 19, 20, 21, 22, 23, 24, 25, 26, 27, 28, 29, 30, 31, 32, 33, 34, 35, 36, 37, 38, 39, 40, 41, 42, 43, 44, 45, 46, 47, 48, 49, 50, 51, 52, 53, 54, 55, 56, 57, 58, 59, 60, 61, 62, 63, 64, 65, 66, 67, 68, 69, 70, 71, 72, 73, 74, 75, 76, 77, 78, 111, 112, 113, 114, 115, 116, 117, 118, 119, 120, 121, 122, 123, 124, 125, 126, 127, 128, 129, 130, 131, 132, 133, 134, 135, 136, 137, 138, 139, 140, 141, 142, 143, 144, 145, 146, 147, 148, 149, 150, 151, 152, 153, 154, 155] (by decide +kernel) (by decide +kernel)
set_option maxRecDepth 20000 in
theorem gX10_hosts_X10_asksRank : GoodIn wsX10_hosts (wsV RX10 297 RX10 yX10_asksRank wsX10_asksRank) := goodIn_app (goodIn_of _ (by decide +kernel)) ggX10_hosts_X10_asksRank
set_option maxRecDepth 20000 in
theorem ggX10_hosts_X10_keptOf : GoodIn wsX10_hosts wsX10_keptOf := goodIn_r _ [82, 14, 83, 84, 85, 4, 86, 87, 88, 89, 90, 91, 92, 93, 94, 68, 69, 70, 95, 96, 97, 98, 99, 100, 101, 102, 20, 16, 56, 57, 58, 59, 17, 60, 61, 62, 103, 104, 105, 106, 51, 107, 108, 109, 110, 21, 22, 29, 30, 31, 32, 111, 112, 113, 114, 115, 116, 117, 118, 119, 120, 121, 122, 123, 124, 125, 126, 127, 128, 129, 130, 131, 132, 133, 134, 135, 136, 137, 138, 139, 140, 141, 142, 143, 144, 145, 146, 147, 148, 149, 150, 151, 152, 153, 154, 155] (by decide +kernel) (by decide +kernel)
set_option maxRecDepth 20000 in
theorem gX10_hosts_X10_keptOf : GoodIn wsX10_hosts (wsV RX10 340 RX10 yX10_keptOf wsX10_keptOf) := goodIn_app (goodIn_of _ (by decide +kernel)) ggX10_hosts_X10_keptOf
theorem dX10_hosts_0 : decode cX10_hosts 0 = .ok (.aload_n 0, 1) := by decide +kernel
theorem dX10_hosts_1 : decode cX10_hosts 1 = .ok (.iload_n 1, 1) := by decide +kernel
theorem dX10_hosts_2 : decode cX10_hosts 2 = .ok (.invokevirtual 297, 3) := by decide +kernel
theorem dX10_hosts_5 : decode cX10_hosts 5 = .ok (.ifCond .eq 12, 3) := by decide +kernel
theorem dX10_hosts_8 : decode cX10_hosts 8 = .ok (.aload_n 0, 1) := by decide +kernel
theorem dX10_hosts_9 : decode cX10_hosts 9 = .ok (.iload_n 1, 1) := by decide +kernel
theorem dX10_hosts_10 : decode cX10_hosts 10 = .ok (.iconst 1, 1) := by decide +kernel
theorem dX10_hosts_11 : decode cX10_hosts 11 = .ok (.invokevirtual 340, 3) := by decide +kernel
theorem dX10_hosts_14 : decode cX10_hosts 14 = .ok (.goto 5, 3) := by decide +kernel
theorem dX10_hosts_17 : decode cX10_hosts 17 = .ok (.bipush (-2), 2) := by decide +kernel
theorem dX10_hosts_19 : decode cX10_hosts 19 = .ok (.ireturn, 1) := by decide +kernel
set_option maxRecDepth 20000 in
theorem ggX10_goes_X10_asksRank : GoodIn wsX10_goes wsX10_asksRank := goodIn_r _ [5, 6, 7, 8, 4, 9, 10, 11, 12, 13, 14, 15, 16, 17, 18, 19, 20, 21, 22, 23, 24, 25, 26, 27, 28, 29, 30, 31, 32, 33, 34, 35, 36, 37, 38, 39, 40, 41, 42, 43, 44, 45, 46, 47, 48, 49, 50, 51, 52, 53, 54, 55, 56, 57, 58, 59, 60, 61, 62, 63, 64, 65, 66, 67, 68, 69, 70, 71, 72, 73, 74, 75, 76, 77, 78, 111, 112, 113, 114, 115, 116, 117, 118, 119, 120, 121, 122, 123, 124, 125, 126, 127, 128, 129, 130, 131, 132, 133, 134, 135, 136, 137, 138, 139, 140, 141, 142, 143, 144, 145, 146, 147, 148, 149, 150, 151, 152, 153, 154, 155] (by decide +kernel) (by decide +kernel)
set_option maxRecDepth 20000 in
theorem gX10_goes_X10_asksRank : GoodIn wsX10_goes (wsV RX10 297 RX10 yX10_asksRank wsX10_asksRank) := goodIn_app (goodIn_of _ (by decide +kernel)) ggX10_goes_X10_asksRank
set_option maxRecDepth 20000 in
theorem ggX10_goes_X10_keptOf : GoodIn wsX10_goes wsX10_keptOf := goodIn_r _ [82, 14, 83, 84, 85, 4, 86, 87, 88, 89, 90, 91, 92, 93, 94, 68, 69, 70, 95, 96, 97, 98, 99, 100, 101, 102, 20, 16, 56, 57, 58, 59, 17, 60, 61, 62, 103, 104, 105, 106, 51, 107, 108, 109, 110, 21, 22, 29, 30, 31, 32, 111, 112, 113, 114, 115, 116, 117, 118, 119, 120, 121, 122, 123, 124, 125, 126, 127, 128, 129, 130, 131, 132, 133, 134, 135, 136, 137, 138, 139, 140, 141, 142, 143, 144, 145, 146, 147, 148, 149, 150, 151, 152, 153, 154, 155] (by decide +kernel) (by decide +kernel)
set_option maxRecDepth 20000 in
theorem gX10_goes_X10_keptOf : GoodIn wsX10_goes (wsV RX10 340 RX10 yX10_keptOf wsX10_keptOf) := goodIn_app (goodIn_of _ (by decide +kernel)) ggX10_goes_X10_keptOf
theorem dX10_goes_0 : decode cX10_goes 0 = .ok (.aload_n 0, 1) := by decide +kernel
theorem dX10_goes_1 : decode cX10_goes 1 = .ok (.iload_n 1, 1) := by decide +kernel
theorem dX10_goes_2 : decode cX10_goes 2 = .ok (.invokevirtual 297, 3) := by decide +kernel
theorem dX10_goes_5 : decode cX10_goes 5 = .ok (.ifCond .eq 12, 3) := by decide +kernel
theorem dX10_goes_8 : decode cX10_goes 8 = .ok (.aload_n 0, 1) := by decide +kernel
theorem dX10_goes_9 : decode cX10_goes 9 = .ok (.iload_n 1, 1) := by decide +kernel
theorem dX10_goes_10 : decode cX10_goes 10 = .ok (.iconst 0, 1) := by decide +kernel
theorem dX10_goes_11 : decode cX10_goes 11 = .ok (.invokevirtual 340, 3) := by decide +kernel
theorem dX10_goes_14 : decode cX10_goes 14 = .ok (.goto 5, 3) := by decide +kernel
theorem dX10_goes_17 : decode cX10_goes 17 = .ok (.bipush (-2), 2) := by decide +kernel
theorem dX10_goes_19 : decode cX10_goes 19 = .ok (.ireturn, 1) := by decide +kernel
set_option maxRecDepth 20000 in
theorem ggX10_host_X10_asksDukedom : GoodIn wsX10_host wsX10_asksDukedom := goodIn_r _ [5, 6, 7, 8, 4, 9, 10, 11, 12, 13, 14, 15, 16, 17, 18, 19, 20, 21, 22, 23, 24, 25, 26, 27, 28, 29, 30, 31, 32, 33, 34, 35, 36, 37, 38, 39, 40, 41, 42, 43, 44, 45, 46, 47, 48, 49, 50, 51, 52, 53, 54, 55, 56, 57, 58, 59, 60, 61, 62, 63, 64, 65, 66, 67, 68, 69, 70, 103, 104, 105, 106, 107, 108, 109, 110, 111, 112, 113, 114, 115, 116, 117, 118, 119, 120, 121, 122, 123, 124, 125, 126, 127, 128, 129, 130, 131, 132, 133, 134, 135, 136, 137, 138, 139, 140, 141, 142, 143, 144, 145, 146, 147] (by decide +kernel) (by decide +kernel)
set_option maxRecDepth 20000 in
theorem gX10_host_X10_asksDukedom : GoodIn wsX10_host (wsV RX10 285 RX10 yX10_asksDukedom wsX10_asksDukedom) := goodIn_app (goodIn_of _ (by decide +kernel)) ggX10_host_X10_asksDukedom
set_option maxRecDepth 20000 in
theorem ggX10_host_X10_ranks : GoodIn wsX10_host wsX10_ranks := goodIn_r _ [51, 10, 103, 104, 105, 106, 107, 108, 109, 110, 111, 112, 113, 114, 115, 116, 117, 118, 119, 120, 121, 122, 123, 124, 125, 126, 127, 128, 129, 130, 131, 132, 133, 134, 135, 136, 137, 138, 139, 140, 141, 142, 143, 144, 145, 146, 147] (by decide +kernel) (by decide +kernel)
set_option maxRecDepth 20000 in
theorem gX10_host_X10_ranks : GoodIn wsX10_host (wsV RX10 261 RX10 yX10_ranks wsX10_ranks) := goodIn_app (goodIn_of _ (by decide +kernel)) ggX10_host_X10_ranks
set_option maxRecDepth 20000 in
theorem ggX10_host_X10_keptOf : GoodIn wsX10_host wsX10_keptOf := goodIn_r _ [74, 10, 75, 76, 77, 4, 78, 79, 80, 81, 82, 83, 84, 85, 86, 64, 65, 66, 87, 88, 89, 90, 91, 92, 93, 94, 16, 12, 52, 53, 54, 55, 13, 56, 57, 58, 95, 96, 97, 98, 47, 99, 100, 101, 102, 17, 18, 25, 26, 27, 28, 103, 104, 105, 106, 107, 108, 109, 110, 111, 112, 113, 114, 115, 116, 117, 118, 119, 120, 121, 122, 123, 124, 125, 126, 127, 128, 129, 130, 131, 132, 133, 134, 135, 136, 137, 138, 139, 140, 141, 142, 143, 144, 145, 146, 147] (by decide +kernel) (by decide +kernel)
set_option maxRecDepth 20000 in
theorem gX10_host_X10_keptOf : GoodIn wsX10_host (wsV RX10 340 RX10 yX10_keptOf wsX10_keptOf) := goodIn_app (goodIn_of _ (by decide +kernel)) ggX10_host_X10_keptOf
theorem dX10_host_0 : decode cX10_host 0 = .ok (.aload_n 0, 1) := by decide +kernel
theorem dX10_host_1 : decode cX10_host 1 = .ok (.invokevirtual 285, 3) := by decide +kernel
theorem dX10_host_4 : decode cX10_host 4 = .ok (.ifCond .ne 6, 3) := by decide +kernel
theorem dX10_host_7 : decode cX10_host 7 = .ok (.bipush (-2), 2) := by decide +kernel
theorem dX10_host_9 : decode cX10_host 9 = .ok (.ireturn, 1) := by decide +kernel
theorem dX10_host_10 : decode cX10_host 10 = .ok (.iconst (-1), 1) := by decide +kernel
theorem dX10_host_11 : decode cX10_host 11 = .ok (.istore_n 1, 1) := by decide +kernel
theorem dX10_host_12 : decode cX10_host 12 = .ok (.iconst 0, 1) := by decide +kernel
theorem dX10_host_13 : decode cX10_host 13 = .ok (.istore_n 2, 1) := by decide +kernel
theorem dX10_host_14 : decode cX10_host 14 = .ok (.iload_n 2, 1) := by decide +kernel
theorem dX10_host_15 : decode cX10_host 15 = .ok (.aload_n 0, 1) := by decide +kernel
theorem dX10_host_16 : decode cX10_host 16 = .ok (.invokevirtual 261, 3) := by decide +kernel
theorem dX10_host_19 : decode cX10_host 19 = .ok (.if_icmp .ge 35, 3) := by decide +kernel
theorem dX10_host_22 : decode cX10_host 22 = .ok (.aload_n 0, 1) := by decide +kernel
theorem dX10_host_23 : decode cX10_host 23 = .ok (.iload_n 2, 1) := by decide +kernel
theorem dX10_host_24 : decode cX10_host 24 = .ok (.iconst 1, 1) := by decide +kernel
theorem dX10_host_25 : decode cX10_host 25 = .ok (.invokevirtual 340, 3) := by decide +kernel
theorem dX10_host_28 : decode cX10_host 28 = .ok (.iload_n 1, 1) := by decide +kernel
theorem dX10_host_29 : decode cX10_host 29 = .ok (.iconst (-1), 1) := by decide +kernel
theorem dX10_host_30 : decode cX10_host 30 = .ok (.if_icmp .ne 7, 3) := by decide +kernel
theorem dX10_host_33 : decode cX10_host 33 = .ok (.iconst 0, 1) := by decide +kernel
theorem dX10_host_34 : decode cX10_host 34 = .ok (.goto 9, 3) := by decide +kernel
theorem dX10_host_37 : decode cX10_host 37 = .ok (.aload_n 0, 1) := by decide +kernel
theorem dX10_host_38 : decode cX10_host 38 = .ok (.iload_n 1, 1) := by decide +kernel
theorem dX10_host_39 : decode cX10_host 39 = .ok (.iconst 1, 1) := by decide +kernel
theorem dX10_host_40 : decode cX10_host 40 = .ok (.invokevirtual 340, 3) := by decide +kernel
theorem dX10_host_43 : decode cX10_host 43 = .ok (.if_icmp .le 5, 3) := by decide +kernel
theorem dX10_host_46 : decode cX10_host 46 = .ok (.iload_n 2, 1) := by decide +kernel
theorem dX10_host_47 : decode cX10_host 47 = .ok (.istore_n 1, 1) := by decide +kernel
theorem dX10_host_48 : decode cX10_host 48 = .ok (.iinc 2 1, 3) := by decide +kernel
theorem dX10_host_51 : decode cX10_host 51 = .ok (.goto (-37), 3) := by decide +kernel
theorem dX10_host_54 : decode cX10_host 54 = .ok (.iload_n 1, 1) := by decide +kernel
theorem dX10_host_55 : decode cX10_host 55 = .ok (.ireturn, 1) := by decide +kernel
set_option maxRecDepth 20000 in
theorem ggX10_idle_X10_asksDukedom : GoodIn wsX10_idle wsX10_asksDukedom := goodIn_r _ [7, 8, 9, 10, 6, 11, 1, 12, 13, 14, 15, 16, 17, 18, 2, 19, 20, 21, 22, 23, 24, 25, 26, 27, 28, 29, 30, 31, 32, 33, 34, 35, 36, 37, 38, 39, 40, 41, 42, 43, 44, 45, 46, 47, 48, 49, 50, 51, 52, 53, 54, 55, 56, 57, 58, 59, 60, 61, 62, 63, 64, 65, 66, 67, 68, 69, 70, 110, 111, 112, 113, 114, 115, 116, 117, 118, 119, 120, 121, 122, 123, 124, 125, 126, 127, 128, 129, 130, 131, 132, 133, 134, 135, 136, 137, 138, 139, 140, 141, 142, 143, 144, 145, 146, 147, 148, 149, 150, 151, 152, 153, 154] (by decide +kernel) (by decide +kernel)
set_option maxRecDepth 20000 in
theorem gX10_idle_X10_asksDukedom : GoodIn wsX10_idle (wsV RX10 285 RX10 yX10_asksDukedom wsX10_asksDukedom) := goodIn_app (goodIn_of _ (by decide +kernel)) ggX10_idle_X10_asksDukedom
set_option maxRecDepth 20000 in
theorem ggX10_idle_X10_keptMany : GoodIn wsX10_idle wsX10_keptMany := goodIn_r _ [74, 75, 76, 77, 6, 78, 1, 79, 80, 81, 82, 83, 84, 85, 86, 87, 88, 89, 90, 64, 65, 66, 91, 92, 93, 94, 95, 96, 97, 98, 17, 13, 52, 53, 54, 55, 14, 56, 57, 58, 99, 100, 101, 102, 47, 103, 104, 105, 106, 18, 2, 25, 26, 27, 28, 107, 108, 109, 110, 111, 112, 113, 114, 115, 116, 117, 118, 119, 120, 121, 122, 123, 124, 125, 126, 127, 128, 129, 130, 131, 132, 133, 134, 135, 136, 137, 138, 139, 140, 141, 142, 143, 144, 145, 146, 147, 148, 149, 150, 151, 152, 153, 154] (by decide +kernel) (by decide +kernel)
set_option maxRecDepth 20000 in
theorem gX10_idle_X10_keptMany : GoodIn wsX10_idle (wsV RX10 343 RX10 yX10_keptMany wsX10_keptMany) := goodIn_app (goodIn_of _ (by decide +kernel)) ggX10_idle_X10_keptMany
theorem dX10_idle_0 : decode cX10_idle 0 = .ok (.aload_n 0, 1) := by decide +kernel
theorem dX10_idle_1 : decode cX10_idle 1 = .ok (.invokevirtual 285, 3) := by decide +kernel
theorem dX10_idle_4 : decode cX10_idle 4 = .ok (.ifCond .ne 6, 3) := by decide +kernel
theorem dX10_idle_7 : decode cX10_idle 7 = .ok (.bipush (-2), 2) := by decide +kernel
theorem dX10_idle_9 : decode cX10_idle 9 = .ok (.ireturn, 1) := by decide +kernel
theorem dX10_idle_10 : decode cX10_idle 10 = .ok (.aload_n 0, 1) := by decide +kernel
theorem dX10_idle_11 : decode cX10_idle 11 = .ok (.invokevirtual 343, 3) := by decide +kernel
theorem dX10_idle_14 : decode cX10_idle 14 = .ok (.istore_n 1, 1) := by decide +kernel
theorem dX10_idle_15 : decode cX10_idle 15 = .ok (.iconst 0, 1) := by decide +kernel
theorem dX10_idle_16 : decode cX10_idle 16 = .ok (.istore_n 2, 1) := by decide +kernel
theorem dX10_idle_17 : decode cX10_idle 17 = .ok (.iconst 0, 1) := by decide +kernel
theorem dX10_idle_18 : decode cX10_idle 18 = .ok (.istore_n 3, 1) := by decide +kernel
theorem dX10_idle_19 : decode cX10_idle 19 = .ok (.iload_n 3, 1) := by decide +kernel
theorem dX10_idle_20 : decode cX10_idle 20 = .ok (.aload_n 0, 1) := by decide +kernel
theorem dX10_idle_21 : decode cX10_idle 21 = .ok (.getfield 9, 3) := by decide +kernel
theorem dX10_idle_24 : decode cX10_idle 24 = .ok (.iconst 4, 1) := by decide +kernel
theorem dX10_idle_25 : decode cX10_idle 25 = .ok (.iaload, 1) := by decide +kernel
theorem dX10_idle_26 : decode cX10_idle 26 = .ok (.if_icmp .ge 50, 3) := by decide +kernel
theorem dX10_idle_29 : decode cX10_idle 29 = .ok (.aload_n 0, 1) := by decide +kernel
theorem dX10_idle_30 : decode cX10_idle 30 = .ok (.getfield 43, 3) := by decide +kernel
theorem dX10_idle_33 : decode cX10_idle 33 = .ok (.iload_n 3, 1) := by decide +kernel
theorem dX10_idle_34 : decode cX10_idle 34 = .ok (.iaload, 1) := by decide +kernel
theorem dX10_idle_35 : decode cX10_idle 35 = .ok (.istore 4, 2) := by decide +kernel
theorem dX10_idle_37 : decode cX10_idle 37 = .ok (.aload_n 0, 1) := by decide +kernel
theorem dX10_idle_38 : decode cX10_idle 38 = .ok (.getfield 43, 3) := by decide +kernel
theorem dX10_idle_41 : decode cX10_idle 41 = .ok (.iload_n 3, 1) := by decide +kernel
theorem dX10_idle_42 : decode cX10_idle 42 = .ok (.iconst (-1), 1) := by decide +kernel
theorem dX10_idle_43 : decode cX10_idle 43 = .ok (.iastore, 1) := by decide +kernel
theorem dX10_idle_44 : decode cX10_idle 44 = .ok (.iload_n 2, 1) := by decide +kernel
theorem dX10_idle_45 : decode cX10_idle 45 = .ok (.aload_n 0, 1) := by decide +kernel
theorem dX10_idle_46 : decode cX10_idle 46 = .ok (.invokevirtual 343, 3) := by decide +kernel
theorem dX10_idle_49 : decode cX10_idle 49 = .ok (.iload_n 1, 1) := by decide +kernel
theorem dX10_idle_50 : decode cX10_idle 50 = .ok (.if_icmp .ne 9, 3) := by decide +kernel
theorem dX10_idle_53 : decode cX10_idle 53 = .ok (.iconst 1, 1) := by decide +kernel
theorem dX10_idle_54 : decode cX10_idle 54 = .ok (.iload_n 3, 1) := by decide +kernel
theorem dX10_idle_55 : decode cX10_idle 55 = .ok (.ishl, 1) := by decide +kernel
theorem dX10_idle_56 : decode cX10_idle 56 = .ok (.goto 4, 3) := by decide +kernel
theorem dX10_idle_59 : decode cX10_idle 59 = .ok (.iconst 0, 1) := by decide +kernel
theorem dX10_idle_60 : decode cX10_idle 60 = .ok (.ior, 1) := by decide +kernel
theorem dX10_idle_61 : decode cX10_idle 61 = .ok (.istore_n 2, 1) := by decide +kernel
theorem dX10_idle_62 : decode cX10_idle 62 = .ok (.aload_n 0, 1) := by decide +kernel
theorem dX10_idle_63 : decode cX10_idle 63 = .ok (.getfield 43, 3) := by decide +kernel
theorem dX10_idle_66 : decode cX10_idle 66 = .ok (.iload_n 3, 1) := by decide +kernel
theorem dX10_idle_67 : decode cX10_idle 67 = .ok (.iload 4, 2) := by decide +kernel
theorem dX10_idle_69 : decode cX10_idle 69 = .ok (.iastore, 1) := by decide +kernel
theorem dX10_idle_70 : decode cX10_idle 70 = .ok (.iinc 3 1, 3) := by decide +kernel
theorem dX10_idle_73 : decode cX10_idle 73 = .ok (.goto (-54), 3) := by decide +kernel
theorem dX10_idle_76 : decode cX10_idle 76 = .ok (.iload_n 2, 1) := by decide +kernel
theorem dX10_idle_77 : decode cX10_idle 77 = .ok (.ireturn, 1) := by decide +kernel
set_option maxRecDepth 20000 in
theorem ggX10_nextRow_X10_ranks : GoodIn wsX10_nextRow wsX10_ranks := goodIn_r _ [7, 1, 8, 9, 10, 11, 12, 13, 14, 15, 16, 17, 18, 19, 20, 21, 22, 23, 24, 25, 26, 27, 28, 29, 30, 31, 32, 33, 34, 35, 36, 37, 38, 39, 40, 41, 42, 43, 44, 45, 46, 47, 48, 49, 50, 51, 52] (by decide +kernel) (by decide +kernel)
set_option maxRecDepth 20000 in
theorem gX10_nextRow_X10_ranks : GoodIn wsX10_nextRow (wsV RX10 261 RX10 yX10_ranks wsX10_ranks) := goodIn_app (goodIn_of _ (by decide +kernel)) ggX10_nextRow_X10_ranks
theorem dX10_nextRow_0 : decode cX10_nextRow 0 = .ok (.aload_n 0, 1) := by decide +kernel
theorem dX10_nextRow_1 : decode cX10_nextRow 1 = .ok (.getfield 9, 3) := by decide +kernel
theorem dX10_nextRow_4 : decode cX10_nextRow 4 = .ok (.iconst 4, 1) := by decide +kernel
theorem dX10_nextRow_5 : decode cX10_nextRow 5 = .ok (.iaload, 1) := by decide +kernel
theorem dX10_nextRow_6 : decode cX10_nextRow 6 = .ok (.iconst 1, 1) := by decide +kernel
theorem dX10_nextRow_7 : decode cX10_nextRow 7 = .ok (.isub, 1) := by decide +kernel
theorem dX10_nextRow_8 : decode cX10_nextRow 8 = .ok (.istore_n 1, 1) := by decide +kernel
theorem dX10_nextRow_9 : decode cX10_nextRow 9 = .ok (.iload_n 1, 1) := by decide +kernel
theorem dX10_nextRow_10 : decode cX10_nextRow 10 = .ok (.ifCond .lt 43, 3) := by decide +kernel
theorem dX10_nextRow_13 : decode cX10_nextRow 13 = .ok (.aload_n 0, 1) := by decide +kernel
theorem dX10_nextRow_14 : decode cX10_nextRow 14 = .ok (.getfield 43, 3) := by decide +kernel
theorem dX10_nextRow_17 : decode cX10_nextRow 17 = .ok (.iload_n 1, 1) := by decide +kernel
theorem dX10_nextRow_18 : decode cX10_nextRow 18 = .ok (.iaload, 1) := by decide +kernel
theorem dX10_nextRow_19 : decode cX10_nextRow 19 = .ok (.aload_n 0, 1) := by decide +kernel
theorem dX10_nextRow_20 : decode cX10_nextRow 20 = .ok (.invokevirtual 261, 3) := by decide +kernel
theorem dX10_nextRow_23 : decode cX10_nextRow 23 = .ok (.iconst 1, 1) := by decide +kernel
theorem dX10_nextRow_24 : decode cX10_nextRow 24 = .ok (.isub, 1) := by decide +kernel
theorem dX10_nextRow_25 : decode cX10_nextRow 25 = .ok (.if_icmp .ge 15, 3) := by decide +kernel
theorem dX10_nextRow_28 : decode cX10_nextRow 28 = .ok (.aload_n 0, 1) := by decide +kernel
theorem dX10_nextRow_29 : decode cX10_nextRow 29 = .ok (.getfield 43, 3) := by decide +kernel
theorem dX10_nextRow_32 : decode cX10_nextRow 32 = .ok (.iload_n 1, 1) := by decide +kernel
theorem dX10_nextRow_33 : decode cX10_nextRow 33 = .ok (.dup2, 1) := by decide +kernel
theorem dX10_nextRow_34 : decode cX10_nextRow 34 = .ok (.iaload, 1) := by decide +kernel
theorem dX10_nextRow_35 : decode cX10_nextRow 35 = .ok (.iconst 1, 1) := by decide +kernel
theorem dX10_nextRow_36 : decode cX10_nextRow 36 = .ok (.iadd, 1) := by decide +kernel
theorem dX10_nextRow_37 : decode cX10_nextRow 37 = .ok (.iastore, 1) := by decide +kernel
theorem dX10_nextRow_38 : decode cX10_nextRow 38 = .ok (.iconst 1, 1) := by decide +kernel
theorem dX10_nextRow_39 : decode cX10_nextRow 39 = .ok (.ireturn, 1) := by decide +kernel
theorem dX10_nextRow_40 : decode cX10_nextRow 40 = .ok (.aload_n 0, 1) := by decide +kernel
theorem dX10_nextRow_41 : decode cX10_nextRow 41 = .ok (.getfield 43, 3) := by decide +kernel
theorem dX10_nextRow_44 : decode cX10_nextRow 44 = .ok (.iload_n 1, 1) := by decide +kernel
theorem dX10_nextRow_45 : decode cX10_nextRow 45 = .ok (.iconst (-1), 1) := by decide +kernel
theorem dX10_nextRow_46 : decode cX10_nextRow 46 = .ok (.iastore, 1) := by decide +kernel
theorem dX10_nextRow_47 : decode cX10_nextRow 47 = .ok (.iinc 1 (-1), 3) := by decide +kernel
theorem dX10_nextRow_50 : decode cX10_nextRow 50 = .ok (.goto (-41), 3) := by decide +kernel
theorem dX10_nextRow_53 : decode cX10_nextRow 53 = .ok (.iconst 0, 1) := by decide +kernel
theorem dX10_nextRow_54 : decode cX10_nextRow 54 = .ok (.ireturn, 1) := by decide +kernel
set_option maxRecDepth 20000 in
theorem ggX10_asksRows_X10_asksDukedom : GoodIn wsX10_asksRows wsX10_asksDukedom := goodIn_r _ [13, 14, 15, 16, 12, 17, 18, 19, 20, 21, 22, 23, 24, 25, 1, 26, 27, 5, 6, 7, 8, 28, 29, 30, 31, 32, 33, 34, 35, 36, 37, 38, 39, 40, 41, 42, 43, 44, 45, 46, 47, 48, 49, 50, 51, 52, 53, 54, 55, 56, 57, 58, 59, 60, 61, 62, 63, 64, 65, 66, 67, 68, 69, 70, 71, 72, 73, 117, 118, 119, 120, 121, 122, 123, 124, 125, 126, 127, 128, 129, 130, 131, 132, 133, 134, 135, 136, 137, 138, 139, 140, 141, 142, 143, 144, 145, 146, 147, 148, 149, 150, 151, 152, 153, 154, 155, 156, 157, 158, 159, 160, 161] (by decide +kernel) (by decide +kernel)
set_option maxRecDepth 20000 in
theorem gX10_asksRows_X10_asksDukedom : GoodIn wsX10_asksRows (wsV RX10 285 RX10 yX10_asksDukedom wsX10_asksDukedom) := goodIn_app (goodIn_of _ (by decide +kernel)) ggX10_asksRows_X10_asksDukedom
set_option maxRecDepth 20000 in
theorem ggX10_asksRows_X10_keptMany : GoodIn wsX10_asksRows wsX10_keptMany := goodIn_r _ [77, 78, 79, 80, 12, 81, 18, 82, 83, 84, 85, 86, 87, 88, 89, 90, 91, 92, 93, 67, 68, 69, 94, 95, 96, 97, 98, 99, 100, 101, 24, 20, 55, 56, 57, 58, 21, 59, 60, 61, 102, 103, 104, 105, 50, 106, 107, 108, 109, 25, 1, 28, 29, 30, 31, 110, 111, 112, 117, 118, 119, 120, 121, 122, 123, 124, 125, 126, 127, 128, 129, 130, 131, 132, 133, 134, 135, 136, 137, 138, 139, 140, 141, 142, 143, 144, 145, 146, 147, 148, 149, 150, 151, 152, 153, 154, 155, 156, 157, 158, 159, 160, 161] (by decide +kernel) (by decide +kernel)
set_option maxRecDepth 20000 in
theorem gX10_asksRows_X10_keptMany : GoodIn wsX10_asksRows (wsV RX10 343 RX10 yX10_keptMany wsX10_keptMany) := goodIn_app (goodIn_of _ (by decide +kernel)) ggX10_asksRows_X10_keptMany
set_option maxRecDepth 20000 in
theorem ggX10_asksRows_X10_nextRow : GoodIn wsX10_asksRows wsX10_nextRow := goodIn_r _ [116, 18, 1, 51, 52, 53, 12, 54, 117, 118, 119, 120, 121, 122, 123, 124, 125, 126, 127, 128, 129, 130, 131, 132, 133, 134, 135, 136, 137, 138, 139, 140, 141, 142, 143, 144, 145, 146, 147, 148, 149, 150, 151, 152, 153, 154, 155, 156, 157, 158, 159, 160, 161] (by decide +kernel) (by decide +kernel)
set_option maxRecDepth 20000 in
theorem gX10_asksRows_X10_nextRow : GoodIn wsX10_asksRows (wsV RX10 352 RX10 yX10_nextRow wsX10_nextRow) := goodIn_app (goodIn_of _ (by decide +kernel)) ggX10_asksRows_X10_nextRow
theorem dX10_asksRows_0 : decode cX10_asksRows 0 = .ok (.aload_n 0, 1) := by decide +kernel
theorem dX10_asksRows_1 : decode cX10_asksRows 1 = .ok (.invokevirtual 285, 3) := by decide +kernel
theorem dX10_asksRows_4 : decode cX10_asksRows 4 = .ok (.ifCond .ne 5, 3) := by decide +kernel
theorem dX10_asksRows_7 : decode cX10_asksRows 7 = .ok (.iconst 0, 1) := by decide +kernel
theorem dX10_asksRows_8 : decode cX10_asksRows 8 = .ok (.ireturn, 1) := by decide +kernel
theorem dX10_asksRows_9 : decode cX10_asksRows 9 = .ok (.iconst 0, 1) := by decide +kernel
theorem dX10_asksRows_10 : decode cX10_asksRows 10 = .ok (.istore_n 1, 1) := by decide +kernel
theorem dX10_asksRows_11 : decode cX10_asksRows 11 = .ok (.iload_n 1, 1) := by decide +kernel
theorem dX10_asksRows_12 : decode cX10_asksRows 12 = .ok (.iconst 5, 1) := by decide +kernel
theorem dX10_asksRows_13 : decode cX10_asksRows 13 = .ok (.if_icmp .ge 16, 3) := by decide +kernel
theorem dX10_asksRows_16 : decode cX10_asksRows 16 = .ok (.aload_n 0, 1) := by decide +kernel
theorem dX10_asksRows_17 : decode cX10_asksRows 17 = .ok (.getfield 43, 3) := by decide +kernel
theorem dX10_asksRows_20 : decode cX10_asksRows 20 = .ok (.iload_n 1, 1) := by decide +kernel
theorem dX10_asksRows_21 : decode cX10_asksRows 21 = .ok (.iconst (-1), 1) := by decide +kernel
theorem dX10_asksRows_22 : decode cX10_asksRows 22 = .ok (.iastore, 1) := by decide +kernel
theorem dX10_asksRows_23 : decode cX10_asksRows 23 = .ok (.iinc 1 1, 3) := by decide +kernel
theorem dX10_asksRows_26 : decode cX10_asksRows 26 = .ok (.goto (-15), 3) := by decide +kernel
theorem dX10_asksRows_29 : decode cX10_asksRows 29 = .ok (.aload_n 0, 1) := by decide +kernel
theorem dX10_asksRows_30 : decode cX10_asksRows 30 = .ok (.iconst (-1), 1) := by decide +kernel
theorem dX10_asksRows_31 : decode cX10_asksRows 31 = .ok (.putfield 346, 3) := by decide +kernel
theorem dX10_asksRows_34 : decode cX10_asksRows 34 = .ok (.aload_n 0, 1) := by decide +kernel
theorem dX10_asksRows_35 : decode cX10_asksRows 35 = .ok (.iconst 0, 1) := by decide +kernel
theorem dX10_asksRows_36 : decode cX10_asksRows 36 = .ok (.putfield 349, 3) := by decide +kernel
theorem dX10_asksRows_39 : decode cX10_asksRows 39 = .ok (.iconst 1, 1) := by decide +kernel
theorem dX10_asksRows_40 : decode cX10_asksRows 40 = .ok (.istore_n 1, 1) := by decide +kernel
theorem dX10_asksRows_41 : decode cX10_asksRows 41 = .ok (.iload_n 1, 1) := by decide +kernel
theorem dX10_asksRows_42 : decode cX10_asksRows 42 = .ok (.ifCond .eq 88, 3) := by decide +kernel
theorem dX10_asksRows_45 : decode cX10_asksRows 45 = .ok (.aload_n 0, 1) := by decide +kernel
theorem dX10_asksRows_46 : decode cX10_asksRows 46 = .ok (.invokevirtual 343, 3) := by decide +kernel
theorem dX10_asksRows_49 : decode cX10_asksRows 49 = .ok (.istore_n 2, 1) := by decide +kernel
theorem dX10_asksRows_50 : decode cX10_asksRows 50 = .ok (.iload_n 2, 1) := by decide +kernel
theorem dX10_asksRows_51 : decode cX10_asksRows 51 = .ok (.aload_n 0, 1) := by decide +kernel
theorem dX10_asksRows_52 : decode cX10_asksRows 52 = .ok (.getfield 346, 3) := by decide +kernel
theorem dX10_asksRows_55 : decode cX10_asksRows 55 = .ok (.if_icmp .le 33, 3) := by decide +kernel
theorem dX10_asksRows_58 : decode cX10_asksRows 58 = .ok (.aload_n 0, 1) := by decide +kernel
theorem dX10_asksRows_59 : decode cX10_asksRows 59 = .ok (.iconst 0, 1) := by decide +kernel
theorem dX10_asksRows_60 : decode cX10_asksRows 60 = .ok (.putfield 349, 3) := by decide +kernel
theorem dX10_asksRows_63 : decode cX10_asksRows 63 = .ok (.iconst 0, 1) := by decide +kernel
theorem dX10_asksRows_64 : decode cX10_asksRows 64 = .ok (.istore_n 3, 1) := by decide +kernel
theorem dX10_asksRows_65 : decode cX10_asksRows 65 = .ok (.iload_n 3, 1) := by decide +kernel
theorem dX10_asksRows_66 : decode cX10_asksRows 66 = .ok (.iconst 5, 1) := by decide +kernel
theorem dX10_asksRows_67 : decode cX10_asksRows 67 = .ok (.if_icmp .ge 21, 3) := by decide +kernel
theorem dX10_asksRows_70 : decode cX10_asksRows 70 = .ok (.aload_n 0, 1) := by decide +kernel
theorem dX10_asksRows_71 : decode cX10_asksRows 71 = .ok (.getfield 70, 3) := by decide +kernel
theorem dX10_asksRows_74 : decode cX10_asksRows 74 = .ok (.iload_n 3, 1) := by decide +kernel
theorem dX10_asksRows_75 : decode cX10_asksRows 75 = .ok (.aload_n 0, 1) := by decide +kernel
theorem dX10_asksRows_76 : decode cX10_asksRows 76 = .ok (.getfield 43, 3) := by decide +kernel
theorem dX10_asksRows_79 : decode cX10_asksRows 79 = .ok (.iload_n 3, 1) := by decide +kernel
theorem dX10_asksRows_80 : decode cX10_asksRows 80 = .ok (.iaload, 1) := by decide +kernel
theorem dX10_asksRows_81 : decode cX10_asksRows 81 = .ok (.iastore, 1) := by decide +kernel
theorem dX10_asksRows_82 : decode cX10_asksRows 82 = .ok (.iinc 3 1, 3) := by decide +kernel
theorem dX10_asksRows_85 : decode cX10_asksRows 85 = .ok (.goto (-20), 3) := by decide +kernel
theorem dX10_asksRows_88 : decode cX10_asksRows 88 = .ok (.aload_n 0, 1) := by decide +kernel
theorem dX10_asksRows_89 : decode cX10_asksRows 89 = .ok (.aload_n 0, 1) := by decide +kernel
theorem dX10_asksRows_90 : decode cX10_asksRows 90 = .ok (.getfield 346, 3) := by decide +kernel
theorem dX10_asksRows_93 : decode cX10_asksRows 93 = .ok (.iload_n 2, 1) := by decide +kernel
theorem dX10_asksRows_94 : decode cX10_asksRows 94 = .ok (.invokestatic 255, 3) := by decide +kernel
theorem dX10_asksRows_97 : decode cX10_asksRows 97 = .ok (.putfield 346, 3) := by decide +kernel
theorem dX10_asksRows_100 : decode cX10_asksRows 100 = .ok (.aload_n 0, 1) := by decide +kernel
theorem dX10_asksRows_101 : decode cX10_asksRows 101 = .ok (.dup, 1) := by decide +kernel
theorem dX10_asksRows_102 : decode cX10_asksRows 102 = .ok (.getfield 349, 3) := by decide +kernel
theorem dX10_asksRows_105 : decode cX10_asksRows 105 = .ok (.iload_n 2, 1) := by decide +kernel
theorem dX10_asksRows_106 : decode cX10_asksRows 106 = .ok (.aload_n 0, 1) := by decide +kernel
theorem dX10_asksRows_107 : decode cX10_asksRows 107 = .ok (.getfield 346, 3) := by decide +kernel
theorem dX10_asksRows_110 : decode cX10_asksRows 110 = .ok (.if_icmp .ne 7, 3) := by decide +kernel
theorem dX10_asksRows_113 : decode cX10_asksRows 113 = .ok (.iconst 1, 1) := by decide +kernel
theorem dX10_asksRows_114 : decode cX10_asksRows 114 = .ok (.goto 4, 3) := by decide +kernel
theorem dX10_asksRows_117 : decode cX10_asksRows 117 = .ok (.iconst 0, 1) := by decide +kernel
theorem dX10_asksRows_118 : decode cX10_asksRows 118 = .ok (.iadd, 1) := by decide +kernel
theorem dX10_asksRows_119 : decode cX10_asksRows 119 = .ok (.putfield 349, 3) := by decide +kernel
theorem dX10_asksRows_122 : decode cX10_asksRows 122 = .ok (.aload_n 0, 1) := by decide +kernel
theorem dX10_asksRows_123 : decode cX10_asksRows 123 = .ok (.invokevirtual 352, 3) := by decide +kernel
theorem dX10_asksRows_126 : decode cX10_asksRows 126 = .ok (.istore_n 1, 1) := by decide +kernel
theorem dX10_asksRows_127 : decode cX10_asksRows 127 = .ok (.goto (-86), 3) := by decide +kernel
theorem dX10_asksRows_130 : decode cX10_asksRows 130 = .ok (.iconst 1, 1) := by decide +kernel
theorem dX10_asksRows_131 : decode cX10_asksRows 131 = .ok (.ireturn, 1) := by decide +kernel
set_option maxRecDepth 20000 in
theorem ggX10_best_X10_asksRows : GoodIn wsX10_best wsX10_asksRows := goodIn_r _ [6, 7, 1, 8, 9, 10, 11, 12, 13, 14, 15, 16, 5, 17, 18, 19, 20, 21, 22, 23, 24, 25, 26, 27, 28, 29, 30, 31, 32, 33, 34, 35, 36, 37, 38, 39, 40, 41, 42, 43, 44, 45, 46, 47, 48, 49, 50, 51, 52, 53, 54, 55, 56, 57, 58, 59, 60, 61, 62, 63, 64, 65, 66, 67, 68, 69, 70, 71, 72, 73, 74, 75, 76, 77, 78, 79, 80, 81, 82, 83, 84, 85, 86, 87, 88, 89, 90, 91, 92, 93, 94, 95, 96, 97, 98, 99, 100, 101, 102, 103, 104, 105, 106, 107, 108, 109, 110, 111, 112, 113, 114, 115, 116, 117, 118, 119, 120, 121, 122, 123, 124, 125, 126, 127, 128, 129, 130, 131, 132, 133, 134, 135, 136, 137, 138, 139, 140, 141, 142, 143, 144, 145, 146, 147, 148, 149, 150, 151, 152, 153, 154, 155, 156, 157, 158, 159, 160, 161, 162, 163, 164, 165] (by decide +kernel) (by decide +kernel)
set_option maxRecDepth 20000 in
theorem gX10_best_X10_asksRows : GoodIn wsX10_best (wsV RX10 355 RX10 yX10_asksRows wsX10_asksRows) := goodIn_app (goodIn_of _ (by decide +kernel)) ggX10_best_X10_asksRows
theorem dX10_best_0 : decode cX10_best 0 = .ok (.aload_n 0, 1) := by decide +kernel
theorem dX10_best_1 : decode cX10_best 1 = .ok (.invokevirtual 355, 3) := by decide +kernel
theorem dX10_best_4 : decode cX10_best 4 = .ok (.ifCond .eq 10, 3) := by decide +kernel
theorem dX10_best_7 : decode cX10_best 7 = .ok (.aload_n 0, 1) := by decide +kernel
theorem dX10_best_8 : decode cX10_best 8 = .ok (.getfield 346, 3) := by decide +kernel
theorem dX10_best_11 : decode cX10_best 11 = .ok (.goto 5, 3) := by decide +kernel
theorem dX10_best_14 : decode cX10_best 14 = .ok (.bipush (-2), 2) := by decide +kernel
theorem dX10_best_16 : decode cX10_best 16 = .ok (.ireturn, 1) := by decide +kernel
set_option maxRecDepth 20000 in
theorem ggX10_ways_X10_asksRows : GoodIn wsX10_ways wsX10_asksRows := goodIn_r _ [6, 7, 8, 1, 9, 10, 11, 12, 13, 14, 15, 16, 5, 17, 18, 19, 20, 21, 22, 23, 24, 25, 26, 27, 28, 29, 30, 31, 32, 33, 34, 35, 36, 37, 38, 39, 40, 41, 42, 43, 44, 45, 46, 47, 48, 49, 50, 51, 52, 53, 54, 55, 56, 57, 58, 59, 60, 61, 62, 63, 64, 65, 66, 67, 68, 69, 70, 71, 72, 73, 74, 75, 76, 77, 78, 79, 80, 81, 82, 83, 84, 85, 86, 87, 88, 89, 90, 91, 92, 93, 94, 95, 96, 97, 98, 99, 100, 101, 102, 103, 104, 105, 106, 107, 108, 109, 110, 111, 112, 113, 114, 115, 116, 117, 118, 119, 120, 121, 122, 123, 124, 125, 126, 127, 128, 129, 130, 131, 132, 133, 134, 135, 136, 137, 138, 139, 140, 141, 142, 143, 144, 145, 146, 147, 148, 149, 150, 151, 152, 153, 154, 155, 156, 157, 158, 159, 160, 161, 162, 163, 164, 165] (by decide +kernel) (by decide +kernel)
set_option maxRecDepth 20000 in
theorem gX10_ways_X10_asksRows : GoodIn wsX10_ways (wsV RX10 355 RX10 yX10_asksRows wsX10_asksRows) := goodIn_app (goodIn_of _ (by decide +kernel)) ggX10_ways_X10_asksRows
theorem dX10_ways_0 : decode cX10_ways 0 = .ok (.aload_n 0, 1) := by decide +kernel
theorem dX10_ways_1 : decode cX10_ways 1 = .ok (.invokevirtual 355, 3) := by decide +kernel
theorem dX10_ways_4 : decode cX10_ways 4 = .ok (.ifCond .eq 10, 3) := by decide +kernel
theorem dX10_ways_7 : decode cX10_ways 7 = .ok (.aload_n 0, 1) := by decide +kernel
theorem dX10_ways_8 : decode cX10_ways 8 = .ok (.getfield 349, 3) := by decide +kernel
theorem dX10_ways_11 : decode cX10_ways 11 = .ok (.goto 5, 3) := by decide +kernel
theorem dX10_ways_14 : decode cX10_ways 14 = .ok (.bipush (-2), 2) := by decide +kernel
theorem dX10_ways_16 : decode cX10_ways 16 = .ok (.ireturn, 1) := by decide +kernel
set_option maxRecDepth 20000 in
theorem ggX10_lay_X10_in : GoodIn wsX10_lay wsX10_in := goodIn_r _ [6] (by decide +kernel) (by decide +kernel)
set_option maxRecDepth 20000 in
theorem gX10_lay_X10_in : GoodIn wsX10_lay (va_wsS RX10 100 yX10_in wsX10_in) := goodIn_app (goodIn_of _ (by decide +kernel)) ggX10_lay_X10_in
set_option maxRecDepth 20000 in
theorem ggX10_lay_X10_asksRows : GoodIn wsX10_lay wsX10_asksRows := goodIn_r _ [10, 11, 12, 13, 2, 14, 15, 16, 17, 18, 19, 20, 5, 21, 22, 23, 24, 25, 1, 26, 27, 28, 29, 30, 31, 32, 33, 34, 35, 36, 37, 38, 39, 40, 41, 42, 43, 44, 45, 46, 47, 48, 49, 50, 51, 52, 53, 54, 55, 56, 57, 58, 59, 60, 61, 62, 63, 64, 65, 66, 67, 68, 69, 70, 71, 72, 73, 3, 4, 6, 74, 75, 76, 77, 78, 79, 80, 81, 82, 83, 84, 85, 86, 87, 88, 89, 90, 91, 92, 93, 94, 95, 96, 97, 98, 99, 100, 101, 102, 103, 104, 105, 106, 107, 108, 109, 110, 111, 112, 113, 114, 115, 116, 117, 118, 119, 120, 121, 122, 123, 124, 125, 126, 127, 128, 129, 130, 131, 132, 133, 134, 135, 136, 137, 138, 139, 140, 141, 142, 143, 144, 145, 146, 147, 148, 149, 150, 151, 152, 153, 154, 155, 156, 157, 158, 159, 160, 161, 162, 163, 164, 165] (by decide +kernel) (by decide +kernel)
set_option maxRecDepth 20000 in
theorem gX10_lay_X10_asksRows : GoodIn wsX10_lay (wsV RX10 355 RX10 yX10_asksRows wsX10_asksRows) := goodIn_app (goodIn_of _ (by decide +kernel)) ggX10_lay_X10_asksRows
theorem dX10_lay_0 : decode cX10_lay 0 = .ok (.iload_n 1, 1) := by decide +kernel
theorem dX10_lay_1 : decode cX10_lay 1 = .ok (.i2l, 1) := by decide +kernel
theorem dX10_lay_2 : decode cX10_lay 2 = .ok (.lconst 0, 1) := by decide +kernel
theorem dX10_lay_3 : decode cX10_lay 3 = .ok (.aload_n 0, 1) := by decide +kernel
theorem dX10_lay_4 : decode cX10_lay 4 = .ok (.getfield 9, 3) := by decide +kernel
theorem dX10_lay_7 : decode cX10_lay 7 = .ok (.iconst 4, 1) := by decide +kernel
theorem dX10_lay_8 : decode cX10_lay 8 = .ok (.iaload, 1) := by decide +kernel
theorem dX10_lay_9 : decode cX10_lay 9 = .ok (.iconst 1, 1) := by decide +kernel
theorem dX10_lay_10 : decode cX10_lay 10 = .ok (.isub, 1) := by decide +kernel
theorem dX10_lay_11 : decode cX10_lay 11 = .ok (.i2l, 1) := by decide +kernel
theorem dX10_lay_12 : decode cX10_lay 12 = .ok (.invokestatic 100, 3) := by decide +kernel
theorem dX10_lay_15 : decode cX10_lay 15 = .ok (.ifCond .eq 19, 3) := by decide +kernel
theorem dX10_lay_18 : decode cX10_lay 18 = .ok (.aload_n 0, 1) := by decide +kernel
theorem dX10_lay_19 : decode cX10_lay 19 = .ok (.invokevirtual 355, 3) := by decide +kernel
theorem dX10_lay_22 : decode cX10_lay 22 = .ok (.ifCond .eq 12, 3) := by decide +kernel
theorem dX10_lay_25 : decode cX10_lay 25 = .ok (.aload_n 0, 1) := by decide +kernel
theorem dX10_lay_26 : decode cX10_lay 26 = .ok (.getfield 70, 3) := by decide +kernel
theorem dX10_lay_29 : decode cX10_lay 29 = .ok (.iload_n 1, 1) := by decide +kernel
theorem dX10_lay_30 : decode cX10_lay 30 = .ok (.iaload, 1) := by decide +kernel
theorem dX10_lay_31 : decode cX10_lay 31 = .ok (.goto 5, 3) := by decide +kernel
theorem dX10_lay_34 : decode cX10_lay 34 = .ok (.bipush (-2), 2) := by decide +kernel
theorem dX10_lay_36 : decode cX10_lay 36 = .ok (.ireturn, 1) := by decide +kernel
set_option maxRecDepth 20000 in
theorem ggX10_timely_X10_inviteOf : GoodIn wsX10_timely wsX10_inviteOf := goodIn_r _ [6, 1, 14, 15, 16, 17, 18, 19, 20, 21, 22, 23, 24, 25, 26, 27, 28, 29, 30, 31, 32, 33, 34, 35, 36, 37, 38, 39, 40, 41, 42, 43, 44, 45, 46, 47, 48, 49, 50, 51, 52, 53, 54, 55, 56, 57, 58] (by decide +kernel) (by decide +kernel)
set_option maxRecDepth 20000 in
theorem gX10_timely_X10_inviteOf : GoodIn wsX10_timely (wsV RX10 243 RX10 yX10_inviteOf wsX10_inviteOf) := goodIn_app (goodIn_of _ (by decide +kernel)) ggX10_timely_X10_inviteOf
set_option maxRecDepth 20000 in
theorem ggX10_timely_X10_isYear : GoodIn wsX10_timely wsX10_isYear := goodIn_r _ [10, 1, 11, 12, 5, 13, 14, 15, 16, 17, 18, 19, 20, 21, 22, 23, 24, 25, 26, 27, 28, 29, 30, 31, 32, 33, 34, 35, 36, 37, 38, 39, 40, 41, 42, 43, 44, 45, 46, 47, 48, 49, 50, 51, 52, 53, 54, 55, 56, 57, 58] (by decide +kernel) (by decide +kernel)
set_option maxRecDepth 20000 in
theorem gX10_timely_X10_isYear : GoodIn wsX10_timely (wsV RX10 288 RX10 yX10_isYear wsX10_isYear) := goodIn_app (goodIn_of _ (by decide +kernel)) ggX10_timely_X10_isYear
theorem dX10_timely_0 : decode cX10_timely 0 = .ok (.iconst 0, 1) := by decide +kernel
theorem dX10_timely_1 : decode cX10_timely 1 = .ok (.istore_n 1, 1) := by decide +kernel
theorem dX10_timely_2 : decode cX10_timely 2 = .ok (.iconst 0, 1) := by decide +kernel
theorem dX10_timely_3 : decode cX10_timely 3 = .ok (.istore_n 2, 1) := by decide +kernel
theorem dX10_timely_4 : decode cX10_timely 4 = .ok (.iload_n 2, 1) := by decide +kernel
theorem dX10_timely_5 : decode cX10_timely 5 = .ok (.aload_n 0, 1) := by decide +kernel
theorem dX10_timely_6 : decode cX10_timely 6 = .ok (.getfield 9, 3) := by decide +kernel
theorem dX10_timely_9 : decode cX10_timely 9 = .ok (.bipush 7, 2) := by decide +kernel
theorem dX10_timely_11 : decode cX10_timely 11 = .ok (.iaload, 1) := by decide +kernel
theorem dX10_timely_12 : decode cX10_timely 12 = .ok (.if_icmp .ge 31, 3) := by decide +kernel
theorem dX10_timely_15 : decode cX10_timely 15 = .ok (.iload_n 1, 1) := by decide +kernel
theorem dX10_timely_16 : decode cX10_timely 16 = .ok (.aload_n 0, 1) := by decide +kernel
theorem dX10_timely_17 : decode cX10_timely 17 = .ok (.aload_n 0, 1) := by decide +kernel
theorem dX10_timely_18 : decode cX10_timely 18 = .ok (.iload_n 2, 1) := by decide +kernel
theorem dX10_timely_19 : decode cX10_timely 19 = .ok (.iconst 2, 1) := by decide +kernel
theorem dX10_timely_20 : decode cX10_timely 20 = .ok (.invokevirtual 243, 3) := by decide +kernel
theorem dX10_timely_23 : decode cX10_timely 23 = .ok (.i2l, 1) := by decide +kernel
theorem dX10_timely_24 : decode cX10_timely 24 = .ok (.invokevirtual 288, 3) := by decide +kernel
theorem dX10_timely_27 : decode cX10_timely 27 = .ok (.ifCond .eq 7, 3) := by decide +kernel
theorem dX10_timely_30 : decode cX10_timely 30 = .ok (.iconst 1, 1) := by decide +kernel
theorem dX10_timely_31 : decode cX10_timely 31 = .ok (.goto 4, 3) := by decide +kernel
theorem dX10_timely_34 : decode cX10_timely 34 = .ok (.iconst 0, 1) := by decide +kernel
theorem dX10_timely_35 : decode cX10_timely 35 = .ok (.iadd, 1) := by decide +kernel
theorem dX10_timely_36 : decode cX10_timely 36 = .ok (.istore_n 1, 1) := by decide +kernel
theorem dX10_timely_37 : decode cX10_timely 37 = .ok (.iinc 2 1, 3) := by decide +kernel
theorem dX10_timely_40 : decode cX10_timely 40 = .ok (.goto (-36), 3) := by decide +kernel
theorem dX10_timely_43 : decode cX10_timely 43 = .ok (.iload_n 1, 1) := by decide +kernel
theorem dX10_timely_44 : decode cX10_timely 44 = .ok (.ireturn, 1) := by decide +kernel
set_option maxRecDepth 20000 in
theorem ggX10_fillSet_X10_ranks : GoodIn wsX10_fillSet wsX10_ranks := goodIn_r _ [6, 7, 70, 71, 72, 73, 74, 75, 76, 77, 78, 79, 80, 81, 82, 83, 84, 85, 86, 87, 88, 89, 90, 91, 92, 93, 94, 95, 96, 97, 98, 99, 100, 101, 102, 103, 104, 105, 106, 107, 108, 109, 110, 111, 112, 113, 114] (by decide +kernel) (by decide +kernel)
set_option maxRecDepth 20000 in
theorem gX10_fillSet_X10_ranks : GoodIn wsX10_fillSet (wsV RX10 261 RX10 yX10_ranks wsX10_ranks) := goodIn_app (goodIn_of _ (by decide +kernel)) ggX10_fillSet_X10_ranks
set_option maxRecDepth 20000 in
theorem ggX10_fillSet_X10_keptMany : GoodIn wsX10_fillSet wsX10_keptMany := goodIn_r _ [11, 12, 13, 14, 5, 15, 7, 16, 17, 18, 19, 20, 21, 22, 23, 24, 25, 26, 27, 28, 29, 30, 31, 32, 33, 34, 35, 36, 37, 38, 39, 1, 40, 41, 42, 43, 44, 45, 46, 47, 48, 49, 50, 51, 52, 53, 54, 55, 56, 57, 58, 59, 60, 61, 62, 63, 64, 65, 70, 71, 72, 73, 74, 75, 76, 77, 78, 79, 80, 81, 82, 83, 84, 85, 86, 87, 88, 89, 90, 91, 92, 93, 94, 95, 96, 97, 98, 99, 100, 101, 102, 103, 104, 105, 106, 107, 108, 109, 110, 111, 112, 113, 114] (by decide +kernel) (by decide +kernel)
set_option maxRecDepth 20000 in
theorem gX10_fillSet_X10_keptMany : GoodIn wsX10_fillSet (wsV RX10 343 RX10 yX10_keptMany wsX10_keptMany) := goodIn_app (goodIn_of _ (by decide +kernel)) ggX10_fillSet_X10_keptMany
set_option maxRecDepth 20000 in
theorem ggX10_fillSet_X10_timely : GoodIn wsX10_fillSet wsX10_timely := goodIn_r _ [69, 7, 20, 21, 22, 5, 23, 24, 25, 26, 27, 28, 29, 30, 70, 71, 72, 73, 74, 75, 76, 77, 78, 79, 80, 81, 82, 83, 84, 85, 86, 87, 88, 89, 90, 91, 92, 93, 94, 95, 96, 97, 98, 99, 100, 101, 102, 103, 104, 105, 106, 107, 108, 109, 110, 111, 112, 113, 114] (by decide +kernel) (by decide +kernel)
set_option maxRecDepth 20000 in
theorem gX10_fillSet_X10_timely : GoodIn wsX10_fillSet (wsV RX10 358 RX10 yX10_timely wsX10_timely) := goodIn_app (goodIn_of _ (by decide +kernel)) ggX10_fillSet_X10_timely
set_option maxRecDepth 20000 in
theorem ggX10_fillSet_X10_bits : GoodIn wsX10_fillSet wsX10_bits := goodIn_r _ [65] (by decide +kernel) (by decide +kernel)
set_option maxRecDepth 20000 in
theorem gX10_fillSet_X10_bits : GoodIn wsX10_fillSet (va_wsS RX10 337 yX10_bits wsX10_bits) := goodIn_app (goodIn_of _ (by decide +kernel)) ggX10_fillSet_X10_bits
theorem dX10_fillSet_0 : decode cX10_fillSet 0 = .ok (.iconst (-1), 1) := by decide +kernel
theorem dX10_fillSet_1 : decode cX10_fillSet 1 = .ok (.istore_n 1, 1) := by decide +kernel
theorem dX10_fillSet_2 : decode cX10_fillSet 2 = .ok (.iconst 0, 1) := by decide +kernel
theorem dX10_fillSet_3 : decode cX10_fillSet 3 = .ok (.istore_n 2, 1) := by decide +kernel
theorem dX10_fillSet_4 : decode cX10_fillSet 4 = .ok (.iload_n 2, 1) := by decide +kernel
theorem dX10_fillSet_5 : decode cX10_fillSet 5 = .ok (.iconst 1, 1) := by decide +kernel
theorem dX10_fillSet_6 : decode cX10_fillSet 6 = .ok (.aload_n 0, 1) := by decide +kernel
theorem dX10_fillSet_7 : decode cX10_fillSet 7 = .ok (.invokevirtual 261, 3) := by decide +kernel
theorem dX10_fillSet_10 : decode cX10_fillSet 10 = .ok (.ishl, 1) := by decide +kernel
theorem dX10_fillSet_11 : decode cX10_fillSet 11 = .ok (.if_icmp .ge 43, 3) := by decide +kernel
theorem dX10_fillSet_14 : decode cX10_fillSet 14 = .ok (.aload_n 0, 1) := by decide +kernel
theorem dX10_fillSet_15 : decode cX10_fillSet 15 = .ok (.iload_n 2, 1) := by decide +kernel
theorem dX10_fillSet_16 : decode cX10_fillSet 16 = .ok (.putfield 249, 3) := by decide +kernel
theorem dX10_fillSet_19 : decode cX10_fillSet 19 = .ok (.aload_n 0, 1) := by decide +kernel
theorem dX10_fillSet_20 : decode cX10_fillSet 20 = .ok (.invokevirtual 343, 3) := by decide +kernel
theorem dX10_fillSet_23 : decode cX10_fillSet 23 = .ok (.aload_n 0, 1) := by decide +kernel
theorem dX10_fillSet_24 : decode cX10_fillSet 24 = .ok (.invokevirtual 358, 3) := by decide +kernel
theorem dX10_fillSet_27 : decode cX10_fillSet 27 = .ok (.if_icmp .ne 21, 3) := by decide +kernel
theorem dX10_fillSet_30 : decode cX10_fillSet 30 = .ok (.iload_n 1, 1) := by decide +kernel
theorem dX10_fillSet_31 : decode cX10_fillSet 31 = .ok (.iconst (-1), 1) := by decide +kernel
theorem dX10_fillSet_32 : decode cX10_fillSet 32 = .ok (.if_icmp .eq 14, 3) := by decide +kernel
theorem dX10_fillSet_35 : decode cX10_fillSet 35 = .ok (.iload_n 2, 1) := by decide +kernel
theorem dX10_fillSet_36 : decode cX10_fillSet 36 = .ok (.invokestatic 337, 3) := by decide +kernel
theorem dX10_fillSet_39 : decode cX10_fillSet 39 = .ok (.iload_n 1, 1) := by decide +kernel
theorem dX10_fillSet_40 : decode cX10_fillSet 40 = .ok (.invokestatic 337, 3) := by decide +kernel
theorem dX10_fillSet_43 : decode cX10_fillSet 43 = .ok (.if_icmp .ge 5, 3) := by decide +kernel
theorem dX10_fillSet_46 : decode cX10_fillSet 46 = .ok (.iload_n 2, 1) := by decide +kernel
theorem dX10_fillSet_47 : decode cX10_fillSet 47 = .ok (.istore_n 1, 1) := by decide +kernel
theorem dX10_fillSet_48 : decode cX10_fillSet 48 = .ok (.iinc 2 1, 3) := by decide +kernel
theorem dX10_fillSet_51 : decode cX10_fillSet 51 = .ok (.goto (-47), 3) := by decide +kernel
theorem dX10_fillSet_54 : decode cX10_fillSet 54 = .ok (.iload_n 1, 1) := by decide +kernel
theorem dX10_fillSet_55 : decode cX10_fillSet 55 = .ok (.ireturn, 1) := by decide +kernel
set_option maxRecDepth 20000 in
theorem ggX10_fills_X10_asksDukedom : GoodIn wsX10_fills wsX10_asksDukedom := goodIn_r _ [5, 6, 7, 8, 4, 9, 10, 11, 12, 13, 14, 15, 16, 17, 18, 19, 20, 21, 22, 23, 24, 25, 26, 27, 28, 29, 30, 31, 32, 33, 34, 35, 36, 37, 38, 39, 40, 41, 42, 43, 44, 45, 46, 47, 48, 49, 50, 51, 52, 53, 54, 55, 56, 57, 58, 59, 60, 61, 62, 63, 64, 65, 66, 67, 68, 69, 70, 118, 119, 120, 121, 122, 123, 124, 125, 126, 127, 128, 129, 130, 131, 132, 133, 134, 135, 136, 137, 138, 139, 140, 141, 142, 143, 144, 145, 146, 147, 148, 149, 150, 151, 152, 153, 154, 155, 156, 157, 158, 159, 160, 161, 162] (by decide +kernel) (by decide +kernel)
set_option maxRecDepth 20000 in
theorem gX10_fills_X10_asksDukedom : GoodIn wsX10_fills (wsV RX10 285 RX10 yX10_asksDukedom wsX10_asksDukedom) := goodIn_app (goodIn_of _ (by decide +kernel)) ggX10_fills_X10_asksDukedom
set_option maxRecDepth 20000 in
theorem ggX10_fills_X10_fillSet : GoodIn wsX10_fills wsX10_fillSet := goodIn_r _ [74, 12, 48, 49, 50, 4, 51, 10, 75, 76, 77, 78, 79, 80, 81, 82, 83, 84, 85, 86, 87, 88, 89, 90, 91, 92, 93, 94, 64, 65, 66, 95, 96, 97, 98, 99, 100, 101, 102, 16, 52, 53, 54, 55, 13, 56, 57, 58, 103, 104, 105, 106, 47, 107, 108, 109, 110, 17, 18, 25, 26, 27, 28, 111, 112, 113, 114, 115, 116, 117, 118, 119, 120, 121, 122, 123, 124, 125, 126, 127, 128, 129, 130, 131, 132, 133, 134, 135, 136, 137, 138, 139, 140, 141, 142, 143, 144, 145, 146, 147, 148, 149, 150, 151, 152, 153, 154, 155, 156, 157, 158, 159, 160, 161, 162] (by decide +kernel) (by decide +kernel)
set_option maxRecDepth 20000 in
theorem gX10_fills_X10_fillSet : GoodIn wsX10_fills (wsV RX10 361 RX10 yX10_fillSet wsX10_fillSet) := goodIn_app (goodIn_of _ (by decide +kernel)) ggX10_fills_X10_fillSet
set_option maxRecDepth 20000 in
theorem ggX10_fills_X10_bits : GoodIn wsX10_fills wsX10_bits := goodIn_r _ [113] (by decide +kernel) (by decide +kernel)
set_option maxRecDepth 20000 in
theorem gX10_fills_X10_bits : GoodIn wsX10_fills (va_wsS RX10 337 yX10_bits wsX10_bits) := goodIn_app (goodIn_of _ (by decide +kernel)) ggX10_fills_X10_bits
theorem dX10_fills_0 : decode cX10_fills 0 = .ok (.aload_n 0, 1) := by decide +kernel
theorem dX10_fills_1 : decode cX10_fills 1 = .ok (.invokevirtual 285, 3) := by decide +kernel
theorem dX10_fills_4 : decode cX10_fills 4 = .ok (.ifCond .eq 13, 3) := by decide +kernel
theorem dX10_fills_7 : decode cX10_fills 7 = .ok (.aload_n 0, 1) := by decide +kernel
theorem dX10_fills_8 : decode cX10_fills 8 = .ok (.invokevirtual 361, 3) := by decide +kernel
theorem dX10_fills_11 : decode cX10_fills 11 = .ok (.invokestatic 337, 3) := by decide +kernel
theorem dX10_fills_14 : decode cX10_fills 14 = .ok (.goto 5, 3) := by decide +kernel
theorem dX10_fills_17 : decode cX10_fills 17 = .ok (.bipush (-2), 2) := by decide +kernel
theorem dX10_fills_19 : decode cX10_fills 19 = .ok (.ireturn, 1) := by decide +kernel
set_option maxRecDepth 20000 in
theorem ggX10_filled_X10_asksDukedom : GoodIn wsX10_filled wsX10_asksDukedom := goodIn_r _ [5, 6, 7, 8, 4, 9, 10, 11, 12, 13, 14, 15, 16, 17, 18, 19, 20, 21, 22, 23, 24, 25, 26, 27, 28, 29, 30, 31, 32, 33, 34, 35, 36, 37, 38, 39, 40, 41, 42, 43, 44, 45, 46, 47, 48, 49, 50, 51, 52, 53, 54, 55, 56, 57, 58, 59, 60, 61, 62, 63, 64, 65, 66, 67, 68, 69, 70, 118, 119, 120, 121, 122, 123, 124, 125, 126, 127, 128, 129, 130, 131, 132, 133, 134, 135, 136, 137, 138, 139, 140, 141, 142, 143, 144, 145, 146, 147, 148, 149, 150, 151, 152, 153, 154, 155, 156, 157, 158, 159, 160, 161, 162] (by decide +kernel) (by decide +kernel)
set_option maxRecDepth 20000 in
theorem gX10_filled_X10_asksDukedom : GoodIn wsX10_filled (wsV RX10 285 RX10 yX10_asksDukedom wsX10_asksDukedom) := goodIn_app (goodIn_of _ (by decide +kernel)) ggX10_filled_X10_asksDukedom
set_option maxRecDepth 20000 in
theorem ggX10_filled_X10_fillSet : GoodIn wsX10_filled wsX10_fillSet := goodIn_r _ [74, 12, 48, 49, 50, 4, 51, 10, 75, 76, 77, 78, 79, 80, 81, 82, 83, 84, 85, 86, 87, 88, 89, 90, 91, 92, 93, 94, 64, 65, 66, 95, 96, 97, 98, 99, 100, 101, 102, 16, 52, 53, 54, 55, 13, 56, 57, 58, 103, 104, 105, 106, 47, 107, 108, 109, 110, 17, 18, 25, 26, 27, 28, 111, 112, 113, 114, 115, 116, 117, 118, 119, 120, 121, 122, 123, 124, 125, 126, 127, 128, 129, 130, 131, 132, 133, 134, 135, 136, 137, 138, 139, 140, 141, 142, 143, 144, 145, 146, 147, 148, 149, 150, 151, 152, 153, 154, 155, 156, 157, 158, 159, 160, 161, 162] (by decide +kernel) (by decide +kernel)
set_option maxRecDepth 20000 in
theorem gX10_filled_X10_fillSet : GoodIn wsX10_filled (wsV RX10 361 RX10 yX10_fillSet wsX10_fillSet) := goodIn_app (goodIn_of _ (by decide +kernel)) ggX10_filled_X10_fillSet
theorem dX10_filled_0 : decode cX10_filled 0 = .ok (.aload_n 0, 1) := by decide +kernel
theorem dX10_filled_1 : decode cX10_filled 1 = .ok (.invokevirtual 285, 3) := by decide +kernel
theorem dX10_filled_4 : decode cX10_filled 4 = .ok (.ifCond .eq 10, 3) := by decide +kernel
theorem dX10_filled_7 : decode cX10_filled 7 = .ok (.aload_n 0, 1) := by decide +kernel
theorem dX10_filled_8 : decode cX10_filled 8 = .ok (.invokevirtual 361, 3) := by decide +kernel
theorem dX10_filled_11 : decode cX10_filled 11 = .ok (.goto 5, 3) := by decide +kernel
theorem dX10_filled_14 : decode cX10_filled 14 = .ok (.bipush (-2), 2) := by decide +kernel
theorem dX10_filled_16 : decode cX10_filled 16 = .ok (.ireturn, 1) := by decide +kernel
set_option maxRecDepth 20000 in
theorem ggX10_path_X10_asksDukedom : GoodIn wsX10_path wsX10_asksDukedom := goodIn_r _ [6, 7, 8, 9, 5, 10, 11, 12, 1, 13, 14, 15, 16, 17, 18, 19, 20, 21, 22, 23, 24, 25, 26, 27, 28, 29, 30, 31, 32, 33, 34, 35, 36, 37, 38, 39, 40, 41, 42, 43, 44, 45, 46, 47, 48, 49, 50, 51, 52, 53, 54, 55, 56, 57, 58, 59, 60, 61, 62, 63, 64, 65, 66, 67, 68, 69, 70, 110, 111, 112, 113, 114, 115, 116, 117, 118, 119, 120, 121, 122, 123, 124, 125, 126, 127, 128, 129, 130, 131, 132, 133, 134, 135, 136, 137, 138, 139, 140, 141, 142, 143, 144, 145, 146, 147, 148, 149, 150, 151, 152, 153, 154] (by decide +kernel) (by decide +kernel)
set_option maxRecDepth 20000 in
theorem gX10_path_X10_asksDukedom : GoodIn wsX10_path (wsV RX10 285 RX10 yX10_asksDukedom wsX10_asksDukedom) := goodIn_app (goodIn_of _ (by decide +kernel)) ggX10_path_X10_asksDukedom
set_option maxRecDepth 20000 in
theorem ggX10_path_X10_keptMany : GoodIn wsX10_path wsX10_keptMany := goodIn_r _ [74, 75, 76, 77, 5, 78, 11, 79, 80, 81, 82, 83, 84, 85, 86, 87, 88, 89, 90, 64, 65, 66, 91, 92, 93, 94, 95, 96, 97, 98, 16, 1, 52, 53, 54, 55, 13, 56, 57, 58, 99, 100, 101, 102, 47, 103, 104, 105, 106, 17, 18, 25, 26, 27, 28, 107, 108, 109, 110, 111, 112, 113, 114, 115, 116, 117, 118, 119, 120, 121, 122, 123, 124, 125, 126, 127, 128, 129, 130, 131, 132, 133, 134, 135, 136, 137, 138, 139, 140, 141, 142, 143, 144, 145, 146, 147, 148, 149, 150, 151, 152, 153, 154] (by decide +kernel) (by decide +kernel)
set_option maxRecDepth 20000 in
theorem gX10_path_X10_keptMany : GoodIn wsX10_path (wsV RX10 343 RX10 yX10_keptMany wsX10_keptMany) := goodIn_app (goodIn_of _ (by decide +kernel)) ggX10_path_X10_keptMany
set_option maxRecDepth 20000 in
theorem ggX10_path_X10_ranks : GoodIn wsX10_path wsX10_ranks := goodIn_r _ [51, 11, 110, 111, 112, 113, 114, 115, 116, 117, 118, 119, 120, 121, 122, 123, 124, 125, 126, 127, 128, 129, 130, 131, 132, 133, 134, 135, 136, 137, 138, 139, 140, 141, 142, 143, 144, 145, 146, 147, 148, 149, 150, 151, 152, 153, 154] (by decide +kernel) (by decide +kernel)
set_option maxRecDepth 20000 in
theorem gX10_path_X10_ranks : GoodIn wsX10_path (wsV RX10 261 RX10 yX10_ranks wsX10_ranks) := goodIn_app (goodIn_of _ (by decide +kernel)) ggX10_path_X10_ranks
theorem dX10_path_0 : decode cX10_path 0 = .ok (.aload_n 0, 1) := by decide +kernel
theorem dX10_path_1 : decode cX10_path 1 = .ok (.invokevirtual 285, 3) := by decide +kernel
theorem dX10_path_4 : decode cX10_path 4 = .ok (.ifCond .ne 6, 3) := by decide +kernel
theorem dX10_path_7 : decode cX10_path 7 = .ok (.bipush (-2), 2) := by decide +kernel
theorem dX10_path_9 : decode cX10_path 9 = .ok (.ireturn, 1) := by decide +kernel
theorem dX10_path_10 : decode cX10_path 10 = .ok (.aload_n 0, 1) := by decide +kernel
theorem dX10_path_11 : decode cX10_path 11 = .ok (.invokevirtual 343, 3) := by decide +kernel
theorem dX10_path_14 : decode cX10_path 14 = .ok (.istore_n 1, 1) := by decide +kernel
theorem dX10_path_15 : decode cX10_path 15 = .ok (.iconst (-1), 1) := by decide +kernel
theorem dX10_path_16 : decode cX10_path 16 = .ok (.istore_n 2, 1) := by decide +kernel
theorem dX10_path_17 : decode cX10_path 17 = .ok (.iconst 0, 1) := by decide +kernel
theorem dX10_path_18 : decode cX10_path 18 = .ok (.istore_n 3, 1) := by decide +kernel
theorem dX10_path_19 : decode cX10_path 19 = .ok (.iload_n 3, 1) := by decide +kernel
theorem dX10_path_20 : decode cX10_path 20 = .ok (.aload_n 0, 1) := by decide +kernel
theorem dX10_path_21 : decode cX10_path 21 = .ok (.invokevirtual 261, 3) := by decide +kernel
theorem dX10_path_24 : decode cX10_path 24 = .ok (.if_icmp .ge 34, 3) := by decide +kernel
theorem dX10_path_27 : decode cX10_path 27 = .ok (.aload_n 0, 1) := by decide +kernel
theorem dX10_path_28 : decode cX10_path 28 = .ok (.iconst 1, 1) := by decide +kernel
theorem dX10_path_29 : decode cX10_path 29 = .ok (.iload_n 3, 1) := by decide +kernel
theorem dX10_path_30 : decode cX10_path 30 = .ok (.ishl, 1) := by decide +kernel
theorem dX10_path_31 : decode cX10_path 31 = .ok (.putfield 249, 3) := by decide +kernel
theorem dX10_path_34 : decode cX10_path 34 = .ok (.aload_n 0, 1) := by decide +kernel
theorem dX10_path_35 : decode cX10_path 35 = .ok (.invokevirtual 343, 3) := by decide +kernel
theorem dX10_path_38 : decode cX10_path 38 = .ok (.iload_n 1, 1) := by decide +kernel
theorem dX10_path_39 : decode cX10_path 39 = .ok (.if_icmp .gt 6, 3) := by decide +kernel
theorem dX10_path_42 : decode cX10_path 42 = .ok (.goto 10, 3) := by decide +kernel
theorem dX10_path_45 : decode cX10_path 45 = .ok (.aload_n 0, 1) := by decide +kernel
theorem dX10_path_46 : decode cX10_path 46 = .ok (.invokevirtual 343, 3) := by decide +kernel
theorem dX10_path_49 : decode cX10_path 49 = .ok (.istore_n 1, 1) := by decide +kernel
theorem dX10_path_50 : decode cX10_path 50 = .ok (.iload_n 3, 1) := by decide +kernel
theorem dX10_path_51 : decode cX10_path 51 = .ok (.istore_n 2, 1) := by decide +kernel
theorem dX10_path_52 : decode cX10_path 52 = .ok (.iinc 3 1, 3) := by decide +kernel
theorem dX10_path_55 : decode cX10_path 55 = .ok (.goto (-36), 3) := by decide +kernel
theorem dX10_path_58 : decode cX10_path 58 = .ok (.iload_n 2, 1) := by decide +kernel
theorem dX10_path_59 : decode cX10_path 59 = .ok (.ireturn, 1) := by decide +kernel
set_option maxRecDepth 20000 in
theorem ggX10_drain_X10_asksRank : GoodIn wsX10_drain wsX10_asksRank := goodIn_r _ [6, 7, 8, 9, 5, 10, 11, 12, 13, 14, 15, 16, 17, 18, 19, 1, 20, 21, 22, 23, 24, 25, 26, 27, 28, 29, 30, 31, 32, 33, 34, 35, 36, 37, 38, 39, 40, 41, 42, 43, 44, 45, 46, 47, 48, 49, 50, 51, 52, 53, 54, 55, 56, 57, 58, 59, 60, 61, 62, 63, 64, 65, 66, 67, 68, 69, 70, 71, 72, 73, 74, 75, 76, 77, 78, 118, 119, 120, 121, 122, 123, 124, 125, 126, 127, 128, 129, 130, 131, 132, 133, 134, 135, 136, 137, 138, 139, 140, 141, 142, 143, 144, 145, 146, 147, 148, 149, 150, 151, 152, 153, 154, 155, 156, 157, 158, 159, 160, 161, 162] (by decide +kernel) (by decide +kernel)
set_option maxRecDepth 20000 in
theorem gX10_drain_X10_asksRank : GoodIn wsX10_drain (wsV RX10 297 RX10 yX10_asksRank wsX10_asksRank) := goodIn_app (goodIn_of _ (by decide +kernel)) ggX10_drain_X10_asksRank
set_option maxRecDepth 20000 in
theorem ggX10_drain_X10_goAll : GoodIn wsX10_drain wsX10_goAll := goodIn_r _ [36, 37, 19, 38, 39, 40, 5, 41, 15, 42, 43, 44, 45, 46, 23, 1, 47, 48, 27, 49, 50, 16, 24, 51, 52, 53, 54, 55, 56, 57, 58, 59, 18, 60, 61, 62, 63, 64, 65, 66, 25, 26, 28, 67, 29, 30, 31, 32, 68, 69, 70, 118, 119, 120, 121, 122, 123, 124, 125, 126, 127, 128, 129, 130, 131, 132, 133, 134, 135, 136, 137, 138, 139, 140, 141, 142, 143, 144, 145, 146, 147, 148, 149, 150, 151, 152, 153, 154, 155, 156, 157, 158, 159, 160, 161, 162] (by decide +kernel) (by decide +kernel)
set_option maxRecDepth 20000 in
theorem gX10_drain_X10_goAll : GoodIn wsX10_drain (wsV RX10 279 RX10 yX10_goAll wsX10_goAll) := goodIn_app (goodIn_of _ (by decide +kernel)) ggX10_drain_X10_goAll
set_option maxRecDepth 20000 in
theorem ggX10_drain_X10_keptMany : GoodIn wsX10_drain wsX10_keptMany := goodIn_r _ [82, 83, 84, 85, 5, 86, 15, 87, 88, 89, 90, 91, 92, 93, 94, 95, 96, 97, 98, 68, 69, 70, 99, 100, 101, 102, 103, 104, 105, 106, 20, 17, 56, 57, 58, 59, 18, 60, 61, 62, 107, 108, 109, 110, 51, 111, 112, 113, 114, 21, 22, 29, 30, 31, 32, 115, 116, 117, 118, 119, 120, 121, 122, 123, 124, 125, 126, 127, 128, 129, 130, 131, 132, 133, 134, 135, 136, 137, 138, 139, 140, 141, 142, 143, 144, 145, 146, 147, 148, 149, 150, 151, 152, 153, 154, 155, 156, 157, 158, 159, 160, 161, 162] (by decide +kernel) (by decide +kernel)
set_option maxRecDepth 20000 in
theorem gX10_drain_X10_keptMany : GoodIn wsX10_drain (wsV RX10 343 RX10 yX10_keptMany wsX10_keptMany) := goodIn_app (goodIn_of _ (by decide +kernel)) ggX10_drain_X10_keptMany
theorem dX10_drain_0 : decode cX10_drain 0 = .ok (.aload_n 0, 1) := by decide +kernel
theorem dX10_drain_1 : decode cX10_drain 1 = .ok (.iload_n 1, 1) := by decide +kernel
theorem dX10_drain_2 : decode cX10_drain 2 = .ok (.invokevirtual 297, 3) := by decide +kernel
theorem dX10_drain_5 : decode cX10_drain 5 = .ok (.ifCond .ne 6, 3) := by decide +kernel
theorem dX10_drain_8 : decode cX10_drain 8 = .ok (.bipush (-2), 2) := by decide +kernel
theorem dX10_drain_10 : decode cX10_drain 10 = .ok (.ireturn, 1) := by decide +kernel
theorem dX10_drain_11 : decode cX10_drain 11 = .ok (.iconst 0, 1) := by decide +kernel
theorem dX10_drain_12 : decode cX10_drain 12 = .ok (.istore_n 2, 1) := by decide +kernel
theorem dX10_drain_13 : decode cX10_drain 13 = .ok (.iconst (-1), 1) := by decide +kernel
theorem dX10_drain_14 : decode cX10_drain 14 = .ok (.istore_n 3, 1) := by decide +kernel
theorem dX10_drain_15 : decode cX10_drain 15 = .ok (.iconst 0, 1) := by decide +kernel
theorem dX10_drain_16 : decode cX10_drain 16 = .ok (.istore 4, 2) := by decide +kernel
theorem dX10_drain_18 : decode cX10_drain 18 = .ok (.iload 4, 2) := by decide +kernel
theorem dX10_drain_20 : decode cX10_drain 20 = .ok (.bipush 20, 2) := by decide +kernel
theorem dX10_drain_22 : decode cX10_drain 22 = .ok (.if_icmp .gt 40, 3) := by decide +kernel
theorem dX10_drain_25 : decode cX10_drain 25 = .ok (.aload_n 0, 1) := by decide +kernel
theorem dX10_drain_26 : decode cX10_drain 26 = .ok (.getfield 37, 3) := by decide +kernel
theorem dX10_drain_29 : decode cX10_drain 29 = .ok (.iload_n 1, 1) := by decide +kernel
theorem dX10_drain_30 : decode cX10_drain 30 = .ok (.iload 4, 2) := by decide +kernel
theorem dX10_drain_32 : decode cX10_drain 32 = .ok (.iastore, 1) := by decide +kernel
theorem dX10_drain_33 : decode cX10_drain 33 = .ok (.aload_n 0, 1) := by decide +kernel
theorem dX10_drain_34 : decode cX10_drain 34 = .ok (.invokevirtual 279, 3) := by decide +kernel
theorem dX10_drain_37 : decode cX10_drain 37 = .ok (.aload_n 0, 1) := by decide +kernel
theorem dX10_drain_38 : decode cX10_drain 38 = .ok (.invokevirtual 343, 3) := by decide +kernel
theorem dX10_drain_41 : decode cX10_drain 41 = .ok (.iload_n 3, 1) := by decide +kernel
theorem dX10_drain_42 : decode cX10_drain 42 = .ok (.if_icmp .gt 6, 3) := by decide +kernel
theorem dX10_drain_45 : decode cX10_drain 45 = .ok (.goto 11, 3) := by decide +kernel
theorem dX10_drain_48 : decode cX10_drain 48 = .ok (.aload_n 0, 1) := by decide +kernel
theorem dX10_drain_49 : decode cX10_drain 49 = .ok (.invokevirtual 343, 3) := by decide +kernel
theorem dX10_drain_52 : decode cX10_drain 52 = .ok (.istore_n 3, 1) := by decide +kernel
theorem dX10_drain_53 : decode cX10_drain 53 = .ok (.iload 4, 2) := by decide +kernel
theorem dX10_drain_55 : decode cX10_drain 55 = .ok (.istore_n 2, 1) := by decide +kernel
theorem dX10_drain_56 : decode cX10_drain 56 = .ok (.iinc 4 1, 3) := by decide +kernel
theorem dX10_drain_59 : decode cX10_drain 59 = .ok (.goto (-41), 3) := by decide +kernel
theorem dX10_drain_62 : decode cX10_drain 62 = .ok (.iload_n 2, 1) := by decide +kernel
theorem dX10_drain_63 : decode cX10_drain 63 = .ok (.ireturn, 1) := by decide +kernel
set_option maxRecDepth 20000 in
theorem ggX10_learns_X10_asksRank : GoodIn wsX10_learns wsX10_asksRank := goodIn_r _ [7, 8, 9, 10, 6, 11, 12, 13, 14, 15, 1, 16, 17, 18, 19, 20, 2, 21, 22, 23, 24, 25, 26, 27, 28, 29, 30, 31, 32, 33, 34, 35, 36, 37, 38, 39, 40, 41, 42, 43, 44, 45, 46, 47, 48, 49, 50, 51, 52, 53, 54, 55, 56, 57, 58, 59, 60, 61, 62, 63, 64, 65, 66, 67, 68, 69, 70, 71, 72, 73, 74, 75, 76, 77, 78, 111, 112, 113, 114, 115, 116, 117, 118, 119, 120, 121, 122, 123, 124, 125, 126, 127, 128, 129, 130, 131, 132, 133, 134, 135, 136, 137, 138, 139, 140, 141, 142, 143, 144, 145, 146, 147, 148, 149, 150, 151, 152, 153, 154, 155] (by decide +kernel) (by decide +kernel)
set_option maxRecDepth 20000 in
theorem gX10_learns_X10_asksRank : GoodIn wsX10_learns (wsV RX10 297 RX10 yX10_asksRank wsX10_asksRank) := goodIn_app (goodIn_of _ (by decide +kernel)) ggX10_learns_X10_asksRank
set_option maxRecDepth 20000 in
theorem ggX10_learns_X10_inviteOf : GoodIn wsX10_learns wsX10_inviteOf := goodIn_r _ [82, 1, 111, 112, 113, 114, 115, 116, 117, 118, 119, 120, 121, 122, 123, 124, 125, 126, 127, 128, 129, 130, 131, 132, 133, 134, 135, 136, 137, 138, 139, 140, 141, 142, 143, 144, 145, 146, 147, 148, 149, 150, 151, 152, 153, 154, 155] (by decide +kernel) (by decide +kernel)
set_option maxRecDepth 20000 in
theorem gX10_learns_X10_inviteOf : GoodIn wsX10_learns (wsV RX10 243 RX10 yX10_inviteOf wsX10_inviteOf) := goodIn_app (goodIn_of _ (by decide +kernel)) ggX10_learns_X10_inviteOf
set_option maxRecDepth 20000 in
theorem ggX10_learns_X10_isYear : GoodIn wsX10_learns wsX10_isYear := goodIn_r _ [86, 1, 68, 69, 6, 70, 111, 112, 113, 114, 115, 116, 117, 118, 119, 120, 121, 122, 123, 124, 125, 126, 127, 128, 129, 130, 131, 132, 133, 134, 135, 136, 137, 138, 139, 140, 141, 142, 143, 144, 145, 146, 147, 148, 149, 150, 151, 152, 153, 154, 155] (by decide +kernel) (by decide +kernel)
set_option maxRecDepth 20000 in
theorem gX10_learns_X10_isYear : GoodIn wsX10_learns (wsV RX10 288 RX10 yX10_isYear wsX10_isYear) := goodIn_app (goodIn_of _ (by decide +kernel)) ggX10_learns_X10_isYear
set_option maxRecDepth 20000 in
theorem ggX10_learns_X10_keptOf : GoodIn wsX10_learns wsX10_keptOf := goodIn_r _ [90, 1, 79, 80, 81, 6, 82, 91, 92, 93, 94, 83, 84, 85, 86, 68, 69, 70, 95, 96, 97, 98, 99, 100, 101, 102, 2, 17, 56, 57, 58, 59, 18, 60, 61, 62, 103, 104, 105, 106, 51, 107, 108, 109, 110, 21, 22, 29, 30, 31, 32, 111, 112, 113, 114, 115, 116, 117, 118, 119, 120, 121, 122, 123, 124, 125, 126, 127, 128, 129, 130, 131, 132, 133, 134, 135, 136, 137, 138, 139, 140, 141, 142, 143, 144, 145, 146, 147, 148, 149, 150, 151, 152, 153, 154, 155] (by decide +kernel) (by decide +kernel)
set_option maxRecDepth 20000 in
theorem gX10_learns_X10_keptOf : GoodIn wsX10_learns (wsV RX10 340 RX10 yX10_keptOf wsX10_keptOf) := goodIn_app (goodIn_of _ (by decide +kernel)) ggX10_learns_X10_keptOf
theorem dX10_learns_0 : decode cX10_learns 0 = .ok (.aload_n 0, 1) := by decide +kernel
theorem dX10_learns_1 : decode cX10_learns 1 = .ok (.iload_n 1, 1) := by decide +kernel
theorem dX10_learns_2 : decode cX10_learns 2 = .ok (.invokevirtual 297, 3) := by decide +kernel
theorem dX10_learns_5 : decode cX10_learns 5 = .ok (.ifCond .ne 6, 3) := by decide +kernel
theorem dX10_learns_8 : decode cX10_learns 8 = .ok (.bipush (-2), 2) := by decide +kernel
theorem dX10_learns_10 : decode cX10_learns 10 = .ok (.ireturn, 1) := by decide +kernel
theorem dX10_learns_11 : decode cX10_learns 11 = .ok (.iconst 0, 1) := by decide +kernel
theorem dX10_learns_12 : decode cX10_learns 12 = .ok (.istore_n 2, 1) := by decide +kernel
theorem dX10_learns_13 : decode cX10_learns 13 = .ok (.iconst 0, 1) := by decide +kernel
theorem dX10_learns_14 : decode cX10_learns 14 = .ok (.istore_n 3, 1) := by decide +kernel
theorem dX10_learns_15 : decode cX10_learns 15 = .ok (.iload_n 3, 1) := by decide +kernel
theorem dX10_learns_16 : decode cX10_learns 16 = .ok (.aload_n 0, 1) := by decide +kernel
theorem dX10_learns_17 : decode cX10_learns 17 = .ok (.getfield 9, 3) := by decide +kernel
theorem dX10_learns_20 : decode cX10_learns 20 = .ok (.bipush 7, 2) := by decide +kernel
theorem dX10_learns_22 : decode cX10_learns 22 = .ok (.iaload, 1) := by decide +kernel
theorem dX10_learns_23 : decode cX10_learns 23 = .ok (.if_icmp .ge 41, 3) := by decide +kernel
theorem dX10_learns_26 : decode cX10_learns 26 = .ok (.iload_n 2, 1) := by decide +kernel
theorem dX10_learns_27 : decode cX10_learns 27 = .ok (.aload_n 0, 1) := by decide +kernel
theorem dX10_learns_28 : decode cX10_learns 28 = .ok (.iload_n 3, 1) := by decide +kernel
theorem dX10_learns_29 : decode cX10_learns 29 = .ok (.iconst 0, 1) := by decide +kernel
theorem dX10_learns_30 : decode cX10_learns 30 = .ok (.invokevirtual 243, 3) := by decide +kernel
theorem dX10_learns_33 : decode cX10_learns 33 = .ok (.iload_n 1, 1) := by decide +kernel
theorem dX10_learns_34 : decode cX10_learns 34 = .ok (.if_icmp .ne 21, 3) := by decide +kernel
theorem dX10_learns_37 : decode cX10_learns 37 = .ok (.aload_n 0, 1) := by decide +kernel
theorem dX10_learns_38 : decode cX10_learns 38 = .ok (.aload_n 0, 1) := by decide +kernel
theorem dX10_learns_39 : decode cX10_learns 39 = .ok (.iload_n 3, 1) := by decide +kernel
theorem dX10_learns_40 : decode cX10_learns 40 = .ok (.iconst 2, 1) := by decide +kernel
theorem dX10_learns_41 : decode cX10_learns 41 = .ok (.invokevirtual 243, 3) := by decide +kernel
theorem dX10_learns_44 : decode cX10_learns 44 = .ok (.i2l, 1) := by decide +kernel
theorem dX10_learns_45 : decode cX10_learns 45 = .ok (.invokevirtual 288, 3) := by decide +kernel
theorem dX10_learns_48 : decode cX10_learns 48 = .ok (.ifCond .eq 7, 3) := by decide +kernel
theorem dX10_learns_51 : decode cX10_learns 51 = .ok (.iconst 1, 1) := by decide +kernel
theorem dX10_learns_52 : decode cX10_learns 52 = .ok (.goto 4, 3) := by decide +kernel
theorem dX10_learns_55 : decode cX10_learns 55 = .ok (.iconst 0, 1) := by decide +kernel
theorem dX10_learns_56 : decode cX10_learns 56 = .ok (.iadd, 1) := by decide +kernel
theorem dX10_learns_57 : decode cX10_learns 57 = .ok (.istore_n 2, 1) := by decide +kernel
theorem dX10_learns_58 : decode cX10_learns 58 = .ok (.iinc 3 1, 3) := by decide +kernel
theorem dX10_learns_61 : decode cX10_learns 61 = .ok (.goto (-46), 3) := by decide +kernel
theorem dX10_learns_64 : decode cX10_learns 64 = .ok (.aload_n 0, 1) := by decide +kernel
theorem dX10_learns_65 : decode cX10_learns 65 = .ok (.getfield 40, 3) := by decide +kernel
theorem dX10_learns_68 : decode cX10_learns 68 = .ok (.iload_n 1, 1) := by decide +kernel
theorem dX10_learns_69 : decode cX10_learns 69 = .ok (.iconst 0, 1) := by decide +kernel
theorem dX10_learns_70 : decode cX10_learns 70 = .ok (.iastore, 1) := by decide +kernel
theorem dX10_learns_71 : decode cX10_learns 71 = .ok (.aload_n 0, 1) := by decide +kernel
theorem dX10_learns_72 : decode cX10_learns 72 = .ok (.iload_n 1, 1) := by decide +kernel
theorem dX10_learns_73 : decode cX10_learns 73 = .ok (.iconst 0, 1) := by decide +kernel
theorem dX10_learns_74 : decode cX10_learns 74 = .ok (.invokevirtual 340, 3) := by decide +kernel
theorem dX10_learns_77 : decode cX10_learns 77 = .ok (.iload_n 2, 1) := by decide +kernel
theorem dX10_learns_78 : decode cX10_learns 78 = .ok (.if_icmp .ge 16, 3) := by decide +kernel
theorem dX10_learns_81 : decode cX10_learns 81 = .ok (.aload_n 0, 1) := by decide +kernel
theorem dX10_learns_82 : decode cX10_learns 82 = .ok (.getfield 40, 3) := by decide +kernel
theorem dX10_learns_85 : decode cX10_learns 85 = .ok (.iload_n 1, 1) := by decide +kernel
theorem dX10_learns_86 : decode cX10_learns 86 = .ok (.dup2, 1) := by decide +kernel
theorem dX10_learns_87 : decode cX10_learns 87 = .ok (.iaload, 1) := by decide +kernel
theorem dX10_learns_88 : decode cX10_learns 88 = .ok (.iconst 1, 1) := by decide +kernel
theorem dX10_learns_89 : decode cX10_learns 89 = .ok (.iadd, 1) := by decide +kernel
theorem dX10_learns_90 : decode cX10_learns 90 = .ok (.iastore, 1) := by decide +kernel
theorem dX10_learns_91 : decode cX10_learns 91 = .ok (.goto (-20), 3) := by decide +kernel
theorem dX10_learns_94 : decode cX10_learns 94 = .ok (.aload_n 0, 1) := by decide +kernel
theorem dX10_learns_95 : decode cX10_learns 95 = .ok (.getfield 40, 3) := by decide +kernel
theorem dX10_learns_98 : decode cX10_learns 98 = .ok (.iload_n 1, 1) := by decide +kernel
theorem dX10_learns_99 : decode cX10_learns 99 = .ok (.iaload, 1) := by decide +kernel
theorem dX10_learns_100 : decode cX10_learns 100 = .ok (.ireturn, 1) := by decide +kernel
set_option maxRecDepth 20000 in
theorem ggX10_keptBy_X10_goAll : GoodIn wsX10_keptBy wsX10_goAll := goodIn_r _ [6, 7, 8, 9, 10, 11, 5, 12, 13, 14, 15, 16, 17, 18, 19, 20, 21, 22, 23, 24, 25, 1, 26, 27, 28, 29, 30, 31, 32, 33, 34, 35, 36, 37, 38, 39, 40, 41, 42, 43, 44, 45, 46, 47, 48, 49, 50, 51, 52, 53, 54, 98, 99, 100, 101, 102, 103, 104, 105, 106, 107, 108, 109, 110, 111, 112, 113, 114, 115, 116, 117, 118, 119, 120, 121, 122, 123, 124, 125, 126, 127, 128, 129, 130, 131, 132, 133, 134, 135, 136, 137, 138, 139, 140, 141, 142] (by decide +kernel) (by decide +kernel)
set_option maxRecDepth 20000 in
theorem gX10_keptBy_X10_goAll : GoodIn wsX10_keptBy (wsV RX10 279 RX10 yX10_goAll wsX10_goAll) := goodIn_app (goodIn_of _ (by decide +kernel)) ggX10_keptBy_X10_goAll
set_option maxRecDepth 20000 in
theorem ggX10_keptBy_X10_keptMany : GoodIn wsX10_keptBy wsX10_keptMany := goodIn_r _ [58, 59, 60, 61, 5, 62, 13, 63, 64, 65, 66, 67, 68, 69, 70, 71, 72, 73, 74, 52, 53, 54, 75, 76, 77, 78, 79, 80, 81, 82, 83, 84, 32, 33, 34, 35, 36, 37, 38, 39, 85, 86, 87, 88, 27, 89, 90, 91, 92, 93, 94, 48, 49, 50, 51, 95, 96, 97, 98, 99, 100, 101, 102, 103, 104, 105, 106, 107, 108, 109, 110, 111, 112, 113, 114, 115, 116, 117, 118, 119, 120, 121, 122, 123, 124, 125, 126, 127, 128, 129, 130, 131, 132, 133, 134, 135, 136, 137, 138, 139, 140, 141, 142] (by decide +kernel) (by decide +kernel)
set_option maxRecDepth 20000 in
theorem gX10_keptBy_X10_keptMany : GoodIn wsX10_keptBy (wsV RX10 343 RX10 yX10_keptMany wsX10_keptMany) := goodIn_app (goodIn_of _ (by decide +kernel)) ggX10_keptBy_X10_keptMany
theorem dX10_keptBy_0 : decode cX10_keptBy 0 = .ok (.aload_n 0, 1) := by decide +kernel
theorem dX10_keptBy_1 : decode cX10_keptBy 1 = .ok (.iload_n 1, 1) := by decide +kernel
theorem dX10_keptBy_2 : decode cX10_keptBy 2 = .ok (.putfield 246, 3) := by decide +kernel
theorem dX10_keptBy_5 : decode cX10_keptBy 5 = .ok (.aload_n 0, 1) := by decide +kernel
theorem dX10_keptBy_6 : decode cX10_keptBy 6 = .ok (.invokevirtual 279, 3) := by decide +kernel
theorem dX10_keptBy_9 : decode cX10_keptBy 9 = .ok (.aload_n 0, 1) := by decide +kernel
theorem dX10_keptBy_10 : decode cX10_keptBy 10 = .ok (.invokevirtual 343, 3) := by decide +kernel
theorem dX10_keptBy_13 : decode cX10_keptBy 13 = .ok (.ireturn, 1) := by decide +kernel
set_option maxRecDepth 20000 in
theorem ggX10_by_X10_asksDukedom : GoodIn wsX10_by wsX10_asksDukedom := goodIn_r _ [6, 7, 8, 9, 5, 10, 11, 12, 13, 14, 15, 16, 17, 18, 19, 20, 21, 22, 23, 24, 25, 26, 27, 28, 29, 30, 31, 32, 33, 34, 35, 36, 37, 38, 39, 40, 41, 42, 43, 44, 45, 46, 47, 48, 49, 50, 51, 52, 53, 54, 55, 56, 57, 58, 59, 60, 61, 62, 63, 64, 65, 66, 67, 68, 69, 70, 71, 115, 116, 117, 118, 119, 120, 121, 122, 123, 124, 125, 126, 127, 128, 129, 130, 131, 132, 133, 134, 135, 136, 137, 138, 139, 140, 141, 142, 143, 144, 145, 146, 147, 148, 149, 150, 151, 152, 153, 154, 155, 156, 157, 158, 159] (by decide +kernel) (by decide +kernel)
set_option maxRecDepth 20000 in
theorem gX10_by_X10_asksDukedom : GoodIn wsX10_by (wsV RX10 285 RX10 yX10_asksDukedom wsX10_asksDukedom) := goodIn_app (goodIn_of _ (by decide +kernel)) ggX10_by_X10_asksDukedom
set_option maxRecDepth 20000 in
theorem ggX10_by_X10_in : GoodIn wsX10_by wsX10_in := goodIn_r _ [67] (by decide +kernel) (by decide +kernel)
set_option maxRecDepth 20000 in
theorem gX10_by_X10_in : GoodIn wsX10_by (va_wsS RX10 100 yX10_in wsX10_in) := goodIn_app (goodIn_of _ (by decide +kernel)) ggX10_by_X10_in
set_option maxRecDepth 20000 in
theorem ggX10_by_X10_keptBy : GoodIn wsX10_by wsX10_keptBy := goodIn_r _ [75, 12, 30, 31, 32, 5, 33, 34, 15, 35, 36, 37, 38, 11, 39, 40, 41, 42, 43, 20, 16, 44, 45, 24, 46, 47, 21, 48, 49, 50, 51, 52, 53, 54, 55, 56, 14, 57, 58, 59, 60, 61, 62, 63, 22, 23, 25, 64, 26, 27, 28, 29, 65, 66, 67, 76, 77, 78, 79, 80, 81, 82, 83, 84, 85, 86, 87, 88, 89, 90, 91, 92, 93, 94, 95, 96, 97, 98, 99, 100, 101, 102, 103, 17, 13, 104, 105, 106, 107, 108, 109, 110, 111, 18, 19, 112, 113, 114, 115, 116, 117, 118, 119, 120, 121, 122, 123, 124, 125, 126, 127, 128, 129, 130, 131, 132, 133, 134, 135, 136, 137, 138, 139, 140, 141, 142, 143, 144, 145, 146, 147, 148, 149, 150, 151, 152, 153, 154, 155, 156, 157, 158, 159] (by decide +kernel) (by decide +kernel)
set_option maxRecDepth 20000 in
theorem gX10_by_X10_keptBy : GoodIn wsX10_by (wsV RX10 364 RX10 yX10_keptBy wsX10_keptBy) := goodIn_app (goodIn_of _ (by decide +kernel)) ggX10_by_X10_keptBy
theorem dX10_by_0 : decode cX10_by 0 = .ok (.aload_n 0, 1) := by decide +kernel
theorem dX10_by_1 : decode cX10_by 1 = .ok (.invokevirtual 285, 3) := by decide +kernel
theorem dX10_by_4 : decode cX10_by 4 = .ok (.ifCond .eq 23, 3) := by decide +kernel
theorem dX10_by_7 : decode cX10_by 7 = .ok (.iload_n 1, 1) := by decide +kernel
theorem dX10_by_8 : decode cX10_by 8 = .ok (.i2l, 1) := by decide +kernel
theorem dX10_by_9 : decode cX10_by 9 = .ok (.lconst 0, 1) := by decide +kernel
theorem dX10_by_10 : decode cX10_by 10 = .ok (.ldc2_w 234, 3) := by decide +kernel
theorem dX10_by_13 : decode cX10_by 13 = .ok (.invokestatic 100, 3) := by decide +kernel
theorem dX10_by_16 : decode cX10_by 16 = .ok (.ifCond .eq 11, 3) := by decide +kernel
theorem dX10_by_19 : decode cX10_by 19 = .ok (.aload_n 0, 1) := by decide +kernel
theorem dX10_by_20 : decode cX10_by 20 = .ok (.iload_n 1, 1) := by decide +kernel
theorem dX10_by_21 : decode cX10_by 21 = .ok (.invokevirtual 364, 3) := by decide +kernel
theorem dX10_by_24 : decode cX10_by 24 = .ok (.goto 5, 3) := by decide +kernel
theorem dX10_by_27 : decode cX10_by 27 = .ok (.bipush (-2), 2) := by decide +kernel
theorem dX10_by_29 : decode cX10_by 29 = .ok (.ireturn, 1) := by decide +kernel
set_option maxRecDepth 20000 in
theorem ggX10_law_X10_asksDukedom : GoodIn wsX10_law wsX10_asksDukedom := goodIn_r _ [5, 6, 7, 8, 4, 9, 10, 11, 12, 13, 14, 15, 16, 17, 18, 19, 20, 21, 22, 23, 24, 25, 26, 27, 28, 29, 30, 31, 32, 33, 34, 35, 36, 37, 38, 39, 40, 41, 42, 43, 44, 45, 46, 47, 48, 49, 50, 51, 52, 53, 54, 55, 56, 57, 58, 59, 60, 61, 62, 63, 64, 65, 66, 67, 68, 69, 70, 114, 115, 116, 117, 118, 119, 120, 121, 122, 123, 124, 125, 126, 127, 128, 129, 130, 131, 132, 133, 134, 135, 136, 137, 138, 139, 140, 141, 142, 143, 144, 145, 146, 147, 148, 149, 150, 151, 152, 153, 154, 155, 156, 157, 158] (by decide +kernel) (by decide +kernel)
set_option maxRecDepth 20000 in
theorem gX10_law_X10_asksDukedom : GoodIn wsX10_law (wsV RX10 285 RX10 yX10_asksDukedom wsX10_asksDukedom) := goodIn_app (goodIn_of _ (by decide +kernel)) ggX10_law_X10_asksDukedom
set_option maxRecDepth 20000 in
theorem ggX10_law_X10_keptBy : GoodIn wsX10_law wsX10_keptBy := goodIn_r _ [74, 11, 29, 30, 31, 4, 32, 33, 14, 34, 35, 36, 37, 10, 38, 39, 40, 41, 42, 19, 15, 43, 44, 23, 45, 46, 20, 47, 48, 49, 50, 51, 52, 53, 54, 55, 13, 56, 57, 58, 59, 60, 61, 62, 21, 22, 24, 63, 25, 26, 27, 28, 64, 65, 66, 75, 76, 77, 78, 79, 80, 81, 82, 83, 84, 85, 86, 87, 88, 89, 90, 91, 92, 93, 94, 95, 96, 97, 98, 99, 100, 101, 102, 16, 12, 103, 104, 105, 106, 107, 108, 109, 110, 17, 18, 111, 112, 113, 114, 115, 116, 117, 118, 119, 120, 121, 122, 123, 124, 125, 126, 127, 128, 129, 130, 131, 132, 133, 134, 135, 136, 137, 138, 139, 140, 141, 142, 143, 144, 145, 146, 147, 148, 149, 150, 151, 152, 153, 154, 155, 156, 157, 158] (by decide +kernel) (by decide +kernel)
set_option maxRecDepth 20000 in
theorem gX10_law_X10_keptBy : GoodIn wsX10_law (wsV RX10 364 RX10 yX10_keptBy wsX10_keptBy) := goodIn_app (goodIn_of _ (by decide +kernel)) ggX10_law_X10_keptBy
theorem dX10_law_0 : decode cX10_law 0 = .ok (.aload_n 0, 1) := by decide +kernel
theorem dX10_law_1 : decode cX10_law 1 = .ok (.invokevirtual 285, 3) := by decide +kernel
theorem dX10_law_4 : decode cX10_law 4 = .ok (.ifCond .ne 6, 3) := by decide +kernel
theorem dX10_law_7 : decode cX10_law 7 = .ok (.bipush (-2), 2) := by decide +kernel
theorem dX10_law_9 : decode cX10_law 9 = .ok (.ireturn, 1) := by decide +kernel
theorem dX10_law_10 : decode cX10_law 10 = .ok (.iconst 0, 1) := by decide +kernel
theorem dX10_law_11 : decode cX10_law 11 = .ok (.istore_n 1, 1) := by decide +kernel
theorem dX10_law_12 : decode cX10_law 12 = .ok (.iconst 1, 1) := by decide +kernel
theorem dX10_law_13 : decode cX10_law 13 = .ok (.istore_n 2, 1) := by decide +kernel
theorem dX10_law_14 : decode cX10_law 14 = .ok (.iload_n 2, 1) := by decide +kernel
theorem dX10_law_15 : decode cX10_law 15 = .ok (.iconst 4, 1) := by decide +kernel
theorem dX10_law_16 : decode cX10_law 16 = .ok (.if_icmp .ge 28, 3) := by decide +kernel
theorem dX10_law_19 : decode cX10_law 19 = .ok (.aload_n 0, 1) := by decide +kernel
theorem dX10_law_20 : decode cX10_law 20 = .ok (.iload_n 2, 1) := by decide +kernel
theorem dX10_law_21 : decode cX10_law 21 = .ok (.invokevirtual 364, 3) := by decide +kernel
theorem dX10_law_24 : decode cX10_law 24 = .ok (.aload_n 0, 1) := by decide +kernel
theorem dX10_law_25 : decode cX10_law 25 = .ok (.iload_n 1, 1) := by decide +kernel
theorem dX10_law_26 : decode cX10_law 26 = .ok (.invokevirtual 364, 3) := by decide +kernel
theorem dX10_law_29 : decode cX10_law 29 = .ok (.if_icmp .le 7, 3) := by decide +kernel
theorem dX10_law_32 : decode cX10_law 32 = .ok (.iload_n 2, 1) := by decide +kernel
theorem dX10_law_33 : decode cX10_law 33 = .ok (.goto 4, 3) := by decide +kernel
theorem dX10_law_36 : decode cX10_law 36 = .ok (.iload_n 1, 1) := by decide +kernel
theorem dX10_law_37 : decode cX10_law 37 = .ok (.istore_n 1, 1) := by decide +kernel
theorem dX10_law_38 : decode cX10_law 38 = .ok (.iinc 2 1, 3) := by decide +kernel
theorem dX10_law_41 : decode cX10_law 41 = .ok (.goto (-27), 3) := by decide +kernel
theorem dX10_law_44 : decode cX10_law 44 = .ok (.iload_n 1, 1) := by decide +kernel
theorem dX10_law_45 : decode cX10_law 45 = .ok (.ireturn, 1) := by decide +kernel
theorem dX10_numberAt_0 : decode cX10_numberAt 0 = .ok (.aload_n 0, 1) := by decide +kernel
theorem dX10_numberAt_1 : decode cX10_numberAt 1 = .ok (.getfield 88, 3) := by decide +kernel
theorem dX10_numberAt_4 : decode cX10_numberAt 4 = .ok (.bipush 60, 2) := by decide +kernel
theorem dX10_numberAt_6 : decode cX10_numberAt 6 = .ok (.iload_n 1, 1) := by decide +kernel
theorem dX10_numberAt_7 : decode cX10_numberAt 7 = .ok (.imul, 1) := by decide +kernel
theorem dX10_numberAt_8 : decode cX10_numberAt 8 = .ok (.iload_n 2, 1) := by decide +kernel
theorem dX10_numberAt_9 : decode cX10_numberAt 9 = .ok (.iadd, 1) := by decide +kernel
theorem dX10_numberAt_10 : decode cX10_numberAt 10 = .ok (.laload, 1) := by decide +kernel
theorem dX10_numberAt_11 : decode cX10_numberAt 11 = .ok (.lreturn, 1) := by decide +kernel
set_option maxRecDepth 20000 in
theorem ggX10_askSeen_X10_isSlot : GoodIn wsX10_askSeen wsX10_isSlot := goodIn_r _ [6, 7, 8, 9, 5, 10] (by decide +kernel) (by decide +kernel)
set_option maxRecDepth 20000 in
theorem gX10_askSeen_X10_isSlot : GoodIn wsX10_askSeen (va_wsS RX10 367 yX10_isSlot wsX10_isSlot) := goodIn_app (goodIn_of _ (by decide +kernel)) ggX10_askSeen_X10_isSlot
set_option maxRecDepth 20000 in
theorem ggX10_askSeen_X10_isDukedom : GoodIn wsX10_askSeen wsX10_isDukedom := goodIn_r _ [14, 15, 51, 52, 53, 54, 55, 56, 57, 58, 59, 60, 61, 62, 63, 64, 65, 66, 67, 68, 69, 70, 71, 72, 73, 74, 75, 76, 77, 78, 79, 80, 81, 82, 83, 84, 85, 86, 87, 88, 89, 90, 91, 92, 93, 94, 95] (by decide +kernel) (by decide +kernel)
set_option maxRecDepth 20000 in
theorem gX10_askSeen_X10_isDukedom : GoodIn wsX10_askSeen (wsV RX10 282 RX10 yX10_isDukedom wsX10_isDukedom) := goodIn_app (goodIn_of _ (by decide +kernel)) ggX10_askSeen_X10_isDukedom
set_option maxRecDepth 20000 in
theorem ggX10_askSeen_X10_numberAt : GoodIn wsX10_askSeen wsX10_numberAt := goodIn_r _ [19, 20, 51, 52, 53, 54, 55, 56, 57, 58, 59, 60, 61, 62, 63, 64, 65, 66, 67, 68, 69, 70, 71, 72, 73, 74, 75, 76, 77, 78, 79, 80, 81, 82, 83, 84, 85, 86, 87, 88, 89, 90, 91, 92, 93, 94, 95] (by decide +kernel) (by decide +kernel)
set_option maxRecDepth 20000 in
theorem gX10_askSeen_X10_numberAt : GoodIn wsX10_askSeen (wsV RX10 370 RX10 yX10_numberAt wsX10_numberAt) := goodIn_app (goodIn_of _ (by decide +kernel)) ggX10_askSeen_X10_numberAt
set_option maxRecDepth 20000 in
theorem ggX10_askSeen_X10_isRank : GoodIn wsX10_askSeen wsX10_isRank := goodIn_r _ [24, 15, 8, 9, 5, 10, 51, 52, 53, 54, 55, 56, 57, 58, 59, 60, 61, 62, 63, 64, 65, 66, 67, 68, 69, 70, 71, 72, 73, 74, 75, 76, 77, 78, 79, 80, 81, 82, 83, 84, 85, 86, 87, 88, 89, 90, 91, 92, 93, 94, 95] (by decide +kernel) (by decide +kernel)
set_option maxRecDepth 20000 in
theorem gX10_askSeen_X10_isRank : GoodIn wsX10_askSeen (wsV RX10 230 RX10 yX10_isRank wsX10_isRank) := goodIn_app (goodIn_of _ (by decide +kernel)) ggX10_askSeen_X10_isRank
set_option maxRecDepth 20000 in
theorem ggX10_askSeen_X10_isYear : GoodIn wsX10_askSeen wsX10_isYear := goodIn_r _ [28, 15, 8, 9, 5, 10, 51, 52, 53, 54, 55, 56, 57, 58, 59, 60, 61, 62, 63, 64, 65, 66, 67, 68, 69, 70, 71, 72, 73, 74, 75, 76, 77, 78, 79, 80, 81, 82, 83, 84, 85, 86, 87, 88, 89, 90, 91, 92, 93, 94, 95] (by decide +kernel) (by decide +kernel)
set_option maxRecDepth 20000 in
theorem gX10_askSeen_X10_isYear : GoodIn wsX10_askSeen (wsV RX10 288 RX10 yX10_isYear wsX10_isYear) := goodIn_app (goodIn_of _ (by decide +kernel)) ggX10_askSeen_X10_isYear
set_option maxRecDepth 20000 in
theorem ggX10_askSeen_X10_in : GoodIn wsX10_askSeen wsX10_in := goodIn_r _ [10] (by decide +kernel) (by decide +kernel)
set_option maxRecDepth 20000 in
theorem gX10_askSeen_X10_in : GoodIn wsX10_askSeen (va_wsS RX10 100 yX10_in wsX10_in) := goodIn_app (goodIn_of _ (by decide +kernel)) ggX10_askSeen_X10_in
set_option maxRecDepth 20000 in
theorem ggX10_askSeen_X10_asItIs : GoodIn wsX10_askSeen wsX10_asItIs := goodIn_r _ [32, 15, 33, 34, 35, 36, 37, 38, 39, 40, 41, 42, 43, 44, 45, 46, 47, 48, 49, 5, 50, 51, 52, 53, 54, 55, 56, 57, 58, 59, 60, 61, 62, 63, 64, 65, 66, 67, 68, 69, 70, 71, 72, 73, 74, 75, 76, 77, 78, 79, 80, 81, 82, 83, 84, 85, 86, 87, 88, 89, 90, 91, 92, 93, 94, 95] (by decide +kernel) (by decide +kernel)
set_option maxRecDepth 20000 in
theorem gX10_askSeen_X10_asItIs : GoodIn wsX10_askSeen (wsV RX10 276 RX10 yX10_asItIs wsX10_asItIs) := goodIn_app (goodIn_of _ (by decide +kernel)) ggX10_askSeen_X10_asItIs
theorem dX10_askSeen_0 : decode cX10_askSeen 0 = .ok (.iload_n 1, 1) := by decide +kernel
theorem dX10_askSeen_1 : decode cX10_askSeen 1 = .ok (.invokestatic 367, 3) := by decide +kernel
theorem dX10_askSeen_4 : decode cX10_askSeen 4 = .ok (.ifCond .eq 10, 3) := by decide +kernel
theorem dX10_askSeen_7 : decode cX10_askSeen 7 = .ok (.aload_n 0, 1) := by decide +kernel
theorem dX10_askSeen_8 : decode cX10_askSeen 8 = .ok (.invokevirtual 282, 3) := by decide +kernel
theorem dX10_askSeen_11 : decode cX10_askSeen 11 = .ok (.ifCond .ne 6, 3) := by decide +kernel
theorem dX10_askSeen_14 : decode cX10_askSeen 14 = .ok (.bipush (-2), 2) := by decide +kernel
theorem dX10_askSeen_16 : decode cX10_askSeen 16 = .ok (.ireturn, 1) := by decide +kernel
theorem dX10_askSeen_17 : decode cX10_askSeen 17 = .ok (.aload_n 0, 1) := by decide +kernel
theorem dX10_askSeen_18 : decode cX10_askSeen 18 = .ok (.getfield 82, 3) := by decide +kernel
theorem dX10_askSeen_21 : decode cX10_askSeen 21 = .ok (.iload_n 1, 1) := by decide +kernel
theorem dX10_askSeen_22 : decode cX10_askSeen 22 = .ok (.iaload, 1) := by decide +kernel
theorem dX10_askSeen_23 : decode cX10_askSeen 23 = .ok (.iconst (-1), 1) := by decide +kernel
theorem dX10_askSeen_24 : decode cX10_askSeen 24 = .ok (.if_icmp .ne 6, 3) := by decide +kernel
theorem dX10_askSeen_27 : decode cX10_askSeen 27 = .ok (.bipush (-6), 2) := by decide +kernel
theorem dX10_askSeen_29 : decode cX10_askSeen 29 = .ok (.ireturn, 1) := by decide +kernel
theorem dX10_askSeen_30 : decode cX10_askSeen 30 = .ok (.aload_n 0, 1) := by decide +kernel
theorem dX10_askSeen_31 : decode cX10_askSeen 31 = .ok (.getfield 82, 3) := by decide +kernel
theorem dX10_askSeen_34 : decode cX10_askSeen 34 = .ok (.iload_n 1, 1) := by decide +kernel
theorem dX10_askSeen_35 : decode cX10_askSeen 35 = .ok (.iaload, 1) := by decide +kernel
theorem dX10_askSeen_36 : decode cX10_askSeen 36 = .ok (.iconst 3, 1) := by decide +kernel
theorem dX10_askSeen_37 : decode cX10_askSeen 37 = .ok (.irem, 1) := by decide +kernel
theorem dX10_askSeen_38 : decode cX10_askSeen 38 = .ok (.ifCond .eq 6, 3) := by decide +kernel
theorem dX10_askSeen_41 : decode cX10_askSeen 41 = .ok (.bipush (-2), 2) := by decide +kernel
theorem dX10_askSeen_43 : decode cX10_askSeen 43 = .ok (.ireturn, 1) := by decide +kernel
theorem dX10_askSeen_44 : decode cX10_askSeen 44 = .ok (.iconst 0, 1) := by decide +kernel
theorem dX10_askSeen_45 : decode cX10_askSeen 45 = .ok (.istore_n 2, 1) := by decide +kernel
theorem dX10_askSeen_46 : decode cX10_askSeen 46 = .ok (.iload_n 2, 1) := by decide +kernel
theorem dX10_askSeen_47 : decode cX10_askSeen 47 = .ok (.aload_n 0, 1) := by decide +kernel
theorem dX10_askSeen_48 : decode cX10_askSeen 48 = .ok (.getfield 82, 3) := by decide +kernel
theorem dX10_askSeen_51 : decode cX10_askSeen 51 = .ok (.iload_n 1, 1) := by decide +kernel
theorem dX10_askSeen_52 : decode cX10_askSeen 52 = .ok (.iaload, 1) := by decide +kernel
theorem dX10_askSeen_53 : decode cX10_askSeen 53 = .ok (.if_icmp .ge 58, 3) := by decide +kernel
theorem dX10_askSeen_56 : decode cX10_askSeen 56 = .ok (.aload_n 0, 1) := by decide +kernel
theorem dX10_askSeen_57 : decode cX10_askSeen 57 = .ok (.aload_n 0, 1) := by decide +kernel
theorem dX10_askSeen_58 : decode cX10_askSeen 58 = .ok (.iload_n 1, 1) := by decide +kernel
theorem dX10_askSeen_59 : decode cX10_askSeen 59 = .ok (.iload_n 2, 1) := by decide +kernel
theorem dX10_askSeen_60 : decode cX10_askSeen 60 = .ok (.invokevirtual 370, 3) := by decide +kernel
theorem dX10_askSeen_63 : decode cX10_askSeen 63 = .ok (.invokevirtual 230, 3) := by decide +kernel
theorem dX10_askSeen_66 : decode cX10_askSeen 66 = .ok (.ifCond .eq 36, 3) := by decide +kernel
theorem dX10_askSeen_69 : decode cX10_askSeen 69 = .ok (.aload_n 0, 1) := by decide +kernel
theorem dX10_askSeen_70 : decode cX10_askSeen 70 = .ok (.aload_n 0, 1) := by decide +kernel
theorem dX10_askSeen_71 : decode cX10_askSeen 71 = .ok (.iload_n 1, 1) := by decide +kernel
theorem dX10_askSeen_72 : decode cX10_askSeen 72 = .ok (.iload_n 2, 1) := by decide +kernel
theorem dX10_askSeen_73 : decode cX10_askSeen 73 = .ok (.iconst 1, 1) := by decide +kernel
theorem dX10_askSeen_74 : decode cX10_askSeen 74 = .ok (.iadd, 1) := by decide +kernel
theorem dX10_askSeen_75 : decode cX10_askSeen 75 = .ok (.invokevirtual 370, 3) := by decide +kernel
theorem dX10_askSeen_78 : decode cX10_askSeen 78 = .ok (.invokevirtual 288, 3) := by decide +kernel
theorem dX10_askSeen_81 : decode cX10_askSeen 81 = .ok (.ifCond .eq 21, 3) := by decide +kernel
theorem dX10_askSeen_84 : decode cX10_askSeen 84 = .ok (.aload_n 0, 1) := by decide +kernel
theorem dX10_askSeen_85 : decode cX10_askSeen 85 = .ok (.iload_n 1, 1) := by decide +kernel
theorem dX10_askSeen_86 : decode cX10_askSeen 86 = .ok (.iload_n 2, 1) := by decide +kernel
theorem dX10_askSeen_87 : decode cX10_askSeen 87 = .ok (.iconst 2, 1) := by decide +kernel
theorem dX10_askSeen_88 : decode cX10_askSeen 88 = .ok (.iadd, 1) := by decide +kernel
theorem dX10_askSeen_89 : decode cX10_askSeen 89 = .ok (.invokevirtual 370, 3) := by decide +kernel
theorem dX10_askSeen_92 : decode cX10_askSeen 92 = .ok (.lconst 0, 1) := by decide +kernel
theorem dX10_askSeen_93 : decode cX10_askSeen 93 = .ok (.ldc2_w 374, 3) := by decide +kernel
theorem dX10_askSeen_96 : decode cX10_askSeen 96 = .ok (.invokestatic 100, 3) := by decide +kernel
theorem dX10_askSeen_99 : decode cX10_askSeen 99 = .ok (.ifCond .ne 6, 3) := by decide +kernel
theorem dX10_askSeen_102 : decode cX10_askSeen 102 = .ok (.bipush (-2), 2) := by decide +kernel
theorem dX10_askSeen_104 : decode cX10_askSeen 104 = .ok (.ireturn, 1) := by decide +kernel
theorem dX10_askSeen_105 : decode cX10_askSeen 105 = .ok (.iinc 2 3, 3) := by decide +kernel
theorem dX10_askSeen_108 : decode cX10_askSeen 108 = .ok (.goto (-62), 3) := by decide +kernel
theorem dX10_askSeen_111 : decode cX10_askSeen 111 = .ok (.aload_n 0, 1) := by decide +kernel
theorem dX10_askSeen_112 : decode cX10_askSeen 112 = .ok (.invokevirtual 276, 3) := by decide +kernel
theorem dX10_askSeen_115 : decode cX10_askSeen 115 = .ok (.iconst 0, 1) := by decide +kernel
theorem dX10_askSeen_116 : decode cX10_askSeen 116 = .ok (.ireturn, 1) := by decide +kernel
set_option maxRecDepth 20000 in
theorem ggX10_isSeen_X10_goAll : GoodIn wsX10_isSeen wsX10_goAll := goodIn_r _ [6, 7, 8, 9, 10, 11, 5, 12, 13, 14, 15, 16, 17, 18, 19, 20, 21, 22, 23, 24, 25, 26, 27, 28, 29, 30, 31, 32, 33, 34, 35, 36, 37, 38, 39, 40, 41, 42, 43, 44, 45, 46, 47, 48, 49, 50, 51, 52, 53, 54, 55, 65, 66, 67, 68, 69, 70, 71, 72, 73, 74, 75, 76, 77, 78, 79, 80, 81, 82, 83, 84, 85, 86, 87, 88, 89, 90, 91, 92, 93, 94, 95, 96, 97, 98, 99, 100, 101, 102, 103, 104, 105, 106, 107, 108, 109] (by decide +kernel) (by decide +kernel)
set_option maxRecDepth 20000 in
theorem gX10_isSeen_X10_goAll : GoodIn wsX10_isSeen (wsV RX10 279 RX10 yX10_goAll wsX10_goAll) := goodIn_app (goodIn_of _ (by decide +kernel)) ggX10_isSeen_X10_goAll
set_option maxRecDepth 20000 in
theorem ggX10_isSeen_X10_numberAt : GoodIn wsX10_isSeen wsX10_numberAt := goodIn_r _ [59, 60, 65, 66, 67, 68, 69, 70, 71, 72, 73, 74, 75, 76, 77, 78, 79, 80, 81, 82, 83, 84, 85, 86, 87, 88, 89, 90, 91, 92, 93, 94, 95, 96, 97, 98, 99, 100, 101, 102, 103, 104, 105, 106, 107, 108, 109] (by decide +kernel) (by decide +kernel)
set_option maxRecDepth 20000 in
theorem gX10_isSeen_X10_numberAt : GoodIn wsX10_isSeen (wsV RX10 370 RX10 yX10_numberAt wsX10_numberAt) := goodIn_app (goodIn_of _ (by decide +kernel)) ggX10_isSeen_X10_numberAt
set_option maxRecDepth 20000 in
theorem ggX10_isSeen_X10_waterIn : GoodIn wsX10_isSeen wsX10_waterIn := goodIn_r _ [64, 28, 65, 66, 67, 68, 69, 70, 71, 72, 73, 74, 75, 76, 77, 78, 79, 80, 81, 82, 83, 84, 85, 86, 87, 88, 89, 90, 91, 92, 93, 94, 95, 96, 97, 98, 99, 100, 101, 102, 103, 104, 105, 106, 107, 108, 109] (by decide +kernel) (by decide +kernel)
set_option maxRecDepth 20000 in
theorem gX10_isSeen_X10_waterIn : GoodIn wsX10_isSeen (wsV RX10 294 RX10 yX10_waterIn wsX10_waterIn) := goodIn_app (goodIn_of _ (by decide +kernel)) ggX10_isSeen_X10_waterIn
theorem dX10_isSeen_0 : decode cX10_isSeen 0 = .ok (.aload_n 0, 1) := by decide +kernel
theorem dX10_isSeen_1 : decode cX10_isSeen 1 = .ok (.invokevirtual 279, 3) := by decide +kernel
theorem dX10_isSeen_4 : decode cX10_isSeen 4 = .ok (.iconst 0, 1) := by decide +kernel
theorem dX10_isSeen_5 : decode cX10_isSeen 5 = .ok (.istore_n 2, 1) := by decide +kernel
theorem dX10_isSeen_6 : decode cX10_isSeen 6 = .ok (.iload_n 2, 1) := by decide +kernel
theorem dX10_isSeen_7 : decode cX10_isSeen 7 = .ok (.aload_n 0, 1) := by decide +kernel
theorem dX10_isSeen_8 : decode cX10_isSeen 8 = .ok (.getfield 82, 3) := by decide +kernel
theorem dX10_isSeen_11 : decode cX10_isSeen 11 = .ok (.iload_n 1, 1) := by decide +kernel
theorem dX10_isSeen_12 : decode cX10_isSeen 12 = .ok (.iaload, 1) := by decide +kernel
theorem dX10_isSeen_13 : decode cX10_isSeen 13 = .ok (.if_icmp .ge 44, 3) := by decide +kernel
theorem dX10_isSeen_16 : decode cX10_isSeen 16 = .ok (.aload_n 0, 1) := by decide +kernel
theorem dX10_isSeen_17 : decode cX10_isSeen 17 = .ok (.aload_n 0, 1) := by decide +kernel
theorem dX10_isSeen_18 : decode cX10_isSeen 18 = .ok (.iload_n 1, 1) := by decide +kernel
theorem dX10_isSeen_19 : decode cX10_isSeen 19 = .ok (.iload_n 2, 1) := by decide +kernel
theorem dX10_isSeen_20 : decode cX10_isSeen 20 = .ok (.invokevirtual 370, 3) := by decide +kernel
theorem dX10_isSeen_23 : decode cX10_isSeen 23 = .ok (.l2i, 1) := by decide +kernel
theorem dX10_isSeen_24 : decode cX10_isSeen 24 = .ok (.aload_n 0, 1) := by decide +kernel
theorem dX10_isSeen_25 : decode cX10_isSeen 25 = .ok (.iload_n 1, 1) := by decide +kernel
theorem dX10_isSeen_26 : decode cX10_isSeen 26 = .ok (.iload_n 2, 1) := by decide +kernel
theorem dX10_isSeen_27 : decode cX10_isSeen 27 = .ok (.iconst 1, 1) := by decide +kernel
theorem dX10_isSeen_28 : decode cX10_isSeen 28 = .ok (.iadd, 1) := by decide +kernel
theorem dX10_isSeen_29 : decode cX10_isSeen 29 = .ok (.invokevirtual 370, 3) := by decide +kernel
theorem dX10_isSeen_32 : decode cX10_isSeen 32 = .ok (.l2i, 1) := by decide +kernel
theorem dX10_isSeen_33 : decode cX10_isSeen 33 = .ok (.invokevirtual 294, 3) := by decide +kernel
theorem dX10_isSeen_36 : decode cX10_isSeen 36 = .ok (.i2l, 1) := by decide +kernel
theorem dX10_isSeen_37 : decode cX10_isSeen 37 = .ok (.aload_n 0, 1) := by decide +kernel
theorem dX10_isSeen_38 : decode cX10_isSeen 38 = .ok (.iload_n 1, 1) := by decide +kernel
theorem dX10_isSeen_39 : decode cX10_isSeen 39 = .ok (.iload_n 2, 1) := by decide +kernel
theorem dX10_isSeen_40 : decode cX10_isSeen 40 = .ok (.iconst 2, 1) := by decide +kernel
theorem dX10_isSeen_41 : decode cX10_isSeen 41 = .ok (.iadd, 1) := by decide +kernel
theorem dX10_isSeen_42 : decode cX10_isSeen 42 = .ok (.invokevirtual 370, 3) := by decide +kernel
theorem dX10_isSeen_45 : decode cX10_isSeen 45 = .ok (.lcmp, 1) := by decide +kernel
theorem dX10_isSeen_46 : decode cX10_isSeen 46 = .ok (.ifCond .eq 5, 3) := by decide +kernel
theorem dX10_isSeen_49 : decode cX10_isSeen 49 = .ok (.iconst 0, 1) := by decide +kernel
theorem dX10_isSeen_50 : decode cX10_isSeen 50 = .ok (.ireturn, 1) := by decide +kernel
theorem dX10_isSeen_51 : decode cX10_isSeen 51 = .ok (.iinc 2 3, 3) := by decide +kernel
theorem dX10_isSeen_54 : decode cX10_isSeen 54 = .ok (.goto (-48), 3) := by decide +kernel
theorem dX10_isSeen_57 : decode cX10_isSeen 57 = .ok (.iconst 1, 1) := by decide +kernel
theorem dX10_isSeen_58 : decode cX10_isSeen 58 = .ok (.ireturn, 1) := by decide +kernel
set_option maxRecDepth 20000 in
theorem ggX10_layWaters_X10_isRank : GoodIn wsX10_layWaters wsX10_isRank := goodIn_r _ [9, 10, 11, 12, 8, 13, 101, 102, 103, 104, 105, 106, 107, 108, 109, 110, 111, 112, 113, 114, 115, 116, 117, 118, 119, 120, 121, 122, 123, 124, 125, 126, 127, 128, 129, 130, 131, 132, 133, 134, 135, 136, 137, 138, 139, 140, 141, 142, 143, 144, 145] (by decide +kernel) (by decide +kernel)
set_option maxRecDepth 20000 in
theorem gX10_layWaters_X10_isRank : GoodIn wsX10_layWaters (wsV RX10 230 RX10 yX10_isRank wsX10_isRank) := goodIn_app (goodIn_of _ (by decide +kernel)) ggX10_layWaters_X10_isRank
set_option maxRecDepth 20000 in
theorem ggX10_layWaters_X10_askSeen : GoodIn wsX10_layWaters wsX10_askSeen := goodIn_r _ [17, 18, 19, 20, 21, 8, 22, 23, 11, 12, 13, 24, 25, 26, 27, 10, 28, 29, 30, 31, 32, 5, 6, 7, 9, 33, 34, 35, 36, 37, 38, 39, 40, 41, 42, 43, 2, 44, 45, 46, 47, 48, 49, 50, 51, 52, 53, 54, 55, 56, 57, 101, 102, 103, 104, 105, 106, 107, 108, 109, 110, 111, 112, 113, 114, 115, 116, 117, 118, 119, 120, 121, 122, 123, 124, 125, 126, 127, 128, 129, 130, 131, 132, 133, 134, 135, 136, 137, 138, 139, 140, 141, 142, 143, 144, 145] (by decide +kernel) (by decide +kernel)
set_option maxRecDepth 20000 in
theorem gX10_layWaters_X10_askSeen : GoodIn wsX10_layWaters (wsV RX10 376 RX10 yX10_askSeen wsX10_askSeen) := goodIn_app (goodIn_of _ (by decide +kernel)) ggX10_layWaters_X10_askSeen
set_option maxRecDepth 20000 in
theorem ggX10_layWaters_X10_isSeen : GoodIn wsX10_layWaters wsX10_isSeen := goodIn_r _ [61, 18, 62, 63, 64, 8, 65, 66, 2, 67, 68, 69, 70, 10, 71, 72, 73, 74, 75, 48, 44, 76, 77, 52, 78, 79, 41, 49, 80, 81, 82, 83, 84, 85, 86, 87, 88, 43, 89, 90, 91, 92, 93, 94, 95, 50, 51, 53, 96, 54, 55, 56, 57, 11, 12, 13, 28, 29, 30, 31, 32, 97, 98, 99, 100, 101, 102, 103, 104, 105, 106, 107, 108, 109, 110, 111, 112, 113, 114, 115, 116, 117, 118, 119, 120, 121, 122, 123, 124, 125, 126, 127, 128, 129, 130, 131, 132, 133, 134, 135, 136, 137, 138, 139, 140, 141, 142, 143, 144, 145] (by decide +kernel) (by decide +kernel)
set_option maxRecDepth 20000 in
theorem gX10_layWaters_X10_isSeen : GoodIn wsX10_layWaters (wsV RX10 382 RX10 yX10_isSeen wsX10_isSeen) := goodIn_app (goodIn_of _ (by decide +kernel)) ggX10_layWaters_X10_isSeen
set_option maxRecDepth 20000 in
theorem ggX10_layWaters_X10_years : GoodIn wsX10_layWaters wsX10_years := goodIn_r _ [70, 10, 101, 102, 103, 104, 105, 106, 107, 108, 109, 110, 111, 112, 113, 114, 115, 116, 117, 118, 119, 120, 121, 122, 123, 124, 125, 126, 127, 128, 129, 130, 131, 132, 133, 134, 135, 136, 137, 138, 139, 140, 141, 142, 143, 144, 145] (by decide +kernel) (by decide +kernel)
set_option maxRecDepth 20000 in
theorem gX10_layWaters_X10_years : GoodIn wsX10_layWaters (wsV RX10 271 RX10 yX10_years wsX10_years) := goodIn_app (goodIn_of _ (by decide +kernel)) ggX10_layWaters_X10_years
set_option maxRecDepth 20000 in
theorem ggX10_layWaters_X10_waterIn : GoodIn wsX10_layWaters wsX10_waterIn := goodIn_r _ [100, 80, 101, 102, 103, 104, 105, 106, 107, 108, 109, 110, 111, 112, 113, 114, 115, 116, 117, 118, 119, 120, 121, 122, 123, 124, 125, 126, 127, 128, 129, 130, 131, 132, 133, 134, 135, 136, 137, 138, 139, 140, 141, 142, 143, 144, 145] (by decide +kernel) (by decide +kernel)
set_option maxRecDepth 20000 in
theorem gX10_layWaters_X10_waterIn : GoodIn wsX10_layWaters (wsV RX10 294 RX10 yX10_waterIn wsX10_waterIn) := goodIn_app (goodIn_of _ (by decide +kernel)) ggX10_layWaters_X10_waterIn
theorem dX10_layWaters_0 : decode cX10_layWaters 0 = .ok (.aload_n 0, 1) := by decide +kernel
theorem dX10_layWaters_1 : decode cX10_layWaters 1 = .ok (.iload_n 2, 1) := by decide +kernel
theorem dX10_layWaters_2 : decode cX10_layWaters 2 = .ok (.i2l, 1) := by decide +kernel
theorem dX10_layWaters_3 : decode cX10_layWaters 3 = .ok (.invokevirtual 230, 3) := by decide +kernel
theorem dX10_layWaters_6 : decode cX10_layWaters 6 = .ok (.ifCond .ne 6, 3) := by decide +kernel
theorem dX10_layWaters_9 : decode cX10_layWaters 9 = .ok (.bipush (-2), 2) := by decide +kernel
theorem dX10_layWaters_11 : decode cX10_layWaters 11 = .ok (.ireturn, 1) := by decide +kernel
theorem dX10_layWaters_12 : decode cX10_layWaters 12 = .ok (.aload_n 0, 1) := by decide +kernel
theorem dX10_layWaters_13 : decode cX10_layWaters 13 = .ok (.iload_n 1, 1) := by decide +kernel
theorem dX10_layWaters_14 : decode cX10_layWaters 14 = .ok (.invokevirtual 376, 3) := by decide +kernel
theorem dX10_layWaters_17 : decode cX10_layWaters 17 = .ok (.istore_n 3, 1) := by decide +kernel
theorem dX10_layWaters_18 : decode cX10_layWaters 18 = .ok (.iload_n 3, 1) := by decide +kernel
theorem dX10_layWaters_19 : decode cX10_layWaters 19 = .ok (.ifCond .ge 5, 3) := by decide +kernel
theorem dX10_layWaters_22 : decode cX10_layWaters 22 = .ok (.iload_n 3, 1) := by decide +kernel
theorem dX10_layWaters_23 : decode cX10_layWaters 23 = .ok (.ireturn, 1) := by decide +kernel
theorem dX10_layWaters_24 : decode cX10_layWaters 24 = .ok (.aload_n 0, 1) := by decide +kernel
theorem dX10_layWaters_25 : decode cX10_layWaters 25 = .ok (.iconst 0, 1) := by decide +kernel
theorem dX10_layWaters_26 : decode cX10_layWaters 26 = .ok (.putfield 379, 3) := by decide +kernel
theorem dX10_layWaters_29 : decode cX10_layWaters 29 = .ok (.iconst 0, 1) := by decide +kernel
theorem dX10_layWaters_30 : decode cX10_layWaters 30 = .ok (.istore 4, 2) := by decide +kernel
theorem dX10_layWaters_32 : decode cX10_layWaters 32 = .ok (.iload 4, 2) := by decide +kernel
theorem dX10_layWaters_34 : decode cX10_layWaters 34 = .ok (.bipush 99, 2) := by decide +kernel
theorem dX10_layWaters_36 : decode cX10_layWaters 36 = .ok (.if_icmp .gt 89, 3) := by decide +kernel
theorem dX10_layWaters_39 : decode cX10_layWaters 39 = .ok (.aload_n 0, 1) := by decide +kernel
theorem dX10_layWaters_40 : decode cX10_layWaters 40 = .ok (.getfield 34, 3) := by decide +kernel
theorem dX10_layWaters_43 : decode cX10_layWaters 43 = .ok (.iload_n 2, 1) := by decide +kernel
theorem dX10_layWaters_44 : decode cX10_layWaters 44 = .ok (.iload 4, 2) := by decide +kernel
theorem dX10_layWaters_46 : decode cX10_layWaters 46 = .ok (.iastore, 1) := by decide +kernel
theorem dX10_layWaters_47 : decode cX10_layWaters 47 = .ok (.aload_n 0, 1) := by decide +kernel
theorem dX10_layWaters_48 : decode cX10_layWaters 48 = .ok (.iload_n 1, 1) := by decide +kernel
theorem dX10_layWaters_49 : decode cX10_layWaters 49 = .ok (.invokevirtual 382, 3) := by decide +kernel
theorem dX10_layWaters_52 : decode cX10_layWaters 52 = .ok (.ifCond .ne 6, 3) := by decide +kernel
theorem dX10_layWaters_55 : decode cX10_layWaters 55 = .ok (.goto 64, 3) := by decide +kernel
theorem dX10_layWaters_58 : decode cX10_layWaters 58 = .ok (.aload_n 0, 1) := by decide +kernel
theorem dX10_layWaters_59 : decode cX10_layWaters 59 = .ok (.getfield 73, 3) := by decide +kernel
theorem dX10_layWaters_62 : decode cX10_layWaters 62 = .ok (.aload_n 0, 1) := by decide +kernel
theorem dX10_layWaters_63 : decode cX10_layWaters 63 = .ok (.getfield 379, 3) := by decide +kernel
theorem dX10_layWaters_66 : decode cX10_layWaters 66 = .ok (.iload 4, 2) := by decide +kernel
theorem dX10_layWaters_68 : decode cX10_layWaters 68 = .ok (.iastore, 1) := by decide +kernel
theorem dX10_layWaters_69 : decode cX10_layWaters 69 = .ok (.iconst 0, 1) := by decide +kernel
theorem dX10_layWaters_70 : decode cX10_layWaters 70 = .ok (.istore 5, 2) := by decide +kernel
theorem dX10_layWaters_72 : decode cX10_layWaters 72 = .ok (.iload 5, 2) := by decide +kernel
theorem dX10_layWaters_74 : decode cX10_layWaters 74 = .ok (.aload_n 0, 1) := by decide +kernel
theorem dX10_layWaters_75 : decode cX10_layWaters 75 = .ok (.invokevirtual 271, 3) := by decide +kernel
theorem dX10_layWaters_78 : decode cX10_layWaters 78 = .ok (.if_icmp .ge 31, 3) := by decide +kernel
theorem dX10_layWaters_81 : decode cX10_layWaters 81 = .ok (.aload_n 0, 1) := by decide +kernel
theorem dX10_layWaters_82 : decode cX10_layWaters 82 = .ok (.getfield 76, 3) := by decide +kernel
theorem dX10_layWaters_85 : decode cX10_layWaters 85 = .ok (.bipush 16, 2) := by decide +kernel
theorem dX10_layWaters_87 : decode cX10_layWaters 87 = .ok (.aload_n 0, 1) := by decide +kernel
theorem dX10_layWaters_88 : decode cX10_layWaters 88 = .ok (.getfield 379, 3) := by decide +kernel
theorem dX10_layWaters_91 : decode cX10_layWaters 91 = .ok (.imul, 1) := by decide +kernel
theorem dX10_layWaters_92 : decode cX10_layWaters 92 = .ok (.iload 5, 2) := by decide +kernel
theorem dX10_layWaters_94 : decode cX10_layWaters 94 = .ok (.iadd, 1) := by decide +kernel
theorem dX10_layWaters_95 : decode cX10_layWaters 95 = .ok (.aload_n 0, 1) := by decide +kernel
theorem dX10_layWaters_96 : decode cX10_layWaters 96 = .ok (.iload_n 2, 1) := by decide +kernel
theorem dX10_layWaters_97 : decode cX10_layWaters 97 = .ok (.iload 5, 2) := by decide +kernel
theorem dX10_layWaters_99 : decode cX10_layWaters 99 = .ok (.invokevirtual 294, 3) := by decide +kernel
theorem dX10_layWaters_102 : decode cX10_layWaters 102 = .ok (.iastore, 1) := by decide +kernel
theorem dX10_layWaters_103 : decode cX10_layWaters 103 = .ok (.iinc 5 1, 3) := by decide +kernel
theorem dX10_layWaters_106 : decode cX10_layWaters 106 = .ok (.goto (-34), 3) := by decide +kernel
theorem dX10_layWaters_109 : decode cX10_layWaters 109 = .ok (.aload_n 0, 1) := by decide +kernel
theorem dX10_layWaters_110 : decode cX10_layWaters 110 = .ok (.dup, 1) := by decide +kernel
theorem dX10_layWaters_111 : decode cX10_layWaters 111 = .ok (.getfield 379, 3) := by decide +kernel
theorem dX10_layWaters_114 : decode cX10_layWaters 114 = .ok (.iconst 1, 1) := by decide +kernel
theorem dX10_layWaters_115 : decode cX10_layWaters 115 = .ok (.iadd, 1) := by decide +kernel
theorem dX10_layWaters_116 : decode cX10_layWaters 116 = .ok (.putfield 379, 3) := by decide +kernel
theorem dX10_layWaters_119 : decode cX10_layWaters 119 = .ok (.iinc 4 1, 3) := by decide +kernel
theorem dX10_layWaters_122 : decode cX10_layWaters 122 = .ok (.goto (-90), 3) := by decide +kernel
theorem dX10_layWaters_125 : decode cX10_layWaters 125 = .ok (.iconst 0, 1) := by decide +kernel
theorem dX10_layWaters_126 : decode cX10_layWaters 126 = .ok (.ireturn, 1) := by decide +kernel
set_option maxRecDepth 20000 in
theorem ggX10_waters_X10_layWaters : GoodIn wsX10_waters wsX10_layWaters := goodIn_r _ [6, 1, 7, 8, 9, 10, 11, 12, 5, 13, 14, 15, 16, 17, 18, 19, 20, 21, 22, 23, 24, 25, 26, 27, 28, 29, 30, 31, 32, 33, 34, 35, 36, 37, 38, 39, 40, 41, 42, 43, 44, 45, 46, 47, 48, 49, 50, 51, 52, 53, 54, 55, 56, 57, 58, 59, 60, 61, 62, 63, 64, 65, 66, 67, 68, 69, 70, 71, 72, 73, 74, 75, 76, 77, 78, 79, 80, 81, 82, 83, 84, 85, 86, 87, 88, 89, 90, 91, 92, 93, 94, 95, 96, 97, 98, 99, 100, 101, 102, 103, 104, 105, 106, 107, 108, 109, 110, 111, 112, 113, 114, 115, 116, 117, 118, 119, 120, 121, 122, 123, 124, 125, 126, 127, 128, 129, 130, 131, 132, 133, 134, 135, 136, 137, 138, 139, 140, 141, 142, 143, 144, 145, 146, 147, 148, 149] (by decide +kernel) (by decide +kernel)
set_option maxRecDepth 20000 in
theorem gX10_waters_X10_layWaters : GoodIn wsX10_waters (wsV RX10 385 RX10 yX10_layWaters wsX10_layWaters) := goodIn_app (goodIn_of _ (by decide +kernel)) ggX10_waters_X10_layWaters
theorem dX10_waters_0 : decode cX10_waters 0 = .ok (.aload_n 0, 1) := by decide +kernel
theorem dX10_waters_1 : decode cX10_waters 1 = .ok (.iload_n 1, 1) := by decide +kernel
theorem dX10_waters_2 : decode cX10_waters 2 = .ok (.iload_n 2, 1) := by decide +kernel
theorem dX10_waters_3 : decode cX10_waters 3 = .ok (.invokevirtual 385, 3) := by decide +kernel
theorem dX10_waters_6 : decode cX10_waters 6 = .ok (.istore_n 3, 1) := by decide +kernel
theorem dX10_waters_7 : decode cX10_waters 7 = .ok (.iload_n 3, 1) := by decide +kernel
theorem dX10_waters_8 : decode cX10_waters 8 = .ok (.ifCond .ge 7, 3) := by decide +kernel
theorem dX10_waters_11 : decode cX10_waters 11 = .ok (.iload_n 3, 1) := by decide +kernel
theorem dX10_waters_12 : decode cX10_waters 12 = .ok (.goto 7, 3) := by decide +kernel
theorem dX10_waters_15 : decode cX10_waters 15 = .ok (.aload_n 0, 1) := by decide +kernel
theorem dX10_waters_16 : decode cX10_waters 16 = .ok (.getfield 379, 3) := by decide +kernel
theorem dX10_waters_19 : decode cX10_waters 19 = .ok (.ireturn, 1) := by decide +kernel
set_option maxRecDepth 20000 in
theorem ggX10_least_X10_layWaters : GoodIn wsX10_least wsX10_layWaters := goodIn_r _ [7, 1, 8, 2, 9, 10, 11, 12, 6, 13, 14, 15, 16, 17, 18, 19, 20, 21, 22, 23, 24, 25, 26, 27, 28, 29, 30, 31, 32, 33, 34, 35, 36, 37, 38, 39, 40, 41, 42, 43, 44, 45, 46, 47, 48, 49, 50, 51, 52, 53, 54, 55, 56, 57, 58, 59, 60, 61, 62, 63, 64, 65, 66, 67, 68, 69, 70, 71, 72, 73, 74, 75, 76, 77, 78, 79, 80, 81, 82, 83, 84, 85, 86, 87, 88, 89, 90, 91, 92, 93, 94, 95, 96, 97, 98, 99, 100, 101, 102, 103, 104, 105, 106, 107, 108, 109, 110, 111, 112, 113, 114, 115, 116, 117, 118, 119, 120, 121, 122, 123, 124, 125, 126, 127, 128, 129, 130, 131, 132, 133, 134, 135, 136, 137, 138, 139, 140, 141, 142, 143, 144, 145, 146, 147, 148, 149] (by decide +kernel) (by decide +kernel)
set_option maxRecDepth 20000 in
theorem gX10_least_X10_layWaters : GoodIn wsX10_least (wsV RX10 385 RX10 yX10_layWaters wsX10_layWaters) := goodIn_app (goodIn_of _ (by decide +kernel)) ggX10_least_X10_layWaters
theorem dX10_least_0 : decode cX10_least 0 = .ok (.aload_n 0, 1) := by decide +kernel
theorem dX10_least_1 : decode cX10_least 1 = .ok (.iload_n 1, 1) := by decide +kernel
theorem dX10_least_2 : decode cX10_least 2 = .ok (.iload_n 2, 1) := by decide +kernel
theorem dX10_least_3 : decode cX10_least 3 = .ok (.invokevirtual 385, 3) := by decide +kernel
theorem dX10_least_6 : decode cX10_least 6 = .ok (.istore_n 3, 1) := by decide +kernel
theorem dX10_least_7 : decode cX10_least 7 = .ok (.iload_n 3, 1) := by decide +kernel
theorem dX10_least_8 : decode cX10_least 8 = .ok (.ifCond .ge 7, 3) := by decide +kernel
theorem dX10_least_11 : decode cX10_least 11 = .ok (.iload_n 3, 1) := by decide +kernel
theorem dX10_least_12 : decode cX10_least 12 = .ok (.goto 20, 3) := by decide +kernel
theorem dX10_least_15 : decode cX10_least 15 = .ok (.aload_n 0, 1) := by decide +kernel
theorem dX10_least_16 : decode cX10_least 16 = .ok (.getfield 379, 3) := by decide +kernel
theorem dX10_least_19 : decode cX10_least 19 = .ok (.ifCond .ne 7, 3) := by decide +kernel
theorem dX10_least_22 : decode cX10_least 22 = .ok (.iconst (-1), 1) := by decide +kernel
theorem dX10_least_23 : decode cX10_least 23 = .ok (.goto 9, 3) := by decide +kernel
theorem dX10_least_26 : decode cX10_least 26 = .ok (.aload_n 0, 1) := by decide +kernel
theorem dX10_least_27 : decode cX10_least 27 = .ok (.getfield 73, 3) := by decide +kernel
theorem dX10_least_30 : decode cX10_least 30 = .ok (.iconst 0, 1) := by decide +kernel
theorem dX10_least_31 : decode cX10_least 31 = .ok (.iaload, 1) := by decide +kernel
theorem dX10_least_32 : decode cX10_least 32 = .ok (.ireturn, 1) := by decide +kernel
set_option maxRecDepth 20000 in
theorem ggX10_greatest_X10_layWaters : GoodIn wsX10_greatest wsX10_layWaters := goodIn_r _ [7, 1, 8, 2, 9, 10, 11, 12, 6, 13, 14, 15, 16, 17, 18, 19, 20, 21, 22, 23, 24, 25, 26, 27, 28, 29, 30, 31, 32, 33, 34, 35, 36, 37, 38, 39, 40, 41, 42, 43, 44, 45, 46, 47, 48, 49, 50, 51, 52, 53, 54, 55, 56, 57, 58, 59, 60, 61, 62, 63, 64, 65, 66, 67, 68, 69, 70, 71, 72, 73, 74, 75, 76, 77, 78, 79, 80, 81, 82, 83, 84, 85, 86, 87, 88, 89, 90, 91, 92, 93, 94, 95, 96, 97, 98, 99, 100, 101, 102, 103, 104, 105, 106, 107, 108, 109, 110, 111, 112, 113, 114, 115, 116, 117, 118, 119, 120, 121, 122, 123, 124, 125, 126, 127, 128, 129, 130, 131, 132, 133, 134, 135, 136, 137, 138, 139, 140, 141, 142, 143, 144, 145, 146, 147, 148, 149] (by decide +kernel) (by decide +kernel)
set_option maxRecDepth 20000 in
theorem gX10_greatest_X10_layWaters : GoodIn wsX10_greatest (wsV RX10 385 RX10 yX10_layWaters wsX10_layWaters) := goodIn_app (goodIn_of _ (by decide +kernel)) ggX10_greatest_X10_layWaters
theorem dX10_greatest_0 : decode cX10_greatest 0 = .ok (.aload_n 0, 1) := by decide +kernel
theorem dX10_greatest_1 : decode cX10_greatest 1 = .ok (.iload_n 1, 1) := by decide +kernel
theorem dX10_greatest_2 : decode cX10_greatest 2 = .ok (.iload_n 2, 1) := by decide +kernel
theorem dX10_greatest_3 : decode cX10_greatest 3 = .ok (.invokevirtual 385, 3) := by decide +kernel
theorem dX10_greatest_6 : decode cX10_greatest 6 = .ok (.istore_n 3, 1) := by decide +kernel
theorem dX10_greatest_7 : decode cX10_greatest 7 = .ok (.iload_n 3, 1) := by decide +kernel
theorem dX10_greatest_8 : decode cX10_greatest 8 = .ok (.ifCond .ge 7, 3) := by decide +kernel
theorem dX10_greatest_11 : decode cX10_greatest 11 = .ok (.iload_n 3, 1) := by decide +kernel
theorem dX10_greatest_12 : decode cX10_greatest 12 = .ok (.goto 25, 3) := by decide +kernel
theorem dX10_greatest_15 : decode cX10_greatest 15 = .ok (.aload_n 0, 1) := by decide +kernel
theorem dX10_greatest_16 : decode cX10_greatest 16 = .ok (.getfield 379, 3) := by decide +kernel
theorem dX10_greatest_19 : decode cX10_greatest 19 = .ok (.ifCond .ne 7, 3) := by decide +kernel
theorem dX10_greatest_22 : decode cX10_greatest 22 = .ok (.iconst (-1), 1) := by decide +kernel
theorem dX10_greatest_23 : decode cX10_greatest 23 = .ok (.goto 14, 3) := by decide +kernel
theorem dX10_greatest_26 : decode cX10_greatest 26 = .ok (.aload_n 0, 1) := by decide +kernel
theorem dX10_greatest_27 : decode cX10_greatest 27 = .ok (.getfield 73, 3) := by decide +kernel
theorem dX10_greatest_30 : decode cX10_greatest 30 = .ok (.aload_n 0, 1) := by decide +kernel
theorem dX10_greatest_31 : decode cX10_greatest 31 = .ok (.getfield 379, 3) := by decide +kernel
theorem dX10_greatest_34 : decode cX10_greatest 34 = .ok (.iconst 1, 1) := by decide +kernel
theorem dX10_greatest_35 : decode cX10_greatest 35 = .ok (.isub, 1) := by decide +kernel
theorem dX10_greatest_36 : decode cX10_greatest 36 = .ok (.iaload, 1) := by decide +kernel
theorem dX10_greatest_37 : decode cX10_greatest 37 = .ok (.ireturn, 1) := by decide +kernel
set_option maxRecDepth 20000 in
theorem ggX10_askOf_X10_years : GoodIn wsX10_askOf wsX10_years := goodIn_r _ [12, 13, 14, 15, 16, 17, 18, 19, 20, 21, 22, 23, 24, 25, 26, 27, 28, 29, 30, 31, 32, 33, 34, 35, 36, 37, 38, 39, 40, 41, 42, 43, 44, 45, 46, 47, 48, 49, 50, 51, 52, 53, 54, 55, 56, 57, 58] (by decide +kernel) (by decide +kernel)
set_option maxRecDepth 20000 in
theorem gX10_askOf_X10_years : GoodIn wsX10_askOf (wsV RX10 271 RX10 yX10_years wsX10_years) := goodIn_app (goodIn_of _ (by decide +kernel)) ggX10_askOf_X10_years
theorem dX10_askOf_0 : decode cX10_askOf 0 = .ok (.aload_n 0, 1) := by decide +kernel
theorem dX10_askOf_1 : decode cX10_askOf 1 = .ok (.aload_n 0, 1) := by decide +kernel
theorem dX10_askOf_2 : decode cX10_askOf 2 = .ok (.getfield 379, 3) := by decide +kernel
theorem dX10_askOf_5 : decode cX10_askOf 5 = .ok (.putfield 388, 3) := by decide +kernel
theorem dX10_askOf_8 : decode cX10_askOf 8 = .ok (.iconst (-1), 1) := by decide +kernel
theorem dX10_askOf_9 : decode cX10_askOf 9 = .ok (.istore_n 1, 1) := by decide +kernel
theorem dX10_askOf_10 : decode cX10_askOf 10 = .ok (.iconst 0, 1) := by decide +kernel
theorem dX10_askOf_11 : decode cX10_askOf 11 = .ok (.istore_n 2, 1) := by decide +kernel
theorem dX10_askOf_12 : decode cX10_askOf 12 = .ok (.iload_n 2, 1) := by decide +kernel
theorem dX10_askOf_13 : decode cX10_askOf 13 = .ok (.aload_n 0, 1) := by decide +kernel
theorem dX10_askOf_14 : decode cX10_askOf 14 = .ok (.invokevirtual 271, 3) := by decide +kernel
theorem dX10_askOf_17 : decode cX10_askOf 17 = .ok (.if_icmp .ge 112, 3) := by decide +kernel
theorem dX10_askOf_20 : decode cX10_askOf 20 = .ok (.iconst 0, 1) := by decide +kernel
theorem dX10_askOf_21 : decode cX10_askOf 21 = .ok (.istore_n 3, 1) := by decide +kernel
theorem dX10_askOf_22 : decode cX10_askOf 22 = .ok (.iconst 0, 1) := by decide +kernel
theorem dX10_askOf_23 : decode cX10_askOf 23 = .ok (.istore 4, 2) := by decide +kernel
theorem dX10_askOf_25 : decode cX10_askOf 25 = .ok (.iload 4, 2) := by decide +kernel
theorem dX10_askOf_27 : decode cX10_askOf 27 = .ok (.aload_n 0, 1) := by decide +kernel
theorem dX10_askOf_28 : decode cX10_askOf 28 = .ok (.getfield 379, 3) := by decide +kernel
theorem dX10_askOf_31 : decode cX10_askOf 31 = .ok (.if_icmp .ge 74, 3) := by decide +kernel
theorem dX10_askOf_34 : decode cX10_askOf 34 = .ok (.iconst 0, 1) := by decide +kernel
theorem dX10_askOf_35 : decode cX10_askOf 35 = .ok (.istore 5, 2) := by decide +kernel
theorem dX10_askOf_37 : decode cX10_askOf 37 = .ok (.iconst 0, 1) := by decide +kernel
theorem dX10_askOf_38 : decode cX10_askOf 38 = .ok (.istore 6, 2) := by decide +kernel
theorem dX10_askOf_40 : decode cX10_askOf 40 = .ok (.iload 6, 2) := by decide +kernel
theorem dX10_askOf_42 : decode cX10_askOf 42 = .ok (.aload_n 0, 1) := by decide +kernel
theorem dX10_askOf_43 : decode cX10_askOf 43 = .ok (.getfield 379, 3) := by decide +kernel
theorem dX10_askOf_46 : decode cX10_askOf 46 = .ok (.if_icmp .ge 46, 3) := by decide +kernel
theorem dX10_askOf_49 : decode cX10_askOf 49 = .ok (.iload 5, 2) := by decide +kernel
theorem dX10_askOf_51 : decode cX10_askOf 51 = .ok (.aload_n 0, 1) := by decide +kernel
theorem dX10_askOf_52 : decode cX10_askOf 52 = .ok (.getfield 76, 3) := by decide +kernel
theorem dX10_askOf_55 : decode cX10_askOf 55 = .ok (.bipush 16, 2) := by decide +kernel
theorem dX10_askOf_57 : decode cX10_askOf 57 = .ok (.iload 4, 2) := by decide +kernel
theorem dX10_askOf_59 : decode cX10_askOf 59 = .ok (.imul, 1) := by decide +kernel
theorem dX10_askOf_60 : decode cX10_askOf 60 = .ok (.iload_n 2, 1) := by decide +kernel
theorem dX10_askOf_61 : decode cX10_askOf 61 = .ok (.iadd, 1) := by decide +kernel
theorem dX10_askOf_62 : decode cX10_askOf 62 = .ok (.iaload, 1) := by decide +kernel
theorem dX10_askOf_63 : decode cX10_askOf 63 = .ok (.aload_n 0, 1) := by decide +kernel
theorem dX10_askOf_64 : decode cX10_askOf 64 = .ok (.getfield 76, 3) := by decide +kernel
theorem dX10_askOf_67 : decode cX10_askOf 67 = .ok (.bipush 16, 2) := by decide +kernel
theorem dX10_askOf_69 : decode cX10_askOf 69 = .ok (.iload 6, 2) := by decide +kernel
theorem dX10_askOf_71 : decode cX10_askOf 71 = .ok (.imul, 1) := by decide +kernel
theorem dX10_askOf_72 : decode cX10_askOf 72 = .ok (.iload_n 2, 1) := by decide +kernel
theorem dX10_askOf_73 : decode cX10_askOf 73 = .ok (.iadd, 1) := by decide +kernel
theorem dX10_askOf_74 : decode cX10_askOf 74 = .ok (.iaload, 1) := by decide +kernel
theorem dX10_askOf_75 : decode cX10_askOf 75 = .ok (.if_icmp .ne 7, 3) := by decide +kernel
theorem dX10_askOf_78 : decode cX10_askOf 78 = .ok (.iconst 1, 1) := by decide +kernel
theorem dX10_askOf_79 : decode cX10_askOf 79 = .ok (.goto 4, 3) := by decide +kernel
theorem dX10_askOf_82 : decode cX10_askOf 82 = .ok (.iconst 0, 1) := by decide +kernel
theorem dX10_askOf_83 : decode cX10_askOf 83 = .ok (.iadd, 1) := by decide +kernel
theorem dX10_askOf_84 : decode cX10_askOf 84 = .ok (.istore 5, 2) := by decide +kernel
theorem dX10_askOf_86 : decode cX10_askOf 86 = .ok (.iinc 6 1, 3) := by decide +kernel
theorem dX10_askOf_89 : decode cX10_askOf 89 = .ok (.goto (-49), 3) := by decide +kernel
theorem dX10_askOf_92 : decode cX10_askOf 92 = .ok (.iload_n 3, 1) := by decide +kernel
theorem dX10_askOf_93 : decode cX10_askOf 93 = .ok (.iload 5, 2) := by decide +kernel
theorem dX10_askOf_95 : decode cX10_askOf 95 = .ok (.invokestatic 255, 3) := by decide +kernel
theorem dX10_askOf_98 : decode cX10_askOf 98 = .ok (.istore_n 3, 1) := by decide +kernel
theorem dX10_askOf_99 : decode cX10_askOf 99 = .ok (.iinc 4 1, 3) := by decide +kernel
theorem dX10_askOf_102 : decode cX10_askOf 102 = .ok (.goto (-77), 3) := by decide +kernel
theorem dX10_askOf_105 : decode cX10_askOf 105 = .ok (.iload_n 3, 1) := by decide +kernel
theorem dX10_askOf_106 : decode cX10_askOf 106 = .ok (.aload_n 0, 1) := by decide +kernel
theorem dX10_askOf_107 : decode cX10_askOf 107 = .ok (.getfield 388, 3) := by decide +kernel
theorem dX10_askOf_110 : decode cX10_askOf 110 = .ok (.if_icmp .lt 6, 3) := by decide +kernel
theorem dX10_askOf_113 : decode cX10_askOf 113 = .ok (.goto 10, 3) := by decide +kernel
theorem dX10_askOf_116 : decode cX10_askOf 116 = .ok (.aload_n 0, 1) := by decide +kernel
theorem dX10_askOf_117 : decode cX10_askOf 117 = .ok (.iload_n 3, 1) := by decide +kernel
theorem dX10_askOf_118 : decode cX10_askOf 118 = .ok (.putfield 388, 3) := by decide +kernel
theorem dX10_askOf_121 : decode cX10_askOf 121 = .ok (.iload_n 2, 1) := by decide +kernel
theorem dX10_askOf_122 : decode cX10_askOf 122 = .ok (.istore_n 1, 1) := by decide +kernel
theorem dX10_askOf_123 : decode cX10_askOf 123 = .ok (.iinc 2 1, 3) := by decide +kernel
theorem dX10_askOf_126 : decode cX10_askOf 126 = .ok (.goto (-114), 3) := by decide +kernel
theorem dX10_askOf_129 : decode cX10_askOf 129 = .ok (.iload_n 1, 1) := by decide +kernel
theorem dX10_askOf_130 : decode cX10_askOf 130 = .ok (.ireturn, 1) := by decide +kernel
set_option maxRecDepth 20000 in
theorem ggX10_ask_X10_layWaters : GoodIn wsX10_ask wsX10_layWaters := goodIn_r _ [5, 6, 7, 8, 9, 10, 11, 12, 4, 13, 14, 15, 16, 17, 18, 19, 20, 21, 22, 23, 24, 25, 26, 27, 28, 29, 30, 31, 32, 33, 34, 35, 36, 37, 38, 39, 40, 41, 42, 43, 44, 45, 46, 47, 48, 49, 50, 51, 52, 53, 54, 55, 56, 57, 58, 59, 60, 61, 62, 63, 64, 65, 66, 67, 68, 69, 70, 71, 72, 73, 74, 75, 76, 77, 78, 79, 80, 81, 82, 83, 84, 85, 86, 87, 88, 89, 90, 91, 92, 93, 94, 95, 96, 97, 98, 99, 100, 101, 102, 103, 104, 110, 111, 112, 113, 114, 115, 116, 117, 118, 119, 120, 121, 122, 123, 124, 125, 126, 127, 128, 129, 130, 131, 132, 133, 134, 135, 136, 137, 138, 139, 140, 141, 142, 143, 144, 145, 146, 147, 148, 149, 150, 151, 152, 153, 154] (by decide +kernel) (by decide +kernel)
set_option maxRecDepth 20000 in
theorem gX10_ask_X10_layWaters : GoodIn wsX10_ask (wsV RX10 385 RX10 yX10_layWaters wsX10_layWaters) := goodIn_app (goodIn_of _ (by decide +kernel)) ggX10_ask_X10_layWaters
set_option maxRecDepth 20000 in
theorem ggX10_ask_X10_askOf : GoodIn wsX10_ask wsX10_askOf := goodIn_r _ [108, 6, 109, 9, 54, 55, 56, 57, 71, 72, 73, 4, 74, 14, 110, 111, 112, 113, 114, 115, 116, 117, 118, 119, 120, 121, 122, 123, 124, 125, 126, 127, 128, 129, 130, 131, 132, 133, 134, 135, 136, 137, 138, 139, 140, 141, 142, 143, 144, 145, 146, 147, 148, 149, 150, 151, 152, 153, 154] (by decide +kernel) (by decide +kernel)
set_option maxRecDepth 20000 in
theorem gX10_ask_X10_askOf : GoodIn wsX10_ask (wsV RX10 391 RX10 yX10_askOf wsX10_askOf) := goodIn_app (goodIn_of _ (by decide +kernel)) ggX10_ask_X10_askOf
theorem dX10_ask_0 : decode cX10_ask 0 = .ok (.aload_n 0, 1) := by decide +kernel
theorem dX10_ask_1 : decode cX10_ask 1 = .ok (.iload_n 1, 1) := by decide +kernel
theorem dX10_ask_2 : decode cX10_ask 2 = .ok (.iload_n 2, 1) := by decide +kernel
theorem dX10_ask_3 : decode cX10_ask 3 = .ok (.invokevirtual 385, 3) := by decide +kernel
theorem dX10_ask_6 : decode cX10_ask 6 = .ok (.istore_n 3, 1) := by decide +kernel
theorem dX10_ask_7 : decode cX10_ask 7 = .ok (.iload_n 3, 1) := by decide +kernel
theorem dX10_ask_8 : decode cX10_ask 8 = .ok (.ifCond .ge 7, 3) := by decide +kernel
theorem dX10_ask_11 : decode cX10_ask 11 = .ok (.iload_n 3, 1) := by decide +kernel
theorem dX10_ask_12 : decode cX10_ask 12 = .ok (.goto 7, 3) := by decide +kernel
theorem dX10_ask_15 : decode cX10_ask 15 = .ok (.aload_n 0, 1) := by decide +kernel
theorem dX10_ask_16 : decode cX10_ask 16 = .ok (.invokevirtual 391, 3) := by decide +kernel
theorem dX10_ask_19 : decode cX10_ask 19 = .ok (.ireturn, 1) := by decide +kernel
set_option maxRecDepth 20000 in
theorem ggX10_leaves_X10_layWaters : GoodIn wsX10_leaves wsX10_layWaters := goodIn_r _ [6, 7, 8, 9, 10, 11, 12, 13, 5, 14, 15, 16, 17, 18, 19, 20, 21, 22, 23, 24, 25, 26, 27, 28, 29, 30, 31, 32, 33, 34, 35, 36, 37, 38, 39, 40, 41, 42, 43, 44, 45, 46, 47, 48, 49, 50, 51, 52, 53, 54, 55, 56, 57, 58, 59, 60, 61, 62, 63, 64, 65, 66, 67, 68, 69, 70, 71, 72, 73, 74, 75, 76, 77, 78, 79, 80, 81, 82, 83, 84, 85, 86, 87, 88, 89, 90, 91, 92, 93, 94, 95, 96, 97, 98, 99, 100, 101, 102, 103, 104, 105, 110, 111, 112, 113, 114, 115, 116, 117, 118, 119, 120, 121, 122, 123, 124, 125, 126, 127, 128, 129, 130, 131, 132, 133, 134, 135, 136, 137, 138, 139, 140, 141, 142, 143, 144, 145, 146, 147, 148, 149, 150, 151, 152, 153, 154] (by decide +kernel) (by decide +kernel)
set_option maxRecDepth 20000 in
theorem gX10_leaves_X10_layWaters : GoodIn wsX10_leaves (wsV RX10 385 RX10 yX10_layWaters wsX10_layWaters) := goodIn_app (goodIn_of _ (by decide +kernel)) ggX10_leaves_X10_layWaters
set_option maxRecDepth 20000 in
theorem ggX10_leaves_X10_askOf : GoodIn wsX10_leaves wsX10_askOf := goodIn_r _ [109, 7, 1, 10, 55, 56, 57, 58, 72, 73, 74, 5, 75, 15, 110, 111, 112, 113, 114, 115, 116, 117, 118, 119, 120, 121, 122, 123, 124, 125, 126, 127, 128, 129, 130, 131, 132, 133, 134, 135, 136, 137, 138, 139, 140, 141, 142, 143, 144, 145, 146, 147, 148, 149, 150, 151, 152, 153, 154] (by decide +kernel) (by decide +kernel)
set_option maxRecDepth 20000 in
theorem gX10_leaves_X10_askOf : GoodIn wsX10_leaves (wsV RX10 391 RX10 yX10_askOf wsX10_askOf) := goodIn_app (goodIn_of _ (by decide +kernel)) ggX10_leaves_X10_askOf
theorem dX10_leaves_0 : decode cX10_leaves 0 = .ok (.aload_n 0, 1) := by decide +kernel
theorem dX10_leaves_1 : decode cX10_leaves 1 = .ok (.iload_n 1, 1) := by decide +kernel
theorem dX10_leaves_2 : decode cX10_leaves 2 = .ok (.iload_n 2, 1) := by decide +kernel
theorem dX10_leaves_3 : decode cX10_leaves 3 = .ok (.invokevirtual 385, 3) := by decide +kernel
theorem dX10_leaves_6 : decode cX10_leaves 6 = .ok (.istore_n 3, 1) := by decide +kernel
theorem dX10_leaves_7 : decode cX10_leaves 7 = .ok (.iload_n 3, 1) := by decide +kernel
theorem dX10_leaves_8 : decode cX10_leaves 8 = .ok (.ifCond .ge 5, 3) := by decide +kernel
theorem dX10_leaves_11 : decode cX10_leaves 11 = .ok (.iload_n 3, 1) := by decide +kernel
theorem dX10_leaves_12 : decode cX10_leaves 12 = .ok (.ireturn, 1) := by decide +kernel
theorem dX10_leaves_13 : decode cX10_leaves 13 = .ok (.aload_n 0, 1) := by decide +kernel
theorem dX10_leaves_14 : decode cX10_leaves 14 = .ok (.invokevirtual 391, 3) := by decide +kernel
theorem dX10_leaves_17 : decode cX10_leaves 17 = .ok (.pop, 1) := by decide +kernel
theorem dX10_leaves_18 : decode cX10_leaves 18 = .ok (.aload_n 0, 1) := by decide +kernel
theorem dX10_leaves_19 : decode cX10_leaves 19 = .ok (.getfield 388, 3) := by decide +kernel
theorem dX10_leaves_22 : decode cX10_leaves 22 = .ok (.ireturn, 1) := by decide +kernel
set_option maxRecDepth 20000 in
theorem ggX10_laws_X10_askSeen : GoodIn wsX10_laws wsX10_askSeen := goodIn_r _ [6, 7, 8, 9, 10, 5, 11, 12, 13, 14, 15, 16, 17, 18, 19, 20, 21, 22, 23, 24, 25, 26, 27, 28, 29, 30, 31, 32, 33, 34, 35, 36, 37, 1, 38, 39, 40, 41, 42, 43, 44, 45, 46, 47, 48, 49, 50, 51, 52, 53, 54, 98, 99, 100, 101, 102, 103, 104, 105, 106, 107, 108, 109, 110, 111, 112, 113, 114, 115, 116, 117, 118, 119, 120, 121, 122, 123, 124, 125, 126, 127, 128, 129, 130, 131, 132, 133, 134, 135, 136, 137, 138, 139, 140, 141, 142] (by decide +kernel) (by decide +kernel)
set_option maxRecDepth 20000 in
theorem gX10_laws_X10_askSeen : GoodIn wsX10_laws (wsV RX10 376 RX10 yX10_askSeen wsX10_askSeen) := goodIn_app (goodIn_of _ (by decide +kernel)) ggX10_laws_X10_askSeen
set_option maxRecDepth 20000 in
theorem ggX10_laws_X10_isSeen : GoodIn wsX10_laws wsX10_isSeen := goodIn_r _ [58, 7, 59, 60, 61, 5, 62, 63, 40, 64, 65, 66, 67, 20, 68, 69, 70, 71, 72, 45, 41, 73, 74, 49, 75, 76, 1, 46, 77, 78, 79, 80, 81, 82, 83, 84, 85, 39, 86, 87, 88, 89, 90, 91, 92, 47, 48, 50, 93, 51, 52, 53, 54, 13, 14, 15, 21, 22, 23, 24, 25, 94, 95, 96, 97, 98, 99, 100, 101, 102, 103, 104, 105, 106, 107, 108, 109, 110, 111, 112, 113, 114, 115, 116, 117, 118, 119, 120, 121, 122, 123, 124, 125, 126, 127, 128, 129, 130, 131, 132, 133, 134, 135, 136, 137, 138, 139, 140, 141, 142] (by decide +kernel) (by decide +kernel)
set_option maxRecDepth 20000 in
theorem gX10_laws_X10_isSeen : GoodIn wsX10_laws (wsV RX10 382 RX10 yX10_isSeen wsX10_isSeen) := goodIn_app (goodIn_of _ (by decide +kernel)) ggX10_laws_X10_isSeen
theorem dX10_laws_0 : decode cX10_laws 0 = .ok (.aload_n 0, 1) := by decide +kernel
theorem dX10_laws_1 : decode cX10_laws 1 = .ok (.iload_n 1, 1) := by decide +kernel
theorem dX10_laws_2 : decode cX10_laws 2 = .ok (.invokevirtual 376, 3) := by decide +kernel
theorem dX10_laws_5 : decode cX10_laws 5 = .ok (.istore_n 2, 1) := by decide +kernel
theorem dX10_laws_6 : decode cX10_laws 6 = .ok (.iload_n 2, 1) := by decide +kernel
theorem dX10_laws_7 : decode cX10_laws 7 = .ok (.ifCond .ge 5, 3) := by decide +kernel
theorem dX10_laws_10 : decode cX10_laws 10 = .ok (.iload_n 2, 1) := by decide +kernel
theorem dX10_laws_11 : decode cX10_laws 11 = .ok (.ireturn, 1) := by decide +kernel
theorem dX10_laws_12 : decode cX10_laws 12 = .ok (.iconst 0, 1) := by decide +kernel
theorem dX10_laws_13 : decode cX10_laws 13 = .ok (.istore_n 3, 1) := by decide +kernel
theorem dX10_laws_14 : decode cX10_laws 14 = .ok (.aload_n 0, 1) := by decide +kernel
theorem dX10_laws_15 : decode cX10_laws 15 = .ok (.iconst 0, 1) := by decide +kernel
theorem dX10_laws_16 : decode cX10_laws 16 = .ok (.putfield 246, 3) := by decide +kernel
theorem dX10_laws_19 : decode cX10_laws 19 = .ok (.aload_n 0, 1) := by decide +kernel
theorem dX10_laws_20 : decode cX10_laws 20 = .ok (.getfield 246, 3) := by decide +kernel
theorem dX10_laws_23 : decode cX10_laws 23 = .ok (.iconst 4, 1) := by decide +kernel
theorem dX10_laws_24 : decode cX10_laws 24 = .ok (.if_icmp .ge 37, 3) := by decide +kernel
theorem dX10_laws_27 : decode cX10_laws 27 = .ok (.iload_n 3, 1) := by decide +kernel
theorem dX10_laws_28 : decode cX10_laws 28 = .ok (.aload_n 0, 1) := by decide +kernel
theorem dX10_laws_29 : decode cX10_laws 29 = .ok (.iload_n 1, 1) := by decide +kernel
theorem dX10_laws_30 : decode cX10_laws 30 = .ok (.invokevirtual 382, 3) := by decide +kernel
theorem dX10_laws_33 : decode cX10_laws 33 = .ok (.ifCond .eq 12, 3) := by decide +kernel
theorem dX10_laws_36 : decode cX10_laws 36 = .ok (.iconst 1, 1) := by decide +kernel
theorem dX10_laws_37 : decode cX10_laws 37 = .ok (.aload_n 0, 1) := by decide +kernel
theorem dX10_laws_38 : decode cX10_laws 38 = .ok (.getfield 246, 3) := by decide +kernel
theorem dX10_laws_41 : decode cX10_laws 41 = .ok (.ishl, 1) := by decide +kernel
theorem dX10_laws_42 : decode cX10_laws 42 = .ok (.goto 4, 3) := by decide +kernel
theorem dX10_laws_45 : decode cX10_laws 45 = .ok (.iconst 0, 1) := by decide +kernel
theorem dX10_laws_46 : decode cX10_laws 46 = .ok (.ior, 1) := by decide +kernel
theorem dX10_laws_47 : decode cX10_laws 47 = .ok (.istore_n 3, 1) := by decide +kernel
theorem dX10_laws_48 : decode cX10_laws 48 = .ok (.aload_n 0, 1) := by decide +kernel
theorem dX10_laws_49 : decode cX10_laws 49 = .ok (.dup, 1) := by decide +kernel
theorem dX10_laws_50 : decode cX10_laws 50 = .ok (.getfield 246, 3) := by decide +kernel
theorem dX10_laws_53 : decode cX10_laws 53 = .ok (.iconst 1, 1) := by decide +kernel
theorem dX10_laws_54 : decode cX10_laws 54 = .ok (.iadd, 1) := by decide +kernel
theorem dX10_laws_55 : decode cX10_laws 55 = .ok (.putfield 246, 3) := by decide +kernel
theorem dX10_laws_58 : decode cX10_laws 58 = .ok (.goto (-39), 3) := by decide +kernel
theorem dX10_laws_61 : decode cX10_laws 61 = .ok (.iload_n 3, 1) := by decide +kernel
theorem dX10_laws_62 : decode cX10_laws 62 = .ok (.ireturn, 1) := by decide +kernel
set_option maxRecDepth 20000 in
theorem ggX10_keptWith_X10_keptMany : GoodIn wsX10_keptWith wsX10_keptMany := goodIn_r _ [6, 7, 8, 9, 5, 10, 11, 12, 13, 14, 15, 16, 17, 18, 19, 20, 21, 22, 23, 24, 25, 26, 27, 28, 29, 30, 31, 32, 33, 34, 35, 1, 36, 37, 38, 39, 40, 41, 42, 43, 44, 45, 46, 47, 48, 49, 50, 51, 52, 53, 54, 55, 56, 57, 58, 59, 60, 61, 62, 63, 64, 65, 66, 67, 68, 69, 70, 71, 72, 73, 74, 75, 76, 77, 78, 79, 80, 81, 82, 83, 84, 85, 86, 87, 88, 89, 90, 91, 92, 93, 94, 95, 96, 97, 98, 99, 100, 101, 102, 103, 104, 105, 106] (by decide +kernel) (by decide +kernel)
set_option maxRecDepth 20000 in
theorem gX10_keptWith_X10_keptMany : GoodIn wsX10_keptWith (wsV RX10 343 RX10 yX10_keptMany wsX10_keptMany) := goodIn_app (goodIn_of _ (by decide +kernel)) ggX10_keptWith_X10_keptMany
theorem dX10_keptWith_0 : decode cX10_keptWith 0 = .ok (.aload_n 0, 1) := by decide +kernel
theorem dX10_keptWith_1 : decode cX10_keptWith 1 = .ok (.iload_n 1, 1) := by decide +kernel
theorem dX10_keptWith_2 : decode cX10_keptWith 2 = .ok (.putfield 249, 3) := by decide +kernel
theorem dX10_keptWith_5 : decode cX10_keptWith 5 = .ok (.aload_n 0, 1) := by decide +kernel
theorem dX10_keptWith_6 : decode cX10_keptWith 6 = .ok (.invokevirtual 343, 3) := by decide +kernel
theorem dX10_keptWith_9 : decode cX10_keptWith 9 = .ok (.ireturn, 1) := by decide +kernel
set_option maxRecDepth 20000 in
theorem ggX10_worth_X10_asksDukedom : GoodIn wsX10_worth wsX10_asksDukedom := goodIn_r _ [5, 6, 7, 8, 4, 9, 10, 11, 12, 13, 14, 15, 16, 17, 18, 19, 20, 21, 22, 23, 24, 25, 26, 27, 28, 29, 30, 31, 32, 33, 34, 35, 36, 37, 38, 39, 40, 41, 42, 43, 44, 45, 46, 47, 48, 49, 50, 51, 52, 53, 54, 55, 56, 57, 58, 59, 60, 61, 62, 63, 64, 65, 66, 67, 68, 69, 70, 114, 115, 116, 117, 118, 119, 120, 121, 122, 123, 124, 125, 126, 127, 128, 129, 130, 131, 132, 133, 134, 135, 136, 137, 138, 139, 140, 141, 142, 143, 144, 145, 146, 147, 148, 149, 150, 151, 152, 153, 154, 155, 156, 157, 158] (by decide +kernel) (by decide +kernel)
set_option maxRecDepth 20000 in
theorem gX10_worth_X10_asksDukedom : GoodIn wsX10_worth (wsV RX10 285 RX10 yX10_asksDukedom wsX10_asksDukedom) := goodIn_app (goodIn_of _ (by decide +kernel)) ggX10_worth_X10_asksDukedom
set_option maxRecDepth 20000 in
theorem ggX10_worth_X10_isDukedom : GoodIn wsX10_worth wsX10_isDukedom := goodIn_r _ [70, 10, 114, 115, 116, 117, 118, 119, 120, 121, 122, 123, 124, 125, 126, 127, 128, 129, 130, 131, 132, 133, 134, 135, 136, 137, 138, 139, 140, 141, 142, 143, 144, 145, 146, 147, 148, 149, 150, 151, 152, 153, 154, 155, 156, 157, 158] (by decide +kernel) (by decide +kernel)
set_option maxRecDepth 20000 in
theorem gX10_worth_X10_isDukedom : GoodIn wsX10_worth (wsV RX10 282 RX10 yX10_isDukedom wsX10_isDukedom) := goodIn_app (goodIn_of _ (by decide +kernel)) ggX10_worth_X10_isDukedom
set_option maxRecDepth 20000 in
theorem ggX10_worth_X10_ranks : GoodIn wsX10_worth wsX10_ranks := goodIn_r _ [51, 10, 114, 115, 116, 117, 118, 119, 120, 121, 122, 123, 124, 125, 126, 127, 128, 129, 130, 131, 132, 133, 134, 135, 136, 137, 138, 139, 140, 141, 142, 143, 144, 145, 146, 147, 148, 149, 150, 151, 152, 153, 154, 155, 156, 157, 158] (by decide +kernel) (by decide +kernel)
set_option maxRecDepth 20000 in
theorem gX10_worth_X10_ranks : GoodIn wsX10_worth (wsV RX10 261 RX10 yX10_ranks wsX10_ranks) := goodIn_app (goodIn_of _ (by decide +kernel)) ggX10_worth_X10_ranks
set_option maxRecDepth 20000 in
theorem ggX10_worth_X10_in : GoodIn wsX10_worth wsX10_in := goodIn_r _ [66] (by decide +kernel) (by decide +kernel)
set_option maxRecDepth 20000 in
theorem gX10_worth_X10_in : GoodIn wsX10_worth (va_wsS RX10 100 yX10_in wsX10_in) := goodIn_app (goodIn_of _ (by decide +kernel)) ggX10_worth_X10_in
set_option maxRecDepth 20000 in
theorem ggX10_worth_X10_keptWith : GoodIn wsX10_worth wsX10_keptWith := goodIn_r _ [74, 12, 75, 76, 77, 4, 78, 79, 80, 81, 82, 10, 83, 84, 85, 86, 87, 88, 89, 90, 91, 92, 93, 94, 64, 65, 66, 95, 96, 97, 98, 99, 100, 101, 102, 16, 52, 53, 54, 55, 13, 56, 57, 58, 103, 104, 105, 106, 47, 107, 108, 109, 110, 17, 18, 25, 26, 27, 28, 111, 112, 113, 114, 115, 116, 117, 118, 119, 120, 121, 122, 123, 124, 125, 126, 127, 128, 129, 130, 131, 132, 133, 134, 135, 136, 137, 138, 139, 140, 141, 142, 143, 144, 145, 146, 147, 148, 149, 150, 151, 152, 153, 154, 155, 156, 157, 158] (by decide +kernel) (by decide +kernel)
set_option maxRecDepth 20000 in
theorem gX10_worth_X10_keptWith : GoodIn wsX10_worth (wsV RX10 394 RX10 yX10_keptWith wsX10_keptWith) := goodIn_app (goodIn_of _ (by decide +kernel)) ggX10_worth_X10_keptWith
theorem dX10_worth_0 : decode cX10_worth 0 = .ok (.aload_n 0, 1) := by decide +kernel
theorem dX10_worth_1 : decode cX10_worth 1 = .ok (.invokevirtual 285, 3) := by decide +kernel
theorem dX10_worth_4 : decode cX10_worth 4 = .ok (.pop, 1) := by decide +kernel
theorem dX10_worth_5 : decode cX10_worth 5 = .ok (.aload_n 0, 1) := by decide +kernel
theorem dX10_worth_6 : decode cX10_worth 6 = .ok (.invokevirtual 282, 3) := by decide +kernel
theorem dX10_worth_9 : decode cX10_worth 9 = .ok (.ifCond .eq 29, 3) := by decide +kernel
theorem dX10_worth_12 : decode cX10_worth 12 = .ok (.iload_n 1, 1) := by decide +kernel
theorem dX10_worth_13 : decode cX10_worth 13 = .ok (.i2l, 1) := by decide +kernel
theorem dX10_worth_14 : decode cX10_worth 14 = .ok (.lconst 0, 1) := by decide +kernel
theorem dX10_worth_15 : decode cX10_worth 15 = .ok (.iconst 1, 1) := by decide +kernel
theorem dX10_worth_16 : decode cX10_worth 16 = .ok (.aload_n 0, 1) := by decide +kernel
theorem dX10_worth_17 : decode cX10_worth 17 = .ok (.invokevirtual 261, 3) := by decide +kernel
theorem dX10_worth_20 : decode cX10_worth 20 = .ok (.ishl, 1) := by decide +kernel
theorem dX10_worth_21 : decode cX10_worth 21 = .ok (.iconst 1, 1) := by decide +kernel
theorem dX10_worth_22 : decode cX10_worth 22 = .ok (.isub, 1) := by decide +kernel
theorem dX10_worth_23 : decode cX10_worth 23 = .ok (.i2l, 1) := by decide +kernel
theorem dX10_worth_24 : decode cX10_worth 24 = .ok (.invokestatic 100, 3) := by decide +kernel
theorem dX10_worth_27 : decode cX10_worth 27 = .ok (.ifCond .eq 11, 3) := by decide +kernel
theorem dX10_worth_30 : decode cX10_worth 30 = .ok (.aload_n 0, 1) := by decide +kernel
theorem dX10_worth_31 : decode cX10_worth 31 = .ok (.iload_n 1, 1) := by decide +kernel
theorem dX10_worth_32 : decode cX10_worth 32 = .ok (.invokevirtual 394, 3) := by decide +kernel
theorem dX10_worth_35 : decode cX10_worth 35 = .ok (.goto 5, 3) := by decide +kernel
theorem dX10_worth_38 : decode cX10_worth 38 = .ok (.bipush (-2), 2) := by decide +kernel
theorem dX10_worth_40 : decode cX10_worth 40 = .ok (.ireturn, 1) := by decide +kernel
theorem dX10_factorial_0 : decode cX10_factorial 0 = .ok (.iconst 1, 1) := by decide +kernel
theorem dX10_factorial_1 : decode cX10_factorial 1 = .ok (.istore_n 1, 1) := by decide +kernel
theorem dX10_factorial_2 : decode cX10_factorial 2 = .ok (.iconst 2, 1) := by decide +kernel
theorem dX10_factorial_3 : decode cX10_factorial 3 = .ok (.istore_n 2, 1) := by decide +kernel
theorem dX10_factorial_4 : decode cX10_factorial 4 = .ok (.iload_n 2, 1) := by decide +kernel
theorem dX10_factorial_5 : decode cX10_factorial 5 = .ok (.iload_n 0, 1) := by decide +kernel
theorem dX10_factorial_6 : decode cX10_factorial 6 = .ok (.if_icmp .gt 13, 3) := by decide +kernel
theorem dX10_factorial_9 : decode cX10_factorial 9 = .ok (.iload_n 1, 1) := by decide +kernel
theorem dX10_factorial_10 : decode cX10_factorial 10 = .ok (.iload_n 2, 1) := by decide +kernel
theorem dX10_factorial_11 : decode cX10_factorial 11 = .ok (.imul, 1) := by decide +kernel
theorem dX10_factorial_12 : decode cX10_factorial 12 = .ok (.istore_n 1, 1) := by decide +kernel
theorem dX10_factorial_13 : decode cX10_factorial 13 = .ok (.iinc 2 1, 3) := by decide +kernel
theorem dX10_factorial_16 : decode cX10_factorial 16 = .ok (.goto (-12), 3) := by decide +kernel
theorem dX10_factorial_19 : decode cX10_factorial 19 = .ok (.iload_n 1, 1) := by decide +kernel
theorem dX10_factorial_20 : decode cX10_factorial 20 = .ok (.ireturn, 1) := by decide +kernel
theorem dX10_divisor_0 : decode cX10_divisor 0 = .ok (.lload_n 0, 1) := by decide +kernel
theorem dX10_divisor_1 : decode cX10_divisor 1 = .ok (.invokestatic 397, 3) := by decide +kernel
theorem dX10_divisor_4 : decode cX10_divisor 4 = .ok (.lstore 4, 2) := by decide +kernel
theorem dX10_divisor_6 : decode cX10_divisor 6 = .ok (.lload_n 2, 1) := by decide +kernel
theorem dX10_divisor_7 : decode cX10_divisor 7 = .ok (.lstore 6, 2) := by decide +kernel
theorem dX10_divisor_9 : decode cX10_divisor 9 = .ok (.lload 6, 2) := by decide +kernel
theorem dX10_divisor_11 : decode cX10_divisor 11 = .ok (.lconst 0, 1) := by decide +kernel
theorem dX10_divisor_12 : decode cX10_divisor 12 = .ok (.lcmp, 1) := by decide +kernel
theorem dX10_divisor_13 : decode cX10_divisor 13 = .ok (.ifCond .eq 21, 3) := by decide +kernel
theorem dX10_divisor_16 : decode cX10_divisor 16 = .ok (.lload 4, 2) := by decide +kernel
theorem dX10_divisor_18 : decode cX10_divisor 18 = .ok (.lload 6, 2) := by decide +kernel
theorem dX10_divisor_20 : decode cX10_divisor 20 = .ok (.lrem, 1) := by decide +kernel
theorem dX10_divisor_21 : decode cX10_divisor 21 = .ok (.lstore 8, 2) := by decide +kernel
theorem dX10_divisor_23 : decode cX10_divisor 23 = .ok (.lload 6, 2) := by decide +kernel
theorem dX10_divisor_25 : decode cX10_divisor 25 = .ok (.lstore 4, 2) := by decide +kernel
theorem dX10_divisor_27 : decode cX10_divisor 27 = .ok (.lload 8, 2) := by decide +kernel
theorem dX10_divisor_29 : decode cX10_divisor 29 = .ok (.lstore 6, 2) := by decide +kernel
theorem dX10_divisor_31 : decode cX10_divisor 31 = .ok (.goto (-22), 3) := by decide +kernel
theorem dX10_divisor_34 : decode cX10_divisor 34 = .ok (.lload 4, 2) := by decide +kernel
theorem dX10_divisor_36 : decode cX10_divisor 36 = .ok (.lreturn, 1) := by decide +kernel
set_option maxRecDepth 20000 in
theorem ggX10_part_X10_divisor : GoodIn wsX10_part wsX10_divisor := goodIn_r _ [4, 5, 6, 7, 8] (by decide +kernel) (by decide +kernel)
set_option maxRecDepth 20000 in
theorem gX10_part_X10_divisor : GoodIn wsX10_part (va_wsS RX10 401 yX10_divisor wsX10_divisor) := goodIn_app (goodIn_of _ (by decide +kernel)) ggX10_part_X10_divisor
theorem dX10_part_0 : decode cX10_part 0 = .ok (.iload 4, 2) := by decide +kernel
theorem dX10_part_2 : decode cX10_part 2 = .ok (.ifCond .ne 7, 3) := by decide +kernel
theorem dX10_part_5 : decode cX10_part 5 = .ok (.lload_n 0, 1) := by decide +kernel
theorem dX10_part_6 : decode cX10_part 6 = .ok (.goto 4, 3) := by decide +kernel
theorem dX10_part_9 : decode cX10_part 9 = .ok (.lload_n 2, 1) := by decide +kernel
theorem dX10_part_10 : decode cX10_part 10 = .ok (.lload_n 0, 1) := by decide +kernel
theorem dX10_part_11 : decode cX10_part 11 = .ok (.lload_n 2, 1) := by decide +kernel
theorem dX10_part_12 : decode cX10_part 12 = .ok (.invokestatic 401, 3) := by decide +kernel
theorem dX10_part_15 : decode cX10_part 15 = .ok (.ldiv, 1) := by decide +kernel
theorem dX10_part_16 : decode cX10_part 16 = .ok (.lreturn, 1) := by decide +kernel
set_option maxRecDepth 20000 in
theorem ggX10_share_X10_asksRank : GoodIn wsX10_share wsX10_asksRank := goodIn_r _ [6, 7, 8, 9, 5, 10, 11, 12, 13, 14, 15, 16, 17, 18, 19, 20, 21, 22, 23, 24, 25, 26, 27, 28, 29, 30, 31, 32, 33, 34, 35, 36, 37, 38, 39, 40, 41, 42, 43, 44, 45, 46, 47, 48, 49, 50, 51, 52, 53, 54, 55, 56, 57, 58, 59, 60, 61, 62, 63, 64, 65, 66, 67, 68, 69, 70, 71, 72, 73, 74, 75, 76, 77, 78, 79, 135, 136, 137, 138, 139, 140, 141, 142, 143, 144, 145, 146, 147, 148, 149, 150, 151, 152, 153, 154, 155, 156, 157, 158, 159, 160, 161, 162, 163, 164, 165, 166, 167, 168, 169, 170, 171, 172, 173, 174, 175, 176, 177, 178, 179] (by decide +kernel) (by decide +kernel)
set_option maxRecDepth 20000 in
theorem gX10_share_X10_asksRank : GoodIn wsX10_share (wsV RX10 297 RX10 yX10_asksRank wsX10_asksRank) := goodIn_app (goodIn_of _ (by decide +kernel)) ggX10_share_X10_asksRank
set_option maxRecDepth 20000 in
theorem ggX10_share_X10_in : GoodIn wsX10_share wsX10_in := goodIn_r _ [71] (by decide +kernel) (by decide +kernel)
set_option maxRecDepth 20000 in
theorem gX10_share_X10_in : GoodIn wsX10_share (va_wsS RX10 100 yX10_in wsX10_in) := goodIn_app (goodIn_of _ (by decide +kernel)) ggX10_share_X10_in
set_option maxRecDepth 20000 in
theorem ggX10_share_X10_ranks : GoodIn wsX10_share wsX10_ranks := goodIn_r _ [56, 15, 135, 136, 137, 138, 139, 140, 141, 142, 143, 144, 145, 146, 147, 148, 149, 150, 151, 152, 153, 154, 155, 156, 157, 158, 159, 160, 161, 162, 163, 164, 165, 166, 167, 168, 169, 170, 171, 172, 173, 174, 175, 176, 177, 178, 179] (by decide +kernel) (by decide +kernel)
set_option maxRecDepth 20000 in
theorem gX10_share_X10_ranks : GoodIn wsX10_share (wsV RX10 261 RX10 yX10_ranks wsX10_ranks) := goodIn_app (goodIn_of _ (by decide +kernel)) ggX10_share_X10_ranks
set_option maxRecDepth 20000 in
theorem ggX10_share_X10_keptWith : GoodIn wsX10_share wsX10_keptWith := goodIn_r _ [83, 17, 84, 85, 86, 5, 87, 88, 89, 90, 91, 15, 92, 93, 94, 95, 96, 97, 98, 99, 100, 101, 102, 103, 69, 70, 71, 104, 105, 106, 107, 108, 109, 110, 111, 21, 57, 58, 59, 60, 18, 61, 62, 63, 112, 113, 114, 115, 52, 116, 117, 118, 119, 22, 23, 30, 31, 32, 33, 120, 121, 122, 135, 136, 137, 138, 139, 140, 141, 142, 143, 144, 145, 146, 147, 148, 149, 150, 151, 152, 153, 154, 155, 156, 157, 158, 159, 160, 161, 162, 163, 164, 165, 166, 167, 168, 169, 170, 171, 172, 173, 174, 175, 176, 177, 178, 179] (by decide +kernel) (by decide +kernel)
set_option maxRecDepth 20000 in
theorem gX10_share_X10_keptWith : GoodIn wsX10_share (wsV RX10 394 RX10 yX10_keptWith wsX10_keptWith) := goodIn_app (goodIn_of _ (by decide +kernel)) ggX10_share_X10_keptWith
set_option maxRecDepth 20000 in
theorem ggX10_share_X10_bit : GoodIn wsX10_share wsX10_bit := goodIn_r _ [63] (by decide +kernel) (by decide +kernel)
set_option maxRecDepth 20000 in
theorem gX10_share_X10_bit : GoodIn wsX10_share (va_wsS RX10 258 yX10_bit wsX10_bit) := goodIn_app (goodIn_of _ (by decide +kernel)) ggX10_share_X10_bit
set_option maxRecDepth 20000 in
theorem ggX10_share_X10_bits : GoodIn wsX10_share wsX10_bits := goodIn_r _ [122] (by decide +kernel) (by decide +kernel)
set_option maxRecDepth 20000 in
theorem gX10_share_X10_bits : GoodIn wsX10_share (va_wsS RX10 337 yX10_bits wsX10_bits) := goodIn_app (goodIn_of _ (by decide +kernel)) ggX10_share_X10_bits
set_option maxRecDepth 20000 in
theorem ggX10_share_X10_factorial : GoodIn wsX10_share wsX10_factorial := goodIn_r _ [125] (by decide +kernel) (by decide +kernel)
set_option maxRecDepth 20000 in
theorem gX10_share_X10_factorial : GoodIn wsX10_share (va_wsS RX10 405 yX10_factorial wsX10_factorial) := goodIn_app (goodIn_of _ (by decide +kernel)) ggX10_share_X10_factorial
set_option maxRecDepth 20000 in
theorem ggX10_share_X10_part : GoodIn wsX10_share wsX10_part := goodIn_r _ [128, 129, 130, 5, 131, 132, 133, 28, 134] (by decide +kernel) (by decide +kernel)
set_option maxRecDepth 20000 in
theorem gX10_share_X10_part : GoodIn wsX10_share (va_wsS RX10 408 yX10_part wsX10_part) := goodIn_app (goodIn_of _ (by decide +kernel)) ggX10_share_X10_part
theorem dX10_share_0 : decode cX10_share 0 = .ok (.aload_n 0, 1) := by decide +kernel
theorem dX10_share_1 : decode cX10_share 1 = .ok (.iload_n 1, 1) := by decide +kernel
theorem dX10_share_2 : decode cX10_share 2 = .ok (.invokevirtual 297, 3) := by decide +kernel
theorem dX10_share_5 : decode cX10_share 5 = .ok (.ifCond .eq 13, 3) := by decide +kernel
theorem dX10_share_8 : decode cX10_share 8 = .ok (.iload_n 2, 1) := by decide +kernel
theorem dX10_share_9 : decode cX10_share 9 = .ok (.i2l, 1) := by decide +kernel
theorem dX10_share_10 : decode cX10_share 10 = .ok (.lconst 0, 1) := by decide +kernel
theorem dX10_share_11 : decode cX10_share 11 = .ok (.lconst 1, 1) := by decide +kernel
theorem dX10_share_12 : decode cX10_share 12 = .ok (.invokestatic 100, 3) := by decide +kernel
theorem dX10_share_15 : decode cX10_share 15 = .ok (.ifCond .ne 6, 3) := by decide +kernel
theorem dX10_share_18 : decode cX10_share 18 = .ok (.bipush (-2), 2) := by decide +kernel
theorem dX10_share_20 : decode cX10_share 20 = .ok (.ireturn, 1) := by decide +kernel
theorem dX10_share_21 : decode cX10_share 21 = .ok (.aload_n 0, 1) := by decide +kernel
theorem dX10_share_22 : decode cX10_share 22 = .ok (.invokevirtual 261, 3) := by decide +kernel
theorem dX10_share_25 : decode cX10_share 25 = .ok (.istore_n 3, 1) := by decide +kernel
theorem dX10_share_26 : decode cX10_share 26 = .ok (.iconst 0, 1) := by decide +kernel
theorem dX10_share_27 : decode cX10_share 27 = .ok (.istore 4, 2) := by decide +kernel
theorem dX10_share_29 : decode cX10_share 29 = .ok (.iload 4, 2) := by decide +kernel
theorem dX10_share_31 : decode cX10_share 31 = .ok (.iconst 1, 1) := by decide +kernel
theorem dX10_share_32 : decode cX10_share 32 = .ok (.iload_n 3, 1) := by decide +kernel
theorem dX10_share_33 : decode cX10_share 33 = .ok (.ishl, 1) := by decide +kernel
theorem dX10_share_34 : decode cX10_share 34 = .ok (.if_icmp .ge 22, 3) := by decide +kernel
theorem dX10_share_37 : decode cX10_share 37 = .ok (.aload_n 0, 1) := by decide +kernel
theorem dX10_share_38 : decode cX10_share 38 = .ok (.getfield 79, 3) := by decide +kernel
theorem dX10_share_41 : decode cX10_share 41 = .ok (.iload 4, 2) := by decide +kernel
theorem dX10_share_43 : decode cX10_share 43 = .ok (.aload_n 0, 1) := by decide +kernel
theorem dX10_share_44 : decode cX10_share 44 = .ok (.iload 4, 2) := by decide +kernel
theorem dX10_share_46 : decode cX10_share 46 = .ok (.invokevirtual 394, 3) := by decide +kernel
theorem dX10_share_49 : decode cX10_share 49 = .ok (.iastore, 1) := by decide +kernel
theorem dX10_share_50 : decode cX10_share 50 = .ok (.iinc 4 1, 3) := by decide +kernel
theorem dX10_share_53 : decode cX10_share 53 = .ok (.goto (-24), 3) := by decide +kernel
theorem dX10_share_56 : decode cX10_share 56 = .ok (.iconst 0, 1) := by decide +kernel
theorem dX10_share_57 : decode cX10_share 57 = .ok (.istore 4, 2) := by decide +kernel
theorem dX10_share_59 : decode cX10_share 59 = .ok (.iconst 0, 1) := by decide +kernel
theorem dX10_share_60 : decode cX10_share 60 = .ok (.istore 5, 2) := by decide +kernel
theorem dX10_share_62 : decode cX10_share 62 = .ok (.iload 5, 2) := by decide +kernel
theorem dX10_share_64 : decode cX10_share 64 = .ok (.iconst 1, 1) := by decide +kernel
theorem dX10_share_65 : decode cX10_share 65 = .ok (.iload_n 3, 1) := by decide +kernel
theorem dX10_share_66 : decode cX10_share 66 = .ok (.ishl, 1) := by decide +kernel
theorem dX10_share_67 : decode cX10_share 67 = .ok (.if_icmp .ge 64, 3) := by decide +kernel
theorem dX10_share_70 : decode cX10_share 70 = .ok (.iload 5, 2) := by decide +kernel
theorem dX10_share_72 : decode cX10_share 72 = .ok (.iload_n 1, 1) := by decide +kernel
theorem dX10_share_73 : decode cX10_share 73 = .ok (.invokestatic 258, 3) := by decide +kernel
theorem dX10_share_76 : decode cX10_share 76 = .ok (.ifCond .ne 49, 3) := by decide +kernel
theorem dX10_share_79 : decode cX10_share 79 = .ok (.iload 4, 2) := by decide +kernel
theorem dX10_share_81 : decode cX10_share 81 = .ok (.iload 5, 2) := by decide +kernel
theorem dX10_share_83 : decode cX10_share 83 = .ok (.invokestatic 337, 3) := by decide +kernel
theorem dX10_share_86 : decode cX10_share 86 = .ok (.invokestatic 405, 3) := by decide +kernel
theorem dX10_share_89 : decode cX10_share 89 = .ok (.iload_n 3, 1) := by decide +kernel
theorem dX10_share_90 : decode cX10_share 90 = .ok (.iconst 1, 1) := by decide +kernel
theorem dX10_share_91 : decode cX10_share 91 = .ok (.isub, 1) := by decide +kernel
theorem dX10_share_92 : decode cX10_share 92 = .ok (.iload 5, 2) := by decide +kernel
theorem dX10_share_94 : decode cX10_share 94 = .ok (.invokestatic 337, 3) := by decide +kernel
theorem dX10_share_97 : decode cX10_share 97 = .ok (.isub, 1) := by decide +kernel
theorem dX10_share_98 : decode cX10_share 98 = .ok (.invokestatic 405, 3) := by decide +kernel
theorem dX10_share_101 : decode cX10_share 101 = .ok (.imul, 1) := by decide +kernel
theorem dX10_share_102 : decode cX10_share 102 = .ok (.aload_n 0, 1) := by decide +kernel
theorem dX10_share_103 : decode cX10_share 103 = .ok (.getfield 79, 3) := by decide +kernel
theorem dX10_share_106 : decode cX10_share 106 = .ok (.iload 5, 2) := by decide +kernel
theorem dX10_share_108 : decode cX10_share 108 = .ok (.iconst 1, 1) := by decide +kernel
theorem dX10_share_109 : decode cX10_share 109 = .ok (.iload_n 1, 1) := by decide +kernel
theorem dX10_share_110 : decode cX10_share 110 = .ok (.ishl, 1) := by decide +kernel
theorem dX10_share_111 : decode cX10_share 111 = .ok (.ior, 1) := by decide +kernel
theorem dX10_share_112 : decode cX10_share 112 = .ok (.iaload, 1) := by decide +kernel
theorem dX10_share_113 : decode cX10_share 113 = .ok (.aload_n 0, 1) := by decide +kernel
theorem dX10_share_114 : decode cX10_share 114 = .ok (.getfield 79, 3) := by decide +kernel
theorem dX10_share_117 : decode cX10_share 117 = .ok (.iload 5, 2) := by decide +kernel
theorem dX10_share_119 : decode cX10_share 119 = .ok (.iaload, 1) := by decide +kernel
theorem dX10_share_120 : decode cX10_share 120 = .ok (.isub, 1) := by decide +kernel
theorem dX10_share_121 : decode cX10_share 121 = .ok (.imul, 1) := by decide +kernel
theorem dX10_share_122 : decode cX10_share 122 = .ok (.iadd, 1) := by decide +kernel
theorem dX10_share_123 : decode cX10_share 123 = .ok (.istore 4, 2) := by decide +kernel
theorem dX10_share_125 : decode cX10_share 125 = .ok (.iinc 5 1, 3) := by decide +kernel
theorem dX10_share_128 : decode cX10_share 128 = .ok (.goto (-66), 3) := by decide +kernel
theorem dX10_share_131 : decode cX10_share 131 = .ok (.iload 4, 2) := by decide +kernel
theorem dX10_share_133 : decode cX10_share 133 = .ok (.i2l, 1) := by decide +kernel
theorem dX10_share_134 : decode cX10_share 134 = .ok (.iload_n 3, 1) := by decide +kernel
theorem dX10_share_135 : decode cX10_share 135 = .ok (.invokestatic 405, 3) := by decide +kernel
theorem dX10_share_138 : decode cX10_share 138 = .ok (.i2l, 1) := by decide +kernel
theorem dX10_share_139 : decode cX10_share 139 = .ok (.iload_n 2, 1) := by decide +kernel
theorem dX10_share_140 : decode cX10_share 140 = .ok (.invokestatic 408, 3) := by decide +kernel
theorem dX10_share_143 : decode cX10_share 143 = .ok (.l2i, 1) := by decide +kernel
theorem dX10_share_144 : decode cX10_share 144 = .ok (.ireturn, 1) := by decide +kernel
set_option maxRecDepth 20000 in
theorem ggX10_getsBy_X10_asksDukedom : GoodIn wsX10_getsBy wsX10_asksDukedom := goodIn_r _ [6, 7, 8, 9, 5, 10, 11, 12, 1, 13, 14, 15, 16, 17, 18, 19, 20, 21, 22, 23, 24, 25, 26, 27, 28, 29, 30, 31, 32, 33, 34, 35, 36, 37, 38, 39, 40, 41, 42, 43, 44, 45, 46, 47, 48, 49, 50, 51, 52, 53, 54, 55, 56, 57, 58, 59, 60, 61, 62, 63, 64, 65, 66, 67, 68, 69, 70, 103, 104, 105, 106, 107, 108, 109, 110, 111, 112, 113, 114, 115, 116, 117, 118, 119, 120, 121, 122, 123, 124, 125, 126, 127, 128, 129, 130, 131, 132, 133, 134, 135, 136, 137, 138, 139, 140, 141, 142, 143, 144, 145, 146, 147] (by decide +kernel) (by decide +kernel)
set_option maxRecDepth 20000 in
theorem gX10_getsBy_X10_asksDukedom : GoodIn wsX10_getsBy (wsV RX10 285 RX10 yX10_asksDukedom wsX10_asksDukedom) := goodIn_app (goodIn_of _ (by decide +kernel)) ggX10_getsBy_X10_asksDukedom
set_option maxRecDepth 20000 in
theorem ggX10_getsBy_X10_keptOf : GoodIn wsX10_getsBy wsX10_keptOf := goodIn_r _ [74, 11, 75, 76, 77, 5, 78, 79, 80, 81, 82, 83, 84, 85, 86, 64, 65, 66, 87, 88, 89, 90, 91, 92, 93, 94, 16, 1, 52, 53, 54, 55, 13, 56, 57, 58, 95, 96, 97, 98, 47, 99, 100, 101, 102, 17, 18, 25, 26, 27, 28, 103, 104, 105, 106, 107, 108, 109, 110, 111, 112, 113, 114, 115, 116, 117, 118, 119, 120, 121, 122, 123, 124, 125, 126, 127, 128, 129, 130, 131, 132, 133, 134, 135, 136, 137, 138, 139, 140, 141, 142, 143, 144, 145, 146, 147] (by decide +kernel) (by decide +kernel)
set_option maxRecDepth 20000 in
theorem gX10_getsBy_X10_keptOf : GoodIn wsX10_getsBy (wsV RX10 340 RX10 yX10_keptOf wsX10_keptOf) := goodIn_app (goodIn_of _ (by decide +kernel)) ggX10_getsBy_X10_keptOf
theorem dX10_getsBy_0 : decode cX10_getsBy 0 = .ok (.aload_n 0, 1) := by decide +kernel
theorem dX10_getsBy_1 : decode cX10_getsBy 1 = .ok (.invokevirtual 285, 3) := by decide +kernel
theorem dX10_getsBy_4 : decode cX10_getsBy 4 = .ok (.pop, 1) := by decide +kernel
theorem dX10_getsBy_5 : decode cX10_getsBy 5 = .ok (.aload_n 0, 1) := by decide +kernel
theorem dX10_getsBy_6 : decode cX10_getsBy 6 = .ok (.iload_n 3, 1) := by decide +kernel
theorem dX10_getsBy_7 : decode cX10_getsBy 7 = .ok (.iload_n 1, 1) := by decide +kernel
theorem dX10_getsBy_8 : decode cX10_getsBy 8 = .ok (.ishl, 1) := by decide +kernel
theorem dX10_getsBy_9 : decode cX10_getsBy 9 = .ok (.iload 4, 2) := by decide +kernel
theorem dX10_getsBy_11 : decode cX10_getsBy 11 = .ok (.iload_n 2, 1) := by decide +kernel
theorem dX10_getsBy_12 : decode cX10_getsBy 12 = .ok (.ishl, 1) := by decide +kernel
theorem dX10_getsBy_13 : decode cX10_getsBy 13 = .ok (.ior, 1) := by decide +kernel
theorem dX10_getsBy_14 : decode cX10_getsBy 14 = .ok (.putfield 249, 3) := by decide +kernel
theorem dX10_getsBy_17 : decode cX10_getsBy 17 = .ok (.iload 5, 2) := by decide +kernel
theorem dX10_getsBy_19 : decode cX10_getsBy 19 = .ok (.ifCond .ne 7, 3) := by decide +kernel
theorem dX10_getsBy_22 : decode cX10_getsBy 22 = .ok (.iload_n 1, 1) := by decide +kernel
theorem dX10_getsBy_23 : decode cX10_getsBy 23 = .ok (.goto 4, 3) := by decide +kernel
theorem dX10_getsBy_26 : decode cX10_getsBy 26 = .ok (.iload_n 2, 1) := by decide +kernel
theorem dX10_getsBy_27 : decode cX10_getsBy 27 = .ok (.istore 6, 2) := by decide +kernel
theorem dX10_getsBy_29 : decode cX10_getsBy 29 = .ok (.iconst 3, 1) := by decide +kernel
theorem dX10_getsBy_30 : decode cX10_getsBy 30 = .ok (.aload_n 0, 1) := by decide +kernel
theorem dX10_getsBy_31 : decode cX10_getsBy 31 = .ok (.iload 6, 2) := by decide +kernel
theorem dX10_getsBy_33 : decode cX10_getsBy 33 = .ok (.iconst 0, 1) := by decide +kernel
theorem dX10_getsBy_34 : decode cX10_getsBy 34 = .ok (.invokevirtual 340, 3) := by decide +kernel
theorem dX10_getsBy_37 : decode cX10_getsBy 37 = .ok (.aload_n 0, 1) := by decide +kernel
theorem dX10_getsBy_38 : decode cX10_getsBy 38 = .ok (.iload 6, 2) := by decide +kernel
theorem dX10_getsBy_40 : decode cX10_getsBy 40 = .ok (.iconst 1, 1) := by decide +kernel
theorem dX10_getsBy_41 : decode cX10_getsBy 41 = .ok (.invokevirtual 340, 3) := by decide +kernel
theorem dX10_getsBy_44 : decode cX10_getsBy 44 = .ok (.iadd, 1) := by decide +kernel
theorem dX10_getsBy_45 : decode cX10_getsBy 45 = .ok (.imul, 1) := by decide +kernel
theorem dX10_getsBy_46 : decode cX10_getsBy 46 = .ok (.iconst 4, 1) := by decide +kernel
theorem dX10_getsBy_47 : decode cX10_getsBy 47 = .ok (.iload 5, 2) := by decide +kernel
theorem dX10_getsBy_49 : decode cX10_getsBy 49 = .ok (.ifCond .ne 7, 3) := by decide +kernel
theorem dX10_getsBy_52 : decode cX10_getsBy 52 = .ok (.iload_n 3, 1) := by decide +kernel
theorem dX10_getsBy_53 : decode cX10_getsBy 53 = .ok (.goto 5, 3) := by decide +kernel
theorem dX10_getsBy_56 : decode cX10_getsBy 56 = .ok (.iload 4, 2) := by decide +kernel
theorem dX10_getsBy_58 : decode cX10_getsBy 58 = .ok (.imul, 1) := by decide +kernel
theorem dX10_getsBy_59 : decode cX10_getsBy 59 = .ok (.isub, 1) := by decide +kernel
theorem dX10_getsBy_60 : decode cX10_getsBy 60 = .ok (.ireturn, 1) := by decide +kernel
set_option maxRecDepth 20000 in
theorem ggX10_rests_X10_areTwo : GoodIn wsX10_rests wsX10_areTwo := goodIn_r _ [5, 6, 7, 8, 4, 9, 10, 11, 12, 13, 115, 116, 117, 118, 119, 120, 121, 122, 123, 124, 125, 126, 127, 128, 129, 130, 131, 132, 133, 134, 135, 136, 137, 138, 139, 140, 141, 142, 143, 144, 145, 146, 147, 148, 149, 150, 151, 152, 153, 154, 155, 156, 157, 158, 159] (by decide +kernel) (by decide +kernel)
set_option maxRecDepth 20000 in
theorem gX10_rests_X10_areTwo : GoodIn wsX10_rests (wsV RX10 316 RX10 yX10_areTwo wsX10_areTwo) := goodIn_app (goodIn_of _ (by decide +kernel)) ggX10_rests_X10_areTwo
set_option maxRecDepth 20000 in
theorem ggX10_rests_X10_getsBy : GoodIn wsX10_rests wsX10_getsBy := goodIn_r _ [17, 18, 19, 20, 21, 4, 22, 23, 24, 25, 26, 10, 27, 28, 29, 30, 31, 32, 33, 34, 35, 36, 37, 38, 39, 40, 41, 42, 43, 44, 45, 46, 47, 48, 49, 50, 51, 52, 53, 54, 55, 56, 57, 58, 59, 60, 61, 62, 63, 64, 65, 66, 67, 68, 69, 70, 71, 72, 73, 74, 75, 76, 77, 78, 11, 12, 13, 79, 80, 81, 82, 83, 84, 85, 86, 87, 88, 89, 90, 91, 92, 93, 94, 95, 96, 97, 98, 99, 100, 101, 102, 103, 104, 105, 106, 107, 108, 109, 110, 111, 112, 113, 114, 115, 116, 117, 118, 119, 120, 121, 122, 123, 124, 125, 126, 127, 128, 129, 130, 131, 132, 133, 134, 135, 136, 137, 138, 139, 140, 141, 142, 143, 144, 145, 146, 147, 148, 149, 150, 151, 152, 153, 154, 155, 156, 157, 158, 159] (by decide +kernel) (by decide +kernel)
set_option maxRecDepth 20000 in
theorem gX10_rests_X10_getsBy : GoodIn wsX10_rests (wsV RX10 412 RX10 yX10_getsBy wsX10_getsBy) := goodIn_app (goodIn_of _ (by decide +kernel)) ggX10_rests_X10_getsBy
theorem dX10_rests_0 : decode cX10_rests 0 = .ok (.aload_n 0, 1) := by decide +kernel
theorem dX10_rests_1 : decode cX10_rests 1 = .ok (.iload_n 1, 1) := by decide +kernel
theorem dX10_rests_2 : decode cX10_rests 2 = .ok (.iload_n 2, 1) := by decide +kernel
theorem dX10_rests_3 : decode cX10_rests 3 = .ok (.invokevirtual 316, 3) := by decide +kernel
theorem dX10_rests_6 : decode cX10_rests 6 = .ok (.ifCond .ne 6, 3) := by decide +kernel
theorem dX10_rests_9 : decode cX10_rests 9 = .ok (.bipush (-2), 2) := by decide +kernel
theorem dX10_rests_11 : decode cX10_rests 11 = .ok (.ireturn, 1) := by decide +kernel
theorem dX10_rests_12 : decode cX10_rests 12 = .ok (.iconst 0, 1) := by decide +kernel
theorem dX10_rests_13 : decode cX10_rests 13 = .ok (.istore_n 3, 1) := by decide +kernel
theorem dX10_rests_14 : decode cX10_rests 14 = .ok (.iconst 0, 1) := by decide +kernel
theorem dX10_rests_15 : decode cX10_rests 15 = .ok (.istore 4, 2) := by decide +kernel
theorem dX10_rests_17 : decode cX10_rests 17 = .ok (.iload 4, 2) := by decide +kernel
theorem dX10_rests_19 : decode cX10_rests 19 = .ok (.iconst 4, 1) := by decide +kernel
theorem dX10_rests_20 : decode cX10_rests 20 = .ok (.if_icmp .ge 98, 3) := by decide +kernel
theorem dX10_rests_23 : decode cX10_rests 23 = .ok (.iload 4, 2) := by decide +kernel
theorem dX10_rests_25 : decode cX10_rests 25 = .ok (.iconst 1, 1) := by decide +kernel
theorem dX10_rests_26 : decode cX10_rests 26 = .ok (.iand, 1) := by decide +kernel
theorem dX10_rests_27 : decode cX10_rests 27 = .ok (.istore 5, 2) := by decide +kernel
theorem dX10_rests_29 : decode cX10_rests 29 = .ok (.iload 4, 2) := by decide +kernel
theorem dX10_rests_31 : decode cX10_rests 31 = .ok (.iconst 1, 1) := by decide +kernel
theorem dX10_rests_32 : decode cX10_rests 32 = .ok (.ishr, 1) := by decide +kernel
theorem dX10_rests_33 : decode cX10_rests 33 = .ok (.istore 6, 2) := by decide +kernel
theorem dX10_rests_35 : decode cX10_rests 35 = .ok (.aload_n 0, 1) := by decide +kernel
theorem dX10_rests_36 : decode cX10_rests 36 = .ok (.iload_n 1, 1) := by decide +kernel
theorem dX10_rests_37 : decode cX10_rests 37 = .ok (.iload_n 2, 1) := by decide +kernel
theorem dX10_rests_38 : decode cX10_rests 38 = .ok (.iload 5, 2) := by decide +kernel
theorem dX10_rests_40 : decode cX10_rests 40 = .ok (.iload 6, 2) := by decide +kernel
theorem dX10_rests_42 : decode cX10_rests 42 = .ok (.iconst 0, 1) := by decide +kernel
theorem dX10_rests_43 : decode cX10_rests 43 = .ok (.invokevirtual 412, 3) := by decide +kernel
theorem dX10_rests_46 : decode cX10_rests 46 = .ok (.aload_n 0, 1) := by decide +kernel
theorem dX10_rests_47 : decode cX10_rests 47 = .ok (.iload_n 1, 1) := by decide +kernel
theorem dX10_rests_48 : decode cX10_rests 48 = .ok (.iload_n 2, 1) := by decide +kernel
theorem dX10_rests_49 : decode cX10_rests 49 = .ok (.iconst 1, 1) := by decide +kernel
theorem dX10_rests_50 : decode cX10_rests 50 = .ok (.iload 5, 2) := by decide +kernel
theorem dX10_rests_52 : decode cX10_rests 52 = .ok (.isub, 1) := by decide +kernel
theorem dX10_rests_53 : decode cX10_rests 53 = .ok (.iload 6, 2) := by decide +kernel
theorem dX10_rests_55 : decode cX10_rests 55 = .ok (.iconst 0, 1) := by decide +kernel
theorem dX10_rests_56 : decode cX10_rests 56 = .ok (.invokevirtual 412, 3) := by decide +kernel
theorem dX10_rests_59 : decode cX10_rests 59 = .ok (.if_icmp .lt 34, 3) := by decide +kernel
theorem dX10_rests_62 : decode cX10_rests 62 = .ok (.aload_n 0, 1) := by decide +kernel
theorem dX10_rests_63 : decode cX10_rests 63 = .ok (.iload_n 1, 1) := by decide +kernel
theorem dX10_rests_64 : decode cX10_rests 64 = .ok (.iload_n 2, 1) := by decide +kernel
theorem dX10_rests_65 : decode cX10_rests 65 = .ok (.iload 5, 2) := by decide +kernel
theorem dX10_rests_67 : decode cX10_rests 67 = .ok (.iload 6, 2) := by decide +kernel
theorem dX10_rests_69 : decode cX10_rests 69 = .ok (.iconst 1, 1) := by decide +kernel
theorem dX10_rests_70 : decode cX10_rests 70 = .ok (.invokevirtual 412, 3) := by decide +kernel
theorem dX10_rests_73 : decode cX10_rests 73 = .ok (.aload_n 0, 1) := by decide +kernel
theorem dX10_rests_74 : decode cX10_rests 74 = .ok (.iload_n 1, 1) := by decide +kernel
theorem dX10_rests_75 : decode cX10_rests 75 = .ok (.iload_n 2, 1) := by decide +kernel
theorem dX10_rests_76 : decode cX10_rests 76 = .ok (.iload 5, 2) := by decide +kernel
theorem dX10_rests_78 : decode cX10_rests 78 = .ok (.iconst 1, 1) := by decide +kernel
theorem dX10_rests_79 : decode cX10_rests 79 = .ok (.iload 6, 2) := by decide +kernel
theorem dX10_rests_81 : decode cX10_rests 81 = .ok (.isub, 1) := by decide +kernel
theorem dX10_rests_82 : decode cX10_rests 82 = .ok (.iconst 1, 1) := by decide +kernel
theorem dX10_rests_83 : decode cX10_rests 83 = .ok (.invokevirtual 412, 3) := by decide +kernel
theorem dX10_rests_86 : decode cX10_rests 86 = .ok (.if_icmp .lt 7, 3) := by decide +kernel
theorem dX10_rests_89 : decode cX10_rests 89 = .ok (.iconst 1, 1) := by decide +kernel
theorem dX10_rests_90 : decode cX10_rests 90 = .ok (.goto 4, 3) := by decide +kernel
theorem dX10_rests_93 : decode cX10_rests 93 = .ok (.iconst 0, 1) := by decide +kernel
theorem dX10_rests_94 : decode cX10_rests 94 = .ok (.istore 7, 2) := by decide +kernel
theorem dX10_rests_96 : decode cX10_rests 96 = .ok (.iload_n 3, 1) := by decide +kernel
theorem dX10_rests_97 : decode cX10_rests 97 = .ok (.iload 7, 2) := by decide +kernel
theorem dX10_rests_99 : decode cX10_rests 99 = .ok (.ifCond .eq 10, 3) := by decide +kernel
theorem dX10_rests_102 : decode cX10_rests 102 = .ok (.iconst 1, 1) := by decide +kernel
theorem dX10_rests_103 : decode cX10_rests 103 = .ok (.iload 4, 2) := by decide +kernel
theorem dX10_rests_105 : decode cX10_rests 105 = .ok (.ishl, 1) := by decide +kernel
theorem dX10_rests_106 : decode cX10_rests 106 = .ok (.goto 4, 3) := by decide +kernel
theorem dX10_rests_109 : decode cX10_rests 109 = .ok (.iconst 0, 1) := by decide +kernel
theorem dX10_rests_110 : decode cX10_rests 110 = .ok (.ior, 1) := by decide +kernel
theorem dX10_rests_111 : decode cX10_rests 111 = .ok (.istore_n 3, 1) := by decide +kernel
theorem dX10_rests_112 : decode cX10_rests 112 = .ok (.iinc 4 1, 3) := by decide +kernel
theorem dX10_rests_115 : decode cX10_rests 115 = .ok (.goto (-98), 3) := by decide +kernel
theorem dX10_rests_118 : decode cX10_rests 118 = .ok (.iload_n 3, 1) := by decide +kernel
theorem dX10_rests_119 : decode cX10_rests 119 = .ok (.ireturn, 1) := by decide +kernel
set_option maxRecDepth 20000 in
theorem ggX10_gets_X10_areTwo : GoodIn wsX10_gets wsX10_areTwo := goodIn_r _ [5, 6, 7, 8, 4, 9, 10, 11, 12, 13, 115, 116, 117, 118, 119, 120, 121, 122, 123, 124, 125, 126, 127, 128, 129, 130, 131, 132, 133, 134, 135, 136, 137, 138, 139, 140, 141, 142, 143, 144, 145, 146, 147, 148, 149, 150, 151, 152, 153, 154, 155, 156, 157, 158, 159] (by decide +kernel) (by decide +kernel)
set_option maxRecDepth 20000 in
theorem gX10_gets_X10_areTwo : GoodIn wsX10_gets (wsV RX10 316 RX10 yX10_areTwo wsX10_areTwo) := goodIn_app (goodIn_of _ (by decide +kernel)) ggX10_gets_X10_areTwo
set_option maxRecDepth 20000 in
theorem ggX10_gets_X10_in : GoodIn wsX10_gets wsX10_in := goodIn_r _ [13] (by decide +kernel) (by decide +kernel)
set_option maxRecDepth 20000 in
theorem gX10_gets_X10_in : GoodIn wsX10_gets (va_wsS RX10 100 yX10_in wsX10_in) := goodIn_app (goodIn_of _ (by decide +kernel)) ggX10_gets_X10_in
set_option maxRecDepth 20000 in
theorem ggX10_gets_X10_getsBy : GoodIn wsX10_gets wsX10_getsBy := goodIn_r _ [17, 18, 19, 20, 21, 4, 22, 23, 24, 25, 26, 10, 27, 28, 29, 30, 31, 32, 33, 34, 35, 36, 37, 38, 39, 40, 41, 42, 43, 44, 45, 46, 47, 48, 49, 50, 51, 52, 53, 54, 55, 56, 57, 58, 59, 60, 61, 62, 63, 64, 65, 66, 67, 68, 69, 70, 71, 72, 73, 74, 75, 76, 77, 78, 11, 12, 13, 79, 80, 81, 82, 83, 84, 85, 86, 87, 88, 89, 90, 91, 92, 93, 94, 95, 96, 97, 98, 99, 100, 101, 102, 103, 104, 105, 106, 107, 108, 109, 110, 111, 112, 113, 114, 115, 116, 117, 118, 119, 120, 121, 122, 123, 124, 125, 126, 127, 128, 129, 130, 131, 132, 133, 134, 135, 136, 137, 138, 139, 140, 141, 142, 143, 144, 145, 146, 147, 148, 149, 150, 151, 152, 153, 154, 155, 156, 157, 158, 159] (by decide +kernel) (by decide +kernel)
set_option maxRecDepth 20000 in
theorem gX10_gets_X10_getsBy : GoodIn wsX10_gets (wsV RX10 412 RX10 yX10_getsBy wsX10_getsBy) := goodIn_app (goodIn_of _ (by decide +kernel)) ggX10_gets_X10_getsBy
theorem dX10_gets_0 : decode cX10_gets 0 = .ok (.aload_n 0, 1) := by decide +kernel
theorem dX10_gets_1 : decode cX10_gets 1 = .ok (.iload_n 1, 1) := by decide +kernel
theorem dX10_gets_2 : decode cX10_gets 2 = .ok (.iload_n 2, 1) := by decide +kernel
theorem dX10_gets_3 : decode cX10_gets 3 = .ok (.invokevirtual 316, 3) := by decide +kernel
theorem dX10_gets_6 : decode cX10_gets 6 = .ok (.ifCond .eq 37, 3) := by decide +kernel
theorem dX10_gets_9 : decode cX10_gets 9 = .ok (.iload_n 3, 1) := by decide +kernel
theorem dX10_gets_10 : decode cX10_gets 10 = .ok (.i2l, 1) := by decide +kernel
theorem dX10_gets_11 : decode cX10_gets 11 = .ok (.lconst 0, 1) := by decide +kernel
theorem dX10_gets_12 : decode cX10_gets 12 = .ok (.lconst 1, 1) := by decide +kernel
theorem dX10_gets_13 : decode cX10_gets 13 = .ok (.invokestatic 100, 3) := by decide +kernel
theorem dX10_gets_16 : decode cX10_gets 16 = .ok (.ifCond .eq 27, 3) := by decide +kernel
theorem dX10_gets_19 : decode cX10_gets 19 = .ok (.iload 4, 2) := by decide +kernel
theorem dX10_gets_21 : decode cX10_gets 21 = .ok (.i2l, 1) := by decide +kernel
theorem dX10_gets_22 : decode cX10_gets 22 = .ok (.lconst 0, 1) := by decide +kernel
theorem dX10_gets_23 : decode cX10_gets 23 = .ok (.lconst 1, 1) := by decide +kernel
theorem dX10_gets_24 : decode cX10_gets 24 = .ok (.invokestatic 100, 3) := by decide +kernel
theorem dX10_gets_27 : decode cX10_gets 27 = .ok (.ifCond .eq 16, 3) := by decide +kernel
theorem dX10_gets_30 : decode cX10_gets 30 = .ok (.aload_n 0, 1) := by decide +kernel
theorem dX10_gets_31 : decode cX10_gets 31 = .ok (.iload_n 1, 1) := by decide +kernel
theorem dX10_gets_32 : decode cX10_gets 32 = .ok (.iload_n 2, 1) := by decide +kernel
theorem dX10_gets_33 : decode cX10_gets 33 = .ok (.iload_n 3, 1) := by decide +kernel
theorem dX10_gets_34 : decode cX10_gets 34 = .ok (.iload 4, 2) := by decide +kernel
theorem dX10_gets_36 : decode cX10_gets 36 = .ok (.iconst 0, 1) := by decide +kernel
theorem dX10_gets_37 : decode cX10_gets 37 = .ok (.invokevirtual 412, 3) := by decide +kernel
theorem dX10_gets_40 : decode cX10_gets 40 = .ok (.goto 6, 3) := by decide +kernel
theorem dX10_gets_43 : decode cX10_gets 43 = .ok (.sipush (-1000), 3) := by decide +kernel
theorem dX10_gets_46 : decode cX10_gets 46 = .ok (.ireturn, 1) := by decide +kernel
set_option maxRecDepth 20000 in
theorem ggX10_layFrosts_X10_asItIs : GoodIn wsX10_layFrosts wsX10_asItIs := goodIn_r _ [10, 5, 11, 12, 4, 13, 14, 15, 16, 17, 18, 19, 20, 21, 22, 23, 24, 25, 26, 9, 27, 82, 83, 84, 85, 86, 87, 88, 89, 90, 91, 92, 93, 94, 95, 96, 97, 98, 99, 100, 101, 102, 103, 104, 105, 106, 107, 108, 109, 110, 111, 112, 113, 114, 115, 116, 117, 118, 119, 120, 121, 122, 123, 124, 125, 126] (by decide +kernel) (by decide +kernel)
set_option maxRecDepth 20000 in
theorem gX10_layFrosts_X10_asItIs : GoodIn wsX10_layFrosts (wsV RX10 276 RX10 yX10_asItIs wsX10_asItIs) := goodIn_app (goodIn_of _ (by decide +kernel)) ggX10_layFrosts_X10_asItIs
set_option maxRecDepth 20000 in
theorem ggX10_layFrosts_X10_bit : GoodIn wsX10_layFrosts wsX10_bit := goodIn_r _ [30] (by decide +kernel) (by decide +kernel)
set_option maxRecDepth 20000 in
theorem gX10_layFrosts_X10_bit : GoodIn wsX10_layFrosts (va_wsS RX10 258 yX10_bit wsX10_bit) := goodIn_app (goodIn_of _ (by decide +kernel)) ggX10_layFrosts_X10_bit
set_option maxRecDepth 20000 in
theorem ggX10_layFrosts_X10_goAll : GoodIn wsX10_layFrosts wsX10_goAll := goodIn_r _ [34, 35, 13, 36, 37, 38, 9, 39, 5, 40, 41, 42, 43, 44, 18, 14, 45, 46, 22, 47, 48, 11, 19, 49, 50, 51, 52, 53, 54, 55, 56, 57, 4, 28, 29, 30, 58, 59, 60, 61, 20, 21, 23, 62, 24, 25, 26, 27, 63, 64, 65, 82, 83, 84, 85, 86, 87, 88, 89, 90, 91, 92, 93, 94, 95, 96, 97, 98, 99, 100, 101, 102, 103, 104, 105, 106, 107, 108, 109, 110, 111, 112, 113, 114, 115, 116, 117, 118, 119, 120, 121, 122, 123, 124, 125, 126] (by decide +kernel) (by decide +kernel)
set_option maxRecDepth 20000 in
theorem gX10_layFrosts_X10_goAll : GoodIn wsX10_layFrosts (wsV RX10 279 RX10 yX10_goAll wsX10_goAll) := goodIn_app (goodIn_of _ (by decide +kernel)) ggX10_layFrosts_X10_goAll
set_option maxRecDepth 20000 in
theorem ggX10_layFrosts_X10_doesCome : GoodIn wsX10_layFrosts wsX10_doesCome := goodIn_r _ [69, 70, 71, 72, 9, 73, 15, 12, 54, 55, 56, 57, 4, 28, 29, 30, 74, 75, 76, 77, 49, 78, 79, 80, 81, 16, 5, 17, 24, 25, 26, 27, 82, 83, 84, 85, 86, 87, 88, 89, 90, 91, 92, 93, 94, 95, 96, 97, 98, 99, 100, 101, 102, 103, 104, 105, 106, 107, 108, 109, 110, 111, 112, 113, 114, 115, 116, 117, 118, 119, 120, 121, 122, 123, 124, 125, 126] (by decide +kernel) (by decide +kernel)
set_option maxRecDepth 20000 in
theorem gX10_layFrosts_X10_doesCome : GoodIn wsX10_layFrosts (wsV RX10 307 RX10 yX10_doesCome wsX10_doesCome) := goodIn_app (goodIn_of _ (by decide +kernel)) ggX10_layFrosts_X10_doesCome
set_option maxRecDepth 20000 in
theorem ggX10_layFrosts_X10_waterIn : GoodIn wsX10_layFrosts wsX10_waterIn := goodIn_r _ [77, 49, 82, 83, 84, 85, 86, 87, 88, 89, 90, 91, 92, 93, 94, 95, 96, 97, 98, 99, 100, 101, 102, 103, 104, 105, 106, 107, 108, 109, 110, 111, 112, 113, 114, 115, 116, 117, 118, 119, 120, 121, 122, 123, 124, 125, 126] (by decide +kernel) (by decide +kernel)
set_option maxRecDepth 20000 in
theorem gX10_layFrosts_X10_waterIn : GoodIn wsX10_layFrosts (wsV RX10 294 RX10 yX10_waterIn wsX10_waterIn) := goodIn_app (goodIn_of _ (by decide +kernel)) ggX10_layFrosts_X10_waterIn
theorem dX10_layFrosts_0 : decode cX10_layFrosts 0 = .ok (.aload_n 0, 1) := by decide +kernel
theorem dX10_layFrosts_1 : decode cX10_layFrosts 1 = .ok (.lconst 0, 1) := by decide +kernel
theorem dX10_layFrosts_2 : decode cX10_layFrosts 2 = .ok (.putfield 416, 3) := by decide +kernel
theorem dX10_layFrosts_5 : decode cX10_layFrosts 5 = .ok (.aload_n 0, 1) := by decide +kernel
theorem dX10_layFrosts_6 : decode cX10_layFrosts 6 = .ok (.lconst 0, 1) := by decide +kernel
theorem dX10_layFrosts_7 : decode cX10_layFrosts 7 = .ok (.putfield 420, 3) := by decide +kernel
theorem dX10_layFrosts_10 : decode cX10_layFrosts 10 = .ok (.aload_n 0, 1) := by decide +kernel
theorem dX10_layFrosts_11 : decode cX10_layFrosts 11 = .ok (.lconst 0, 1) := by decide +kernel
theorem dX10_layFrosts_12 : decode cX10_layFrosts 12 = .ok (.putfield 423, 3) := by decide +kernel
theorem dX10_layFrosts_15 : decode cX10_layFrosts 15 = .ok (.aload_n 0, 1) := by decide +kernel
theorem dX10_layFrosts_16 : decode cX10_layFrosts 16 = .ok (.invokevirtual 276, 3) := by decide +kernel
theorem dX10_layFrosts_19 : decode cX10_layFrosts 19 = .ok (.aload_n 0, 1) := by decide +kernel
theorem dX10_layFrosts_20 : decode cX10_layFrosts 20 = .ok (.getfield 252, 3) := by decide +kernel
theorem dX10_layFrosts_23 : decode cX10_layFrosts 23 = .ok (.iconst 2, 1) := by decide +kernel
theorem dX10_layFrosts_24 : decode cX10_layFrosts 24 = .ok (.iload_n 3, 1) := by decide +kernel
theorem dX10_layFrosts_25 : decode cX10_layFrosts 25 = .ok (.ishl, 1) := by decide +kernel
theorem dX10_layFrosts_26 : decode cX10_layFrosts 26 = .ok (.iconst 1, 1) := by decide +kernel
theorem dX10_layFrosts_27 : decode cX10_layFrosts 27 = .ok (.isub, 1) := by decide +kernel
theorem dX10_layFrosts_28 : decode cX10_layFrosts 28 = .ok (.iconst (-1), 1) := by decide +kernel
theorem dX10_layFrosts_29 : decode cX10_layFrosts 29 = .ok (.ixor, 1) := by decide +kernel
theorem dX10_layFrosts_30 : decode cX10_layFrosts 30 = .ok (.iand, 1) := by decide +kernel
theorem dX10_layFrosts_31 : decode cX10_layFrosts 31 = .ok (.istore 4, 2) := by decide +kernel
theorem dX10_layFrosts_33 : decode cX10_layFrosts 33 = .ok (.iconst 0, 1) := by decide +kernel
theorem dX10_layFrosts_34 : decode cX10_layFrosts 34 = .ok (.istore 5, 2) := by decide +kernel
theorem dX10_layFrosts_36 : decode cX10_layFrosts 36 = .ok (.iload 5, 2) := by decide +kernel
theorem dX10_layFrosts_38 : decode cX10_layFrosts 38 = .ok (.iconst 2, 1) := by decide +kernel
theorem dX10_layFrosts_39 : decode cX10_layFrosts 39 = .ok (.iload_n 3, 1) := by decide +kernel
theorem dX10_layFrosts_40 : decode cX10_layFrosts 40 = .ok (.ishl, 1) := by decide +kernel
theorem dX10_layFrosts_41 : decode cX10_layFrosts 41 = .ok (.if_icmp .ge 141, 3) := by decide +kernel
theorem dX10_layFrosts_44 : decode cX10_layFrosts 44 = .ok (.lconst 1, 1) := by decide +kernel
theorem dX10_layFrosts_45 : decode cX10_layFrosts 45 = .ok (.lstore 6, 2) := by decide +kernel
theorem dX10_layFrosts_47 : decode cX10_layFrosts 47 = .ok (.iconst 0, 1) := by decide +kernel
theorem dX10_layFrosts_48 : decode cX10_layFrosts 48 = .ok (.istore 8, 2) := by decide +kernel
theorem dX10_layFrosts_50 : decode cX10_layFrosts 50 = .ok (.iload 8, 2) := by decide +kernel
theorem dX10_layFrosts_52 : decode cX10_layFrosts 52 = .ok (.iload_n 3, 1) := by decide +kernel
theorem dX10_layFrosts_53 : decode cX10_layFrosts 53 = .ok (.if_icmp .gt 45, 3) := by decide +kernel
theorem dX10_layFrosts_56 : decode cX10_layFrosts 56 = .ok (.lload 6, 2) := by decide +kernel
theorem dX10_layFrosts_58 : decode cX10_layFrosts 58 = .ok (.iload 5, 2) := by decide +kernel
theorem dX10_layFrosts_60 : decode cX10_layFrosts 60 = .ok (.iload 8, 2) := by decide +kernel
theorem dX10_layFrosts_62 : decode cX10_layFrosts 62 = .ok (.invokestatic 258, 3) := by decide +kernel
theorem dX10_layFrosts_65 : decode cX10_layFrosts 65 = .ok (.iconst 1, 1) := by decide +kernel
theorem dX10_layFrosts_66 : decode cX10_layFrosts 66 = .ok (.if_icmp .ne 13, 3) := by decide +kernel
theorem dX10_layFrosts_69 : decode cX10_layFrosts 69 = .ok (.aload_n 0, 1) := by decide +kernel
theorem dX10_layFrosts_70 : decode cX10_layFrosts 70 = .ok (.getfield 9, 3) := by decide +kernel
theorem dX10_layFrosts_73 : decode cX10_layFrosts 73 = .ok (.iconst 2, 1) := by decide +kernel
theorem dX10_layFrosts_74 : decode cX10_layFrosts 74 = .ok (.iaload, 1) := by decide +kernel
theorem dX10_layFrosts_75 : decode cX10_layFrosts 75 = .ok (.i2l, 1) := by decide +kernel
theorem dX10_layFrosts_76 : decode cX10_layFrosts 76 = .ok (.goto 13, 3) := by decide +kernel
theorem dX10_layFrosts_79 : decode cX10_layFrosts 79 = .ok (.bipush 10, 2) := by decide +kernel
theorem dX10_layFrosts_81 : decode cX10_layFrosts 81 = .ok (.aload_n 0, 1) := by decide +kernel
theorem dX10_layFrosts_82 : decode cX10_layFrosts 82 = .ok (.getfield 9, 3) := by decide +kernel
theorem dX10_layFrosts_85 : decode cX10_layFrosts 85 = .ok (.iconst 2, 1) := by decide +kernel
theorem dX10_layFrosts_86 : decode cX10_layFrosts 86 = .ok (.iaload, 1) := by decide +kernel
theorem dX10_layFrosts_87 : decode cX10_layFrosts 87 = .ok (.isub, 1) := by decide +kernel
theorem dX10_layFrosts_88 : decode cX10_layFrosts 88 = .ok (.i2l, 1) := by decide +kernel
theorem dX10_layFrosts_89 : decode cX10_layFrosts 89 = .ok (.lmul, 1) := by decide +kernel
theorem dX10_layFrosts_90 : decode cX10_layFrosts 90 = .ok (.lstore 6, 2) := by decide +kernel
theorem dX10_layFrosts_92 : decode cX10_layFrosts 92 = .ok (.iinc 8 1, 3) := by decide +kernel
theorem dX10_layFrosts_95 : decode cX10_layFrosts 95 = .ok (.goto (-45), 3) := by decide +kernel
theorem dX10_layFrosts_98 : decode cX10_layFrosts 98 = .ok (.lload 6, 2) := by decide +kernel
theorem dX10_layFrosts_100 : decode cX10_layFrosts 100 = .ok (.lconst 0, 1) := by decide +kernel
theorem dX10_layFrosts_101 : decode cX10_layFrosts 101 = .ok (.lcmp, 1) := by decide +kernel
theorem dX10_layFrosts_102 : decode cX10_layFrosts 102 = .ok (.ifCond .ne 6, 3) := by decide +kernel
theorem dX10_layFrosts_105 : decode cX10_layFrosts 105 = .ok (.goto 71, 3) := by decide +kernel
theorem dX10_layFrosts_108 : decode cX10_layFrosts 108 = .ok (.aload_n 0, 1) := by decide +kernel
theorem dX10_layFrosts_109 : decode cX10_layFrosts 109 = .ok (.iload 4, 2) := by decide +kernel
theorem dX10_layFrosts_111 : decode cX10_layFrosts 111 = .ok (.iload 5, 2) := by decide +kernel
theorem dX10_layFrosts_113 : decode cX10_layFrosts 113 = .ok (.ior, 1) := by decide +kernel
theorem dX10_layFrosts_114 : decode cX10_layFrosts 114 = .ok (.putfield 252, 3) := by decide +kernel
theorem dX10_layFrosts_117 : decode cX10_layFrosts 117 = .ok (.aload_n 0, 1) := by decide +kernel
theorem dX10_layFrosts_118 : decode cX10_layFrosts 118 = .ok (.invokevirtual 279, 3) := by decide +kernel
theorem dX10_layFrosts_121 : decode cX10_layFrosts 121 = .ok (.aload_n 0, 1) := by decide +kernel
theorem dX10_layFrosts_122 : decode cX10_layFrosts 122 = .ok (.dup, 1) := by decide +kernel
theorem dX10_layFrosts_123 : decode cX10_layFrosts 123 = .ok (.getfield 416, 3) := by decide +kernel
theorem dX10_layFrosts_126 : decode cX10_layFrosts 126 = .ok (.lload 6, 2) := by decide +kernel
theorem dX10_layFrosts_128 : decode cX10_layFrosts 128 = .ok (.ladd, 1) := by decide +kernel
theorem dX10_layFrosts_129 : decode cX10_layFrosts 129 = .ok (.putfield 416, 3) := by decide +kernel
theorem dX10_layFrosts_132 : decode cX10_layFrosts 132 = .ok (.aload_n 0, 1) := by decide +kernel
theorem dX10_layFrosts_133 : decode cX10_layFrosts 133 = .ok (.dup, 1) := by decide +kernel
theorem dX10_layFrosts_134 : decode cX10_layFrosts 134 = .ok (.getfield 420, 3) := by decide +kernel
theorem dX10_layFrosts_137 : decode cX10_layFrosts 137 = .ok (.aload_n 0, 1) := by decide +kernel
theorem dX10_layFrosts_138 : decode cX10_layFrosts 138 = .ok (.iload_n 1, 1) := by decide +kernel
theorem dX10_layFrosts_139 : decode cX10_layFrosts 139 = .ok (.iload_n 2, 1) := by decide +kernel
theorem dX10_layFrosts_140 : decode cX10_layFrosts 140 = .ok (.iload_n 3, 1) := by decide +kernel
theorem dX10_layFrosts_141 : decode cX10_layFrosts 141 = .ok (.invokevirtual 307, 3) := by decide +kernel
theorem dX10_layFrosts_144 : decode cX10_layFrosts 144 = .ok (.ifCond .eq 8, 3) := by decide +kernel
theorem dX10_layFrosts_147 : decode cX10_layFrosts 147 = .ok (.lload 6, 2) := by decide +kernel
theorem dX10_layFrosts_149 : decode cX10_layFrosts 149 = .ok (.goto 4, 3) := by decide +kernel
theorem dX10_layFrosts_152 : decode cX10_layFrosts 152 = .ok (.lconst 0, 1) := by decide +kernel
theorem dX10_layFrosts_153 : decode cX10_layFrosts 153 = .ok (.ladd, 1) := by decide +kernel
theorem dX10_layFrosts_154 : decode cX10_layFrosts 154 = .ok (.putfield 420, 3) := by decide +kernel
theorem dX10_layFrosts_157 : decode cX10_layFrosts 157 = .ok (.aload_n 0, 1) := by decide +kernel
theorem dX10_layFrosts_158 : decode cX10_layFrosts 158 = .ok (.dup, 1) := by decide +kernel
theorem dX10_layFrosts_159 : decode cX10_layFrosts 159 = .ok (.getfield 423, 3) := by decide +kernel
theorem dX10_layFrosts_162 : decode cX10_layFrosts 162 = .ok (.lload 6, 2) := by decide +kernel
theorem dX10_layFrosts_164 : decode cX10_layFrosts 164 = .ok (.aload_n 0, 1) := by decide +kernel
theorem dX10_layFrosts_165 : decode cX10_layFrosts 165 = .ok (.iload_n 1, 1) := by decide +kernel
theorem dX10_layFrosts_166 : decode cX10_layFrosts 166 = .ok (.iload_n 3, 1) := by decide +kernel
theorem dX10_layFrosts_167 : decode cX10_layFrosts 167 = .ok (.invokevirtual 294, 3) := by decide +kernel
theorem dX10_layFrosts_170 : decode cX10_layFrosts 170 = .ok (.i2l, 1) := by decide +kernel
theorem dX10_layFrosts_171 : decode cX10_layFrosts 171 = .ok (.lmul, 1) := by decide +kernel
theorem dX10_layFrosts_172 : decode cX10_layFrosts 172 = .ok (.ladd, 1) := by decide +kernel
theorem dX10_layFrosts_173 : decode cX10_layFrosts 173 = .ok (.putfield 423, 3) := by decide +kernel
theorem dX10_layFrosts_176 : decode cX10_layFrosts 176 = .ok (.iinc 5 1, 3) := by decide +kernel
theorem dX10_layFrosts_179 : decode cX10_layFrosts 179 = .ok (.goto (-143), 3) := by decide +kernel
theorem dX10_layFrosts_182 : decode cX10_layFrosts 182 = .ok (.return_, 1) := by decide +kernel
set_option maxRecDepth 20000 in
theorem ggX10_isFrosts_X10_isYear : GoodIn wsX10_isFrosts wsX10_isYear := goodIn_r _ [6, 7, 8, 9, 5, 10, 11, 12, 13, 14, 15, 16, 17, 18, 19, 20, 21, 22, 23, 24, 25, 26, 27, 28, 29, 30, 31, 32, 33, 34, 35, 36, 37, 38, 39, 40, 41, 42, 43, 44, 45, 46, 47, 48, 49, 50, 51, 52, 53, 54, 55] (by decide +kernel) (by decide +kernel)
set_option maxRecDepth 20000 in
theorem gX10_isFrosts_X10_isYear : GoodIn wsX10_isFrosts (wsV RX10 288 RX10 yX10_isYear wsX10_isYear) := goodIn_app (goodIn_of _ (by decide +kernel)) ggX10_isFrosts_X10_isYear
set_option maxRecDepth 20000 in
theorem ggX10_isFrosts_X10_in : GoodIn wsX10_isFrosts wsX10_in := goodIn_r _ [10] (by decide +kernel) (by decide +kernel)
set_option maxRecDepth 20000 in
theorem gX10_isFrosts_X10_in : GoodIn wsX10_isFrosts (va_wsS RX10 100 yX10_in wsX10_in) := goodIn_app (goodIn_of _ (by decide +kernel)) ggX10_isFrosts_X10_in
theorem dX10_isFrosts_0 : decode cX10_isFrosts 0 = .ok (.aload_n 0, 1) := by decide +kernel
theorem dX10_isFrosts_1 : decode cX10_isFrosts 1 = .ok (.iload_n 1, 1) := by decide +kernel
theorem dX10_isFrosts_2 : decode cX10_isFrosts 2 = .ok (.i2l, 1) := by decide +kernel
theorem dX10_isFrosts_3 : decode cX10_isFrosts 3 = .ok (.invokevirtual 288, 3) := by decide +kernel
theorem dX10_isFrosts_6 : decode cX10_isFrosts 6 = .ok (.ifCond .eq 29, 3) := by decide +kernel
theorem dX10_isFrosts_9 : decode cX10_isFrosts 9 = .ok (.iload_n 1, 1) := by decide +kernel
theorem dX10_isFrosts_10 : decode cX10_isFrosts 10 = .ok (.i2l, 1) := by decide +kernel
theorem dX10_isFrosts_11 : decode cX10_isFrosts 11 = .ok (.lconst 0, 1) := by decide +kernel
theorem dX10_isFrosts_12 : decode cX10_isFrosts 12 = .ok (.ldc2_w 426, 3) := by decide +kernel
theorem dX10_isFrosts_15 : decode cX10_isFrosts 15 = .ok (.invokestatic 100, 3) := by decide +kernel
theorem dX10_isFrosts_18 : decode cX10_isFrosts 18 = .ok (.ifCond .eq 17, 3) := by decide +kernel
theorem dX10_isFrosts_21 : decode cX10_isFrosts 21 = .ok (.iload_n 2, 1) := by decide +kernel
theorem dX10_isFrosts_22 : decode cX10_isFrosts 22 = .ok (.i2l, 1) := by decide +kernel
theorem dX10_isFrosts_23 : decode cX10_isFrosts 23 = .ok (.lconst 0, 1) := by decide +kernel
theorem dX10_isFrosts_24 : decode cX10_isFrosts 24 = .ok (.lconst 1, 1) := by decide +kernel
theorem dX10_isFrosts_25 : decode cX10_isFrosts 25 = .ok (.invokestatic 100, 3) := by decide +kernel
theorem dX10_isFrosts_28 : decode cX10_isFrosts 28 = .ok (.ifCond .eq 7, 3) := by decide +kernel
theorem dX10_isFrosts_31 : decode cX10_isFrosts 31 = .ok (.iconst 1, 1) := by decide +kernel
theorem dX10_isFrosts_32 : decode cX10_isFrosts 32 = .ok (.goto 4, 3) := by decide +kernel
theorem dX10_isFrosts_35 : decode cX10_isFrosts 35 = .ok (.iconst 0, 1) := by decide +kernel
theorem dX10_isFrosts_36 : decode cX10_isFrosts 36 = .ok (.ireturn, 1) := by decide +kernel
set_option maxRecDepth 20000 in
theorem ggX10_chance_X10_areTwo : GoodIn wsX10_chance wsX10_areTwo := goodIn_r _ [8, 9, 10, 11, 7, 12, 13, 14, 15, 16, 113, 114, 115, 116, 117, 118, 119, 120, 121, 122, 123, 124, 125, 126, 127, 128, 129, 130, 131, 132, 133, 134, 135, 136, 137, 138, 139, 140, 141, 142, 143, 144, 145, 146, 147, 148, 149, 150, 151, 152, 153, 154, 155, 156, 157] (by decide +kernel) (by decide +kernel)
set_option maxRecDepth 20000 in
theorem gX10_chance_X10_areTwo : GoodIn wsX10_chance (wsV RX10 316 RX10 yX10_areTwo wsX10_areTwo) := goodIn_app (goodIn_of _ (by decide +kernel)) ggX10_chance_X10_areTwo
set_option maxRecDepth 20000 in
theorem ggX10_chance_X10_isFrosts : GoodIn wsX10_chance wsX10_isFrosts := goodIn_r _ [20, 21, 22, 23, 24, 7, 25, 13, 14, 15, 16, 113, 114, 115, 116, 117, 118, 119, 120, 121, 122, 123, 124, 125, 126, 127, 128, 129, 130, 131, 132, 133, 134, 135, 136, 137, 138, 139, 140, 141, 142, 143, 144, 145, 146, 147, 148, 149, 150, 151, 152, 153, 154, 155, 156, 157] (by decide +kernel) (by decide +kernel)
set_option maxRecDepth 20000 in
theorem gX10_chance_X10_isFrosts : GoodIn wsX10_chance (wsV RX10 428 RX10 yX10_isFrosts wsX10_isFrosts) := goodIn_app (goodIn_of _ (by decide +kernel)) ggX10_chance_X10_isFrosts
set_option maxRecDepth 20000 in
theorem ggX10_chance_X10_layFrosts : GoodIn wsX10_chance wsX10_layFrosts := goodIn_r _ [29, 3, 2, 30, 31, 13, 32, 33, 34, 7, 35, 36, 37, 38, 39, 40, 41, 42, 43, 44, 45, 46, 47, 48, 49, 50, 51, 52, 53, 54, 55, 56, 57, 58, 59, 60, 61, 62, 63, 64, 65, 66, 67, 68, 69, 70, 71, 72, 73, 74, 75, 76, 77, 78, 79, 80, 81, 82, 83, 84, 85, 86, 87, 14, 15, 16, 88, 89, 90, 91, 92, 93, 94, 95, 96, 97, 98, 99, 100, 101, 102, 103, 113, 114, 115, 116, 117, 118, 119, 120, 121, 122, 123, 124, 125, 126, 127, 128, 129, 130, 131, 132, 133, 134, 135, 136, 137, 138, 139, 140, 141, 142, 143, 144, 145, 146, 147, 148, 149, 150, 151, 152, 153, 154, 155, 156, 157] (by decide +kernel) (by decide +kernel)
set_option maxRecDepth 20000 in
theorem gX10_chance_X10_layFrosts : GoodIn wsX10_chance (wsV RX10 433 RX10 yX10_layFrosts wsX10_layFrosts) := goodIn_app (goodIn_of _ (by decide +kernel)) ggX10_chance_X10_layFrosts
set_option maxRecDepth 20000 in
theorem ggX10_chance_X10_part : GoodIn wsX10_chance wsX10_part := goodIn_r _ [106, 107, 108, 7, 109, 110, 111, 47, 112] (by decide +kernel) (by decide +kernel)
set_option maxRecDepth 20000 in
theorem gX10_chance_X10_part : GoodIn wsX10_chance (va_wsS RX10 408 yX10_part wsX10_part) := goodIn_app (goodIn_of _ (by decide +kernel)) ggX10_chance_X10_part
theorem dX10_chance_0 : decode cX10_chance 0 = .ok (.aload_n 0, 1) := by decide +kernel
theorem dX10_chance_1 : decode cX10_chance 1 = .ok (.iload_n 1, 1) := by decide +kernel
theorem dX10_chance_2 : decode cX10_chance 2 = .ok (.iload_n 2, 1) := by decide +kernel
theorem dX10_chance_3 : decode cX10_chance 3 = .ok (.invokevirtual 316, 3) := by decide +kernel
theorem dX10_chance_6 : decode cX10_chance 6 = .ok (.ifCond .eq 13, 3) := by decide +kernel
theorem dX10_chance_9 : decode cX10_chance 9 = .ok (.aload_n 0, 1) := by decide +kernel
theorem dX10_chance_10 : decode cX10_chance 10 = .ok (.iload_n 3, 1) := by decide +kernel
theorem dX10_chance_11 : decode cX10_chance 11 = .ok (.iload 4, 2) := by decide +kernel
theorem dX10_chance_13 : decode cX10_chance 13 = .ok (.invokevirtual 428, 3) := by decide +kernel
theorem dX10_chance_16 : decode cX10_chance 16 = .ok (.ifCond .ne 7, 3) := by decide +kernel
theorem dX10_chance_19 : decode cX10_chance 19 = .ok (.ldc2_w 431, 3) := by decide +kernel
theorem dX10_chance_22 : decode cX10_chance 22 = .ok (.lreturn, 1) := by decide +kernel
theorem dX10_chance_23 : decode cX10_chance 23 = .ok (.aload_n 0, 1) := by decide +kernel
theorem dX10_chance_24 : decode cX10_chance 24 = .ok (.iload_n 1, 1) := by decide +kernel
theorem dX10_chance_25 : decode cX10_chance 25 = .ok (.iload_n 2, 1) := by decide +kernel
theorem dX10_chance_26 : decode cX10_chance 26 = .ok (.iload_n 3, 1) := by decide +kernel
theorem dX10_chance_27 : decode cX10_chance 27 = .ok (.invokevirtual 433, 3) := by decide +kernel
theorem dX10_chance_30 : decode cX10_chance 30 = .ok (.aload_n 0, 1) := by decide +kernel
theorem dX10_chance_31 : decode cX10_chance 31 = .ok (.getfield 420, 3) := by decide +kernel
theorem dX10_chance_34 : decode cX10_chance 34 = .ok (.aload_n 0, 1) := by decide +kernel
theorem dX10_chance_35 : decode cX10_chance 35 = .ok (.getfield 416, 3) := by decide +kernel
theorem dX10_chance_38 : decode cX10_chance 38 = .ok (.iload 4, 2) := by decide +kernel
theorem dX10_chance_40 : decode cX10_chance 40 = .ok (.invokestatic 408, 3) := by decide +kernel
theorem dX10_chance_43 : decode cX10_chance 43 = .ok (.lreturn, 1) := by decide +kernel
set_option maxRecDepth 20000 in
theorem ggX10_mean_X10_isRank : GoodIn wsX10_mean wsX10_isRank := goodIn_r _ [8, 9, 10, 11, 7, 12, 109, 110, 111, 112, 113, 114, 115, 116, 117, 118, 119, 120, 121, 122, 123, 124, 125, 126, 127, 128, 129, 130, 131, 132, 133, 134, 135, 136, 137, 138, 139, 140, 141, 142, 143, 144, 145, 146, 147, 148, 149, 150, 151, 152, 153] (by decide +kernel) (by decide +kernel)
set_option maxRecDepth 20000 in
theorem gX10_mean_X10_isRank : GoodIn wsX10_mean (wsV RX10 230 RX10 yX10_isRank wsX10_isRank) := goodIn_app (goodIn_of _ (by decide +kernel)) ggX10_mean_X10_isRank
set_option maxRecDepth 20000 in
theorem ggX10_mean_X10_isFrosts : GoodIn wsX10_mean wsX10_isFrosts := goodIn_r _ [16, 17, 18, 19, 20, 7, 21, 9, 10, 11, 12, 109, 110, 111, 112, 113, 114, 115, 116, 117, 118, 119, 120, 121, 122, 123, 124, 125, 126, 127, 128, 129, 130, 131, 132, 133, 134, 135, 136, 137, 138, 139, 140, 141, 142, 143, 144, 145, 146, 147, 148, 149, 150, 151, 152, 153] (by decide +kernel) (by decide +kernel)
set_option maxRecDepth 20000 in
theorem gX10_mean_X10_isFrosts : GoodIn wsX10_mean (wsV RX10 428 RX10 yX10_isFrosts wsX10_isFrosts) := goodIn_app (goodIn_of _ (by decide +kernel)) ggX10_mean_X10_isFrosts
set_option maxRecDepth 20000 in
theorem ggX10_mean_X10_layFrosts : GoodIn wsX10_mean wsX10_layFrosts := goodIn_r _ [25, 3, 26, 2, 27, 9, 28, 29, 30, 7, 31, 32, 33, 34, 35, 36, 37, 38, 39, 40, 41, 42, 43, 44, 45, 46, 47, 48, 49, 50, 51, 52, 53, 54, 55, 56, 57, 58, 59, 60, 61, 62, 63, 64, 65, 66, 67, 68, 69, 70, 71, 72, 73, 74, 75, 76, 77, 78, 79, 80, 81, 82, 83, 10, 11, 12, 84, 85, 86, 87, 88, 89, 90, 91, 92, 93, 94, 95, 96, 97, 98, 99, 109, 110, 111, 112, 113, 114, 115, 116, 117, 118, 119, 120, 121, 122, 123, 124, 125, 126, 127, 128, 129, 130, 131, 132, 133, 134, 135, 136, 137, 138, 139, 140, 141, 142, 143, 144, 145, 146, 147, 148, 149, 150, 151, 152, 153] (by decide +kernel) (by decide +kernel)
set_option maxRecDepth 20000 in
theorem gX10_mean_X10_layFrosts : GoodIn wsX10_mean (wsV RX10 433 RX10 yX10_layFrosts wsX10_layFrosts) := goodIn_app (goodIn_of _ (by decide +kernel)) ggX10_mean_X10_layFrosts
set_option maxRecDepth 20000 in
theorem ggX10_mean_X10_part : GoodIn wsX10_mean wsX10_part := goodIn_r _ [102, 103, 104, 7, 105, 106, 107, 43, 108] (by decide +kernel) (by decide +kernel)
set_option maxRecDepth 20000 in
theorem gX10_mean_X10_part : GoodIn wsX10_mean (va_wsS RX10 408 yX10_part wsX10_part) := goodIn_app (goodIn_of _ (by decide +kernel)) ggX10_mean_X10_part
theorem dX10_mean_0 : decode cX10_mean 0 = .ok (.aload_n 0, 1) := by decide +kernel
theorem dX10_mean_1 : decode cX10_mean 1 = .ok (.iload_n 1, 1) := by decide +kernel
theorem dX10_mean_2 : decode cX10_mean 2 = .ok (.i2l, 1) := by decide +kernel
theorem dX10_mean_3 : decode cX10_mean 3 = .ok (.invokevirtual 230, 3) := by decide +kernel
theorem dX10_mean_6 : decode cX10_mean 6 = .ok (.ifCond .eq 12, 3) := by decide +kernel
theorem dX10_mean_9 : decode cX10_mean 9 = .ok (.aload_n 0, 1) := by decide +kernel
theorem dX10_mean_10 : decode cX10_mean 10 = .ok (.iload_n 2, 1) := by decide +kernel
theorem dX10_mean_11 : decode cX10_mean 11 = .ok (.iload_n 3, 1) := by decide +kernel
theorem dX10_mean_12 : decode cX10_mean 12 = .ok (.invokevirtual 428, 3) := by decide +kernel
theorem dX10_mean_15 : decode cX10_mean 15 = .ok (.ifCond .ne 7, 3) := by decide +kernel
theorem dX10_mean_18 : decode cX10_mean 18 = .ok (.ldc2_w 431, 3) := by decide +kernel
theorem dX10_mean_21 : decode cX10_mean 21 = .ok (.lreturn, 1) := by decide +kernel
theorem dX10_mean_22 : decode cX10_mean 22 = .ok (.aload_n 0, 1) := by decide +kernel
theorem dX10_mean_23 : decode cX10_mean 23 = .ok (.iload_n 1, 1) := by decide +kernel
theorem dX10_mean_24 : decode cX10_mean 24 = .ok (.iload_n 1, 1) := by decide +kernel
theorem dX10_mean_25 : decode cX10_mean 25 = .ok (.iload_n 2, 1) := by decide +kernel
theorem dX10_mean_26 : decode cX10_mean 26 = .ok (.invokevirtual 433, 3) := by decide +kernel
theorem dX10_mean_29 : decode cX10_mean 29 = .ok (.aload_n 0, 1) := by decide +kernel
theorem dX10_mean_30 : decode cX10_mean 30 = .ok (.getfield 423, 3) := by decide +kernel
theorem dX10_mean_33 : decode cX10_mean 33 = .ok (.aload_n 0, 1) := by decide +kernel
theorem dX10_mean_34 : decode cX10_mean 34 = .ok (.getfield 416, 3) := by decide +kernel
theorem dX10_mean_37 : decode cX10_mean 37 = .ok (.iload_n 3, 1) := by decide +kernel
theorem dX10_mean_38 : decode cX10_mean 38 = .ok (.invokestatic 408, 3) := by decide +kernel
theorem dX10_mean_41 : decode cX10_mean 41 = .ok (.lreturn, 1) := by decide +kernel
set_option maxRecDepth 20000 in
theorem ggX10_keepAct_X10_asksDukedom : GoodIn wsX10_keepAct wsX10_asksDukedom := goodIn_r _ [6, 7, 8, 9, 5, 10, 1, 11, 12, 13, 14, 15, 16, 17, 18, 19, 20, 21, 22, 23, 24, 25, 26, 27, 28, 29, 30, 31, 32, 33, 34, 35, 36, 37, 38, 39, 40, 41, 42, 43, 44, 45, 46, 47, 48, 49, 50, 51, 52, 53, 54, 55, 56, 57, 58, 59, 60, 61, 62, 63, 64, 65, 66, 67, 68, 69, 70, 71, 72, 73, 74, 75, 76, 77, 78, 79, 80, 81, 82, 83, 84, 85, 86, 87, 88, 89, 90, 91, 92, 93, 94, 95, 96, 97, 98, 99, 100, 101, 102, 103, 104, 105, 106, 107, 108, 109, 110, 111, 112, 113, 114, 115] (by decide +kernel) (by decide +kernel)
set_option maxRecDepth 20000 in
theorem gX10_keepAct_X10_asksDukedom : GoodIn wsX10_keepAct (wsV RX10 285 RX10 yX10_asksDukedom wsX10_asksDukedom) := goodIn_app (goodIn_of _ (by decide +kernel)) ggX10_keepAct_X10_asksDukedom
theorem dX10_keepAct_0 : decode cX10_keepAct 0 = .ok (.aload_n 0, 1) := by decide +kernel
theorem dX10_keepAct_1 : decode cX10_keepAct 1 = .ok (.getfield 9, 3) := by decide +kernel
theorem dX10_keepAct_4 : decode cX10_keepAct 4 = .ok (.bipush 8, 2) := by decide +kernel
theorem dX10_keepAct_6 : decode cX10_keepAct 6 = .ok (.iaload, 1) := by decide +kernel
theorem dX10_keepAct_7 : decode cX10_keepAct 7 = .ok (.bipush 30, 2) := by decide +kernel
theorem dX10_keepAct_9 : decode cX10_keepAct 9 = .ok (.if_icmp .ne 6, 3) := by decide +kernel
theorem dX10_keepAct_12 : decode cX10_keepAct 12 = .ok (.bipush (-5), 2) := by decide +kernel
theorem dX10_keepAct_14 : decode cX10_keepAct 14 = .ok (.ireturn, 1) := by decide +kernel
theorem dX10_keepAct_15 : decode cX10_keepAct 15 = .ok (.aload_n 0, 1) := by decide +kernel
theorem dX10_keepAct_16 : decode cX10_keepAct 16 = .ok (.getfield 9, 3) := by decide +kernel
theorem dX10_keepAct_19 : decode cX10_keepAct 19 = .ok (.bipush 82, 2) := by decide +kernel
theorem dX10_keepAct_21 : decode cX10_keepAct 21 = .ok (.aload_n 0, 1) := by decide +kernel
theorem dX10_keepAct_22 : decode cX10_keepAct 22 = .ok (.getfield 9, 3) := by decide +kernel
theorem dX10_keepAct_25 : decode cX10_keepAct 25 = .ok (.bipush 8, 2) := by decide +kernel
theorem dX10_keepAct_27 : decode cX10_keepAct 27 = .ok (.iaload, 1) := by decide +kernel
theorem dX10_keepAct_28 : decode cX10_keepAct 28 = .ok (.iadd, 1) := by decide +kernel
theorem dX10_keepAct_29 : decode cX10_keepAct 29 = .ok (.iload_n 1, 1) := by decide +kernel
theorem dX10_keepAct_30 : decode cX10_keepAct 30 = .ok (.iastore, 1) := by decide +kernel
theorem dX10_keepAct_31 : decode cX10_keepAct 31 = .ok (.aload_n 0, 1) := by decide +kernel
theorem dX10_keepAct_32 : decode cX10_keepAct 32 = .ok (.getfield 9, 3) := by decide +kernel
theorem dX10_keepAct_35 : decode cX10_keepAct 35 = .ok (.bipush 8, 2) := by decide +kernel
theorem dX10_keepAct_37 : decode cX10_keepAct 37 = .ok (.dup2, 1) := by decide +kernel
theorem dX10_keepAct_38 : decode cX10_keepAct 38 = .ok (.iaload, 1) := by decide +kernel
theorem dX10_keepAct_39 : decode cX10_keepAct 39 = .ok (.iconst 1, 1) := by decide +kernel
theorem dX10_keepAct_40 : decode cX10_keepAct 40 = .ok (.iadd, 1) := by decide +kernel
theorem dX10_keepAct_41 : decode cX10_keepAct 41 = .ok (.iastore, 1) := by decide +kernel
theorem dX10_keepAct_42 : decode cX10_keepAct 42 = .ok (.aload_n 0, 1) := by decide +kernel
theorem dX10_keepAct_43 : decode cX10_keepAct 43 = .ok (.invokevirtual 285, 3) := by decide +kernel
theorem dX10_keepAct_46 : decode cX10_keepAct 46 = .ok (.pop, 1) := by decide +kernel
theorem dX10_keepAct_47 : decode cX10_keepAct 47 = .ok (.iconst 0, 1) := by decide +kernel
theorem dX10_keepAct_48 : decode cX10_keepAct 48 = .ok (.ireturn, 1) := by decide +kernel
set_option maxRecDepth 20000 in
theorem ggX10_adds_X10_isRank : GoodIn wsX10_adds wsX10_isRank := goodIn_r _ [6, 7, 8, 9, 5, 10, 92, 93, 94, 95, 96, 97, 98, 99, 100, 101, 102, 103, 104, 105, 106, 107, 108, 109, 110, 111, 112, 113, 114, 115, 116, 117, 118, 119, 120, 121, 122, 123, 124, 125, 126, 127, 128, 129, 130, 131, 132, 133, 134, 135, 136] (by decide +kernel) (by decide +kernel)
set_option maxRecDepth 20000 in
theorem gX10_adds_X10_isRank : GoodIn wsX10_adds (wsV RX10 230 RX10 yX10_isRank wsX10_isRank) := goodIn_app (goodIn_of _ (by decide +kernel)) ggX10_adds_X10_isRank
set_option maxRecDepth 20000 in
theorem ggX10_adds_X10_in : GoodIn wsX10_adds wsX10_in := goodIn_r _ [10] (by decide +kernel) (by decide +kernel)
set_option maxRecDepth 20000 in
theorem gX10_adds_X10_in : GoodIn wsX10_adds (va_wsS RX10 100 yX10_in wsX10_in) := goodIn_app (goodIn_of _ (by decide +kernel)) ggX10_adds_X10_in
set_option maxRecDepth 20000 in
theorem ggX10_adds_X10_keepAct : GoodIn wsX10_adds wsX10_keepAct := goodIn_r _ [14, 7, 15, 16, 17, 5, 18, 19, 20, 21, 22, 23, 24, 25, 26, 27, 28, 29, 30, 31, 32, 33, 34, 35, 36, 37, 38, 39, 40, 41, 42, 43, 44, 45, 46, 47, 48, 49, 50, 51, 52, 53, 54, 55, 56, 57, 58, 59, 60, 61, 62, 63, 64, 65, 66, 67, 68, 69, 70, 71, 72, 73, 74, 75, 8, 9, 10, 76, 77, 78, 79, 92, 93, 94, 95, 96, 97, 98, 99, 100, 101, 102, 103, 104, 105, 106, 107, 108, 109, 110, 111, 112, 113, 114, 115, 116, 117, 118, 119, 120, 121, 122, 123, 124, 125, 126, 127, 128, 129, 130, 131, 132, 133, 134, 135, 136] (by decide +kernel) (by decide +kernel)
set_option maxRecDepth 20000 in
theorem gX10_adds_X10_keepAct : GoodIn wsX10_adds (wsV RX10 438 RX10 yX10_keepAct wsX10_keepAct) := goodIn_app (goodIn_of _ (by decide +kernel)) ggX10_adds_X10_keepAct
set_option maxRecDepth 20000 in
theorem ggX10_adds_X10_ranks : GoodIn wsX10_adds wsX10_ranks := goodIn_r _ [63, 7, 92, 93, 94, 95, 96, 97, 98, 99, 100, 101, 102, 103, 104, 105, 106, 107, 108, 109, 110, 111, 112, 113, 114, 115, 116, 117, 118, 119, 120, 121, 122, 123, 124, 125, 126, 127, 128, 129, 130, 131, 132, 133, 134, 135, 136] (by decide +kernel) (by decide +kernel)
set_option maxRecDepth 20000 in
theorem gX10_adds_X10_ranks : GoodIn wsX10_adds (wsV RX10 261 RX10 yX10_ranks wsX10_ranks) := goodIn_app (goodIn_of _ (by decide +kernel)) ggX10_adds_X10_ranks
set_option maxRecDepth 20000 in
theorem ggX10_adds_X10_doesFord : GoodIn wsX10_adds wsX10_doesFord := goodIn_r _ [83, 28, 24, 64, 65, 66, 5, 67, 25, 68, 69, 70, 84, 85, 86, 87, 59, 88, 89, 90, 91, 29, 7, 30, 37, 38, 39, 40, 92, 93, 94, 95, 96, 97, 98, 99, 100, 101, 102, 103, 104, 105, 106, 107, 108, 109, 110, 111, 112, 113, 114, 115, 116, 117, 118, 119, 120, 121, 122, 123, 124, 125, 126, 127, 128, 129, 130, 131, 132, 133, 134, 135, 136] (by decide +kernel) (by decide +kernel)
set_option maxRecDepth 20000 in
theorem gX10_adds_X10_doesFord : GoodIn wsX10_adds (wsV RX10 303 RX10 yX10_doesFord wsX10_doesFord) := goodIn_app (goodIn_of _ (by decide +kernel)) ggX10_adds_X10_doesFord
theorem dX10_adds_0 : decode cX10_adds 0 = .ok (.aload_n 0, 1) := by decide +kernel
theorem dX10_adds_1 : decode cX10_adds 1 = .ok (.iload_n 2, 1) := by decide +kernel
theorem dX10_adds_2 : decode cX10_adds 2 = .ok (.i2l, 1) := by decide +kernel
theorem dX10_adds_3 : decode cX10_adds 3 = .ok (.invokevirtual 230, 3) := by decide +kernel
theorem dX10_adds_6 : decode cX10_adds 6 = .ok (.ifCond .eq 15, 3) := by decide +kernel
theorem dX10_adds_9 : decode cX10_adds 9 = .ok (.iload_n 1, 1) := by decide +kernel
theorem dX10_adds_10 : decode cX10_adds 10 = .ok (.i2l, 1) := by decide +kernel
theorem dX10_adds_11 : decode cX10_adds 11 = .ok (.lconst 1, 1) := by decide +kernel
theorem dX10_adds_12 : decode cX10_adds 12 = .ok (.ldc2_w 436, 3) := by decide +kernel
theorem dX10_adds_15 : decode cX10_adds 15 = .ok (.invokestatic 100, 3) := by decide +kernel
theorem dX10_adds_18 : decode cX10_adds 18 = .ok (.ifCond .ne 6, 3) := by decide +kernel
theorem dX10_adds_21 : decode cX10_adds 21 = .ok (.bipush (-2), 2) := by decide +kernel
theorem dX10_adds_23 : decode cX10_adds 23 = .ok (.ireturn, 1) := by decide +kernel
theorem dX10_adds_24 : decode cX10_adds 24 = .ok (.aload_n 0, 1) := by decide +kernel
theorem dX10_adds_25 : decode cX10_adds 25 = .ok (.bipush 100, 2) := by decide +kernel
theorem dX10_adds_27 : decode cX10_adds 27 = .ok (.iload_n 1, 1) := by decide +kernel
theorem dX10_adds_28 : decode cX10_adds 28 = .ok (.imul, 1) := by decide +kernel
theorem dX10_adds_29 : decode cX10_adds 29 = .ok (.iload_n 2, 1) := by decide +kernel
theorem dX10_adds_30 : decode cX10_adds 30 = .ok (.iadd, 1) := by decide +kernel
theorem dX10_adds_31 : decode cX10_adds 31 = .ok (.invokevirtual 438, 3) := by decide +kernel
theorem dX10_adds_34 : decode cX10_adds 34 = .ok (.ifCond .ge 6, 3) := by decide +kernel
theorem dX10_adds_37 : decode cX10_adds 37 = .ok (.bipush (-5), 2) := by decide +kernel
theorem dX10_adds_39 : decode cX10_adds 39 = .ok (.ireturn, 1) := by decide +kernel
theorem dX10_adds_40 : decode cX10_adds 40 = .ok (.iconst 0, 1) := by decide +kernel
theorem dX10_adds_41 : decode cX10_adds 41 = .ok (.istore_n 3, 1) := by decide +kernel
theorem dX10_adds_42 : decode cX10_adds 42 = .ok (.iconst 0, 1) := by decide +kernel
theorem dX10_adds_43 : decode cX10_adds 43 = .ok (.istore 4, 2) := by decide +kernel
theorem dX10_adds_45 : decode cX10_adds 45 = .ok (.iload 4, 2) := by decide +kernel
theorem dX10_adds_47 : decode cX10_adds 47 = .ok (.aload_n 0, 1) := by decide +kernel
theorem dX10_adds_48 : decode cX10_adds 48 = .ok (.invokevirtual 261, 3) := by decide +kernel
theorem dX10_adds_51 : decode cX10_adds 51 = .ok (.if_icmp .ge 31, 3) := by decide +kernel
theorem dX10_adds_54 : decode cX10_adds 54 = .ok (.iload_n 3, 1) := by decide +kernel
theorem dX10_adds_55 : decode cX10_adds 55 = .ok (.aload_n 0, 1) := by decide +kernel
theorem dX10_adds_56 : decode cX10_adds 56 = .ok (.iload 4, 2) := by decide +kernel
theorem dX10_adds_58 : decode cX10_adds 58 = .ok (.iload_n 2, 1) := by decide +kernel
theorem dX10_adds_59 : decode cX10_adds 59 = .ok (.iconst 0, 1) := by decide +kernel
theorem dX10_adds_60 : decode cX10_adds 60 = .ok (.invokevirtual 303, 3) := by decide +kernel
theorem dX10_adds_63 : decode cX10_adds 63 = .ok (.ifCond .eq 10, 3) := by decide +kernel
theorem dX10_adds_66 : decode cX10_adds 66 = .ok (.iconst 1, 1) := by decide +kernel
theorem dX10_adds_67 : decode cX10_adds 67 = .ok (.iload 4, 2) := by decide +kernel
theorem dX10_adds_69 : decode cX10_adds 69 = .ok (.ishl, 1) := by decide +kernel
theorem dX10_adds_70 : decode cX10_adds 70 = .ok (.goto 4, 3) := by decide +kernel
theorem dX10_adds_73 : decode cX10_adds 73 = .ok (.iconst 0, 1) := by decide +kernel
theorem dX10_adds_74 : decode cX10_adds 74 = .ok (.ior, 1) := by decide +kernel
theorem dX10_adds_75 : decode cX10_adds 75 = .ok (.istore_n 3, 1) := by decide +kernel
theorem dX10_adds_76 : decode cX10_adds 76 = .ok (.iinc 4 1, 3) := by decide +kernel
theorem dX10_adds_79 : decode cX10_adds 79 = .ok (.goto (-34), 3) := by decide +kernel
theorem dX10_adds_82 : decode cX10_adds 82 = .ok (.iload_n 3, 1) := by decide +kernel
theorem dX10_adds_83 : decode cX10_adds 83 = .ok (.ireturn, 1) := by decide +kernel
set_option maxRecDepth 20000 in
theorem ggX10_dredge_X10_isRank : GoodIn wsX10_dredge wsX10_isRank := goodIn_r _ [5, 6, 7, 8, 4, 9, 87, 88, 89, 90, 91, 92, 93, 94, 95, 96, 97, 98, 99, 100, 101, 102, 103, 104, 105, 106, 107, 108, 109, 110, 111, 112, 113, 114, 115, 116, 117, 118, 119, 120, 121, 122, 123, 124, 125, 126, 127, 128, 129, 130, 131] (by decide +kernel) (by decide +kernel)
set_option maxRecDepth 20000 in
theorem gX10_dredge_X10_isRank : GoodIn wsX10_dredge (wsV RX10 230 RX10 yX10_isRank wsX10_isRank) := goodIn_app (goodIn_of _ (by decide +kernel)) ggX10_dredge_X10_isRank
set_option maxRecDepth 20000 in
theorem ggX10_dredge_X10_isYear : GoodIn wsX10_dredge wsX10_isYear := goodIn_r _ [13, 6, 7, 8, 4, 9, 87, 88, 89, 90, 91, 92, 93, 94, 95, 96, 97, 98, 99, 100, 101, 102, 103, 104, 105, 106, 107, 108, 109, 110, 111, 112, 113, 114, 115, 116, 117, 118, 119, 120, 121, 122, 123, 124, 125, 126, 127, 128, 129, 130, 131] (by decide +kernel) (by decide +kernel)
set_option maxRecDepth 20000 in
theorem gX10_dredge_X10_isYear : GoodIn wsX10_dredge (wsV RX10 288 RX10 yX10_isYear wsX10_isYear) := goodIn_app (goodIn_of _ (by decide +kernel)) ggX10_dredge_X10_isYear
set_option maxRecDepth 20000 in
theorem ggX10_dredge_X10_keepAct : GoodIn wsX10_dredge wsX10_keepAct := goodIn_r _ [17, 6, 18, 19, 20, 4, 21, 22, 23, 24, 25, 26, 27, 28, 29, 30, 31, 32, 33, 34, 35, 36, 37, 38, 39, 40, 41, 42, 43, 44, 45, 46, 47, 48, 49, 50, 51, 52, 53, 54, 55, 56, 57, 58, 59, 60, 61, 62, 63, 64, 65, 66, 67, 68, 69, 70, 71, 72, 73, 74, 75, 76, 77, 78, 7, 8, 9, 79, 80, 81, 82, 87, 88, 89, 90, 91, 92, 93, 94, 95, 96, 97, 98, 99, 100, 101, 102, 103, 104, 105, 106, 107, 108, 109, 110, 111, 112, 113, 114, 115, 116, 117, 118, 119, 120, 121, 122, 123, 124, 125, 126, 127, 128, 129, 130, 131] (by decide +kernel) (by decide +kernel)
set_option maxRecDepth 20000 in
theorem gX10_dredge_X10_keepAct : GoodIn wsX10_dredge (wsV RX10 438 RX10 yX10_keepAct wsX10_keepAct) := goodIn_app (goodIn_of _ (by decide +kernel)) ggX10_dredge_X10_keepAct
set_option maxRecDepth 20000 in
theorem ggX10_dredge_X10_years : GoodIn wsX10_dredge wsX10_years := goodIn_r _ [52, 6, 87, 88, 89, 90, 91, 92, 93, 94, 95, 96, 97, 98, 99, 100, 101, 102, 103, 104, 105, 106, 107, 108, 109, 110, 111, 112, 113, 114, 115, 116, 117, 118, 119, 120, 121, 122, 123, 124, 125, 126, 127, 128, 129, 130, 131] (by decide +kernel) (by decide +kernel)
set_option maxRecDepth 20000 in
theorem gX10_dredge_X10_years : GoodIn wsX10_dredge (wsV RX10 271 RX10 yX10_years wsX10_years) := goodIn_app (goodIn_of _ (by decide +kernel)) ggX10_dredge_X10_years
set_option maxRecDepth 20000 in
theorem ggX10_dredge_X10_waterIn : GoodIn wsX10_dredge wsX10_waterIn := goodIn_r _ [86, 62, 87, 88, 89, 90, 91, 92, 93, 94, 95, 96, 97, 98, 99, 100, 101, 102, 103, 104, 105, 106, 107, 108, 109, 110, 111, 112, 113, 114, 115, 116, 117, 118, 119, 120, 121, 122, 123, 124, 125, 126, 127, 128, 129, 130, 131] (by decide +kernel) (by decide +kernel)
set_option maxRecDepth 20000 in
theorem gX10_dredge_X10_waterIn : GoodIn wsX10_dredge (wsV RX10 294 RX10 yX10_waterIn wsX10_waterIn) := goodIn_app (goodIn_of _ (by decide +kernel)) ggX10_dredge_X10_waterIn
theorem dX10_dredge_0 : decode cX10_dredge 0 = .ok (.aload_n 0, 1) := by decide +kernel
theorem dX10_dredge_1 : decode cX10_dredge 1 = .ok (.iload_n 1, 1) := by decide +kernel
theorem dX10_dredge_2 : decode cX10_dredge 2 = .ok (.i2l, 1) := by decide +kernel
theorem dX10_dredge_3 : decode cX10_dredge 3 = .ok (.invokevirtual 230, 3) := by decide +kernel
theorem dX10_dredge_6 : decode cX10_dredge 6 = .ok (.ifCond .eq 12, 3) := by decide +kernel
theorem dX10_dredge_9 : decode cX10_dredge 9 = .ok (.aload_n 0, 1) := by decide +kernel
theorem dX10_dredge_10 : decode cX10_dredge 10 = .ok (.iload_n 2, 1) := by decide +kernel
theorem dX10_dredge_11 : decode cX10_dredge 11 = .ok (.i2l, 1) := by decide +kernel
theorem dX10_dredge_12 : decode cX10_dredge 12 = .ok (.invokevirtual 288, 3) := by decide +kernel
theorem dX10_dredge_15 : decode cX10_dredge 15 = .ok (.ifCond .ne 6, 3) := by decide +kernel
theorem dX10_dredge_18 : decode cX10_dredge 18 = .ok (.bipush (-2), 2) := by decide +kernel
theorem dX10_dredge_20 : decode cX10_dredge 20 = .ok (.ireturn, 1) := by decide +kernel
theorem dX10_dredge_21 : decode cX10_dredge 21 = .ok (.aload_n 0, 1) := by decide +kernel
theorem dX10_dredge_22 : decode cX10_dredge 22 = .ok (.sipush 10000, 3) := by decide +kernel
theorem dX10_dredge_25 : decode cX10_dredge 25 = .ok (.bipush 100, 2) := by decide +kernel
theorem dX10_dredge_27 : decode cX10_dredge 27 = .ok (.iload_n 1, 1) := by decide +kernel
theorem dX10_dredge_28 : decode cX10_dredge 28 = .ok (.imul, 1) := by decide +kernel
theorem dX10_dredge_29 : decode cX10_dredge 29 = .ok (.iadd, 1) := by decide +kernel
theorem dX10_dredge_30 : decode cX10_dredge 30 = .ok (.iload_n 2, 1) := by decide +kernel
theorem dX10_dredge_31 : decode cX10_dredge 31 = .ok (.iadd, 1) := by decide +kernel
theorem dX10_dredge_32 : decode cX10_dredge 32 = .ok (.invokevirtual 438, 3) := by decide +kernel
theorem dX10_dredge_35 : decode cX10_dredge 35 = .ok (.ifCond .ge 8, 3) := by decide +kernel
theorem dX10_dredge_38 : decode cX10_dredge 38 = .ok (.bipush (-5), 2) := by decide +kernel
theorem dX10_dredge_40 : decode cX10_dredge 40 = .ok (.goto 14, 3) := by decide +kernel
theorem dX10_dredge_43 : decode cX10_dredge 43 = .ok (.aload_n 0, 1) := by decide +kernel
theorem dX10_dredge_44 : decode cX10_dredge 44 = .ok (.iload_n 1, 1) := by decide +kernel
theorem dX10_dredge_45 : decode cX10_dredge 45 = .ok (.aload_n 0, 1) := by decide +kernel
theorem dX10_dredge_46 : decode cX10_dredge 46 = .ok (.invokevirtual 271, 3) := by decide +kernel
theorem dX10_dredge_49 : decode cX10_dredge 49 = .ok (.iconst 1, 1) := by decide +kernel
theorem dX10_dredge_50 : decode cX10_dredge 50 = .ok (.isub, 1) := by decide +kernel
theorem dX10_dredge_51 : decode cX10_dredge 51 = .ok (.invokevirtual 294, 3) := by decide +kernel
theorem dX10_dredge_54 : decode cX10_dredge 54 = .ok (.ireturn, 1) := by decide +kernel
set_option maxRecDepth 20000 in
theorem ggX10_undo_X10_isDukedom : GoodIn wsX10_undo wsX10_isDukedom := goodIn_r _ [6, 1, 7, 8, 9, 10, 11, 12, 13, 14, 15, 16, 17, 18, 19, 20, 21, 22, 23, 24, 25, 26, 27, 28, 29, 30, 31, 32, 33, 34, 35, 36, 37, 38, 39, 40, 41, 42, 43, 44, 45, 46, 47, 48, 49, 50, 51] (by decide +kernel) (by decide +kernel)
set_option maxRecDepth 20000 in
theorem gX10_undo_X10_isDukedom : GoodIn wsX10_undo (wsV RX10 282 RX10 yX10_isDukedom wsX10_isDukedom) := goodIn_app (goodIn_of _ (by decide +kernel)) ggX10_undo_X10_isDukedom
theorem dX10_undo_0 : decode cX10_undo 0 = .ok (.aload_n 0, 1) := by decide +kernel
theorem dX10_undo_1 : decode cX10_undo 1 = .ok (.invokevirtual 282, 3) := by decide +kernel
theorem dX10_undo_4 : decode cX10_undo 4 = .ok (.ifCond .ne 6, 3) := by decide +kernel
theorem dX10_undo_7 : decode cX10_undo 7 = .ok (.bipush (-2), 2) := by decide +kernel
theorem dX10_undo_9 : decode cX10_undo 9 = .ok (.ireturn, 1) := by decide +kernel
theorem dX10_undo_10 : decode cX10_undo 10 = .ok (.aload_n 0, 1) := by decide +kernel
theorem dX10_undo_11 : decode cX10_undo 11 = .ok (.getfield 9, 3) := by decide +kernel
theorem dX10_undo_14 : decode cX10_undo 14 = .ok (.bipush 8, 2) := by decide +kernel
theorem dX10_undo_16 : decode cX10_undo 16 = .ok (.iaload, 1) := by decide +kernel
theorem dX10_undo_17 : decode cX10_undo 17 = .ok (.ifCond .ne 6, 3) := by decide +kernel
theorem dX10_undo_20 : decode cX10_undo 20 = .ok (.bipush (-5), 2) := by decide +kernel
theorem dX10_undo_22 : decode cX10_undo 22 = .ok (.ireturn, 1) := by decide +kernel
theorem dX10_undo_23 : decode cX10_undo 23 = .ok (.aload_n 0, 1) := by decide +kernel
theorem dX10_undo_24 : decode cX10_undo 24 = .ok (.getfield 9, 3) := by decide +kernel
theorem dX10_undo_27 : decode cX10_undo 27 = .ok (.bipush 8, 2) := by decide +kernel
theorem dX10_undo_29 : decode cX10_undo 29 = .ok (.dup2, 1) := by decide +kernel
theorem dX10_undo_30 : decode cX10_undo 30 = .ok (.iaload, 1) := by decide +kernel
theorem dX10_undo_31 : decode cX10_undo 31 = .ok (.iconst 1, 1) := by decide +kernel
theorem dX10_undo_32 : decode cX10_undo 32 = .ok (.isub, 1) := by decide +kernel
theorem dX10_undo_33 : decode cX10_undo 33 = .ok (.iastore, 1) := by decide +kernel
theorem dX10_undo_34 : decode cX10_undo 34 = .ok (.aload_n 0, 1) := by decide +kernel
theorem dX10_undo_35 : decode cX10_undo 35 = .ok (.getfield 9, 3) := by decide +kernel
theorem dX10_undo_38 : decode cX10_undo 38 = .ok (.bipush 8, 2) := by decide +kernel
theorem dX10_undo_40 : decode cX10_undo 40 = .ok (.iaload, 1) := by decide +kernel
theorem dX10_undo_41 : decode cX10_undo 41 = .ok (.ireturn, 1) := by decide +kernel
set_option maxRecDepth 20000 in
theorem ggX10_anew_X10_isDukedom : GoodIn wsX10_anew wsX10_isDukedom := goodIn_r _ [6, 1, 7, 8, 9, 10, 11, 12, 13, 14, 15, 16, 17, 18, 19, 20, 21, 22, 23, 24, 25, 26, 27, 28, 29, 30, 31, 32, 33, 34, 35, 36, 37, 38, 39, 40, 41, 42, 43, 44, 45, 46, 47, 48, 49, 50, 51] (by decide +kernel) (by decide +kernel)
set_option maxRecDepth 20000 in
theorem gX10_anew_X10_isDukedom : GoodIn wsX10_anew (wsV RX10 282 RX10 yX10_isDukedom wsX10_isDukedom) := goodIn_app (goodIn_of _ (by decide +kernel)) ggX10_anew_X10_isDukedom
theorem dX10_anew_0 : decode cX10_anew 0 = .ok (.aload_n 0, 1) := by decide +kernel
theorem dX10_anew_1 : decode cX10_anew 1 = .ok (.invokevirtual 282, 3) := by decide +kernel
theorem dX10_anew_4 : decode cX10_anew 4 = .ok (.ifCond .ne 6, 3) := by decide +kernel
theorem dX10_anew_7 : decode cX10_anew 7 = .ok (.bipush (-2), 2) := by decide +kernel
theorem dX10_anew_9 : decode cX10_anew 9 = .ok (.ireturn, 1) := by decide +kernel
theorem dX10_anew_10 : decode cX10_anew 10 = .ok (.aload_n 0, 1) := by decide +kernel
theorem dX10_anew_11 : decode cX10_anew 11 = .ok (.getfield 9, 3) := by decide +kernel
theorem dX10_anew_14 : decode cX10_anew 14 = .ok (.bipush 8, 2) := by decide +kernel
theorem dX10_anew_16 : decode cX10_anew 16 = .ok (.iaload, 1) := by decide +kernel
theorem dX10_anew_17 : decode cX10_anew 17 = .ok (.istore_n 1, 1) := by decide +kernel
theorem dX10_anew_18 : decode cX10_anew 18 = .ok (.aload_n 0, 1) := by decide +kernel
theorem dX10_anew_19 : decode cX10_anew 19 = .ok (.getfield 9, 3) := by decide +kernel
theorem dX10_anew_22 : decode cX10_anew 22 = .ok (.bipush 8, 2) := by decide +kernel
theorem dX10_anew_24 : decode cX10_anew 24 = .ok (.iconst 0, 1) := by decide +kernel
theorem dX10_anew_25 : decode cX10_anew 25 = .ok (.iastore, 1) := by decide +kernel
theorem dX10_anew_26 : decode cX10_anew 26 = .ok (.iload_n 1, 1) := by decide +kernel
theorem dX10_anew_27 : decode cX10_anew 27 = .ok (.ireturn, 1) := by decide +kernel
set_option maxRecDepth 20000 in
theorem ggX10_goDrawn_X10_asItIs : GoodIn wsX10_goDrawn wsX10_asItIs := goodIn_r _ [12, 7, 13, 14, 1, 15, 16, 17, 18, 19, 20, 21, 22, 23, 24, 25, 26, 27, 28, 11, 29, 68, 69, 70, 71, 72, 73, 74, 75, 76, 77, 78, 79, 80, 81, 82, 83, 84, 85, 86, 87, 88, 89, 90, 91, 92, 93, 94, 95, 96, 97, 98, 99, 100, 101, 102, 103, 104, 105, 106, 107, 108, 109, 110, 111, 112] (by decide +kernel) (by decide +kernel)
set_option maxRecDepth 20000 in
theorem gX10_goDrawn_X10_asItIs : GoodIn wsX10_goDrawn (wsV RX10 276 RX10 yX10_asItIs wsX10_asItIs) := goodIn_app (goodIn_of _ (by decide +kernel)) ggX10_goDrawn_X10_asItIs
set_option maxRecDepth 20000 in
theorem ggX10_goDrawn_X10_years : GoodIn wsX10_goDrawn wsX10_years := goodIn_r _ [33, 7, 68, 69, 70, 71, 72, 73, 74, 75, 76, 77, 78, 79, 80, 81, 82, 83, 84, 85, 86, 87, 88, 89, 90, 91, 92, 93, 94, 95, 96, 97, 98, 99, 100, 101, 102, 103, 104, 105, 106, 107, 108, 109, 110, 111, 112] (by decide +kernel) (by decide +kernel)
set_option maxRecDepth 20000 in
theorem gX10_goDrawn_X10_years : GoodIn wsX10_goDrawn (wsV RX10 271 RX10 yX10_years wsX10_years) := goodIn_app (goodIn_of _ (by decide +kernel)) ggX10_goDrawn_X10_years
set_option maxRecDepth 20000 in
theorem ggX10_goDrawn_X10_goAll : GoodIn wsX10_goDrawn wsX10_goAll := goodIn_r _ [37, 38, 15, 30, 31, 32, 11, 33, 7, 39, 40, 41, 42, 43, 20, 16, 44, 45, 24, 46, 47, 13, 21, 48, 49, 50, 51, 52, 53, 54, 55, 56, 1, 57, 58, 59, 60, 61, 62, 63, 22, 23, 25, 64, 26, 27, 28, 29, 65, 66, 67, 68, 69, 70, 71, 72, 73, 74, 75, 76, 77, 78, 79, 80, 81, 82, 83, 84, 85, 86, 87, 88, 89, 90, 91, 92, 93, 94, 95, 96, 97, 98, 99, 100, 101, 102, 103, 104, 105, 106, 107, 108, 109, 110, 111, 112] (by decide +kernel) (by decide +kernel)
set_option maxRecDepth 20000 in
theorem gX10_goDrawn_X10_goAll : GoodIn wsX10_goDrawn (wsV RX10 279 RX10 yX10_goAll wsX10_goAll) := goodIn_app (goodIn_of _ (by decide +kernel)) ggX10_goDrawn_X10_goAll
theorem dX10_goDrawn_0 : decode cX10_goDrawn 0 = .ok (.aload_n 0, 1) := by decide +kernel
theorem dX10_goDrawn_1 : decode cX10_goDrawn 1 = .ok (.invokevirtual 276, 3) := by decide +kernel
theorem dX10_goDrawn_4 : decode cX10_goDrawn 4 = .ok (.aload_n 0, 1) := by decide +kernel
theorem dX10_goDrawn_5 : decode cX10_goDrawn 5 = .ok (.iconst 0, 1) := by decide +kernel
theorem dX10_goDrawn_6 : decode cX10_goDrawn 6 = .ok (.putfield 252, 3) := by decide +kernel
theorem dX10_goDrawn_9 : decode cX10_goDrawn 9 = .ok (.lload_n 1, 1) := by decide +kernel
theorem dX10_goDrawn_10 : decode cX10_goDrawn 10 = .ok (.lstore_n 3, 1) := by decide +kernel
theorem dX10_goDrawn_11 : decode cX10_goDrawn 11 = .ok (.iconst 0, 1) := by decide +kernel
theorem dX10_goDrawn_12 : decode cX10_goDrawn 12 = .ok (.istore 5, 2) := by decide +kernel
theorem dX10_goDrawn_14 : decode cX10_goDrawn 14 = .ok (.iload 5, 2) := by decide +kernel
theorem dX10_goDrawn_16 : decode cX10_goDrawn 16 = .ok (.aload_n 0, 1) := by decide +kernel
theorem dX10_goDrawn_17 : decode cX10_goDrawn 17 = .ok (.invokevirtual 271, 3) := by decide +kernel
theorem dX10_goDrawn_20 : decode cX10_goDrawn 20 = .ok (.if_icmp .ge 60, 3) := by decide +kernel
theorem dX10_goDrawn_23 : decode cX10_goDrawn 23 = .ok (.ldc2_w 441, 3) := by decide +kernel
theorem dX10_goDrawn_26 : decode cX10_goDrawn 26 = .ok (.lload_n 3, 1) := by decide +kernel
theorem dX10_goDrawn_27 : decode cX10_goDrawn 27 = .ok (.lmul, 1) := by decide +kernel
theorem dX10_goDrawn_28 : decode cX10_goDrawn 28 = .ok (.ldc2_w 443, 3) := by decide +kernel
theorem dX10_goDrawn_31 : decode cX10_goDrawn 31 = .ok (.ladd, 1) := by decide +kernel
theorem dX10_goDrawn_32 : decode cX10_goDrawn 32 = .ok (.ldc2_w 445, 3) := by decide +kernel
theorem dX10_goDrawn_35 : decode cX10_goDrawn 35 = .ok (.lrem, 1) := by decide +kernel
theorem dX10_goDrawn_36 : decode cX10_goDrawn 36 = .ok (.lstore_n 3, 1) := by decide +kernel
theorem dX10_goDrawn_37 : decode cX10_goDrawn 37 = .ok (.aload_n 0, 1) := by decide +kernel
theorem dX10_goDrawn_38 : decode cX10_goDrawn 38 = .ok (.dup, 1) := by decide +kernel
theorem dX10_goDrawn_39 : decode cX10_goDrawn 39 = .ok (.getfield 252, 3) := by decide +kernel
theorem dX10_goDrawn_42 : decode cX10_goDrawn 42 = .ok (.lload_n 3, 1) := by decide +kernel
theorem dX10_goDrawn_43 : decode cX10_goDrawn 43 = .ok (.ldc2_w 447, 3) := by decide +kernel
theorem dX10_goDrawn_46 : decode cX10_goDrawn 46 = .ok (.ldiv, 1) := by decide +kernel
theorem dX10_goDrawn_47 : decode cX10_goDrawn 47 = .ok (.ldc2_w 449, 3) := by decide +kernel
theorem dX10_goDrawn_50 : decode cX10_goDrawn 50 = .ok (.lrem, 1) := by decide +kernel
theorem dX10_goDrawn_51 : decode cX10_goDrawn 51 = .ok (.aload_n 0, 1) := by decide +kernel
theorem dX10_goDrawn_52 : decode cX10_goDrawn 52 = .ok (.getfield 9, 3) := by decide +kernel
theorem dX10_goDrawn_55 : decode cX10_goDrawn 55 = .ok (.iconst 2, 1) := by decide +kernel
theorem dX10_goDrawn_56 : decode cX10_goDrawn 56 = .ok (.iaload, 1) := by decide +kernel
theorem dX10_goDrawn_57 : decode cX10_goDrawn 57 = .ok (.i2l, 1) := by decide +kernel
theorem dX10_goDrawn_58 : decode cX10_goDrawn 58 = .ok (.lcmp, 1) := by decide +kernel
theorem dX10_goDrawn_59 : decode cX10_goDrawn 59 = .ok (.ifCond .ge 10, 3) := by decide +kernel
theorem dX10_goDrawn_62 : decode cX10_goDrawn 62 = .ok (.iconst 1, 1) := by decide +kernel
theorem dX10_goDrawn_63 : decode cX10_goDrawn 63 = .ok (.iload 5, 2) := by decide +kernel
theorem dX10_goDrawn_65 : decode cX10_goDrawn 65 = .ok (.ishl, 1) := by decide +kernel
theorem dX10_goDrawn_66 : decode cX10_goDrawn 66 = .ok (.goto 4, 3) := by decide +kernel
theorem dX10_goDrawn_69 : decode cX10_goDrawn 69 = .ok (.iconst 0, 1) := by decide +kernel
theorem dX10_goDrawn_70 : decode cX10_goDrawn 70 = .ok (.ior, 1) := by decide +kernel
theorem dX10_goDrawn_71 : decode cX10_goDrawn 71 = .ok (.putfield 252, 3) := by decide +kernel
theorem dX10_goDrawn_74 : decode cX10_goDrawn 74 = .ok (.iinc 5 1, 3) := by decide +kernel
theorem dX10_goDrawn_77 : decode cX10_goDrawn 77 = .ok (.goto (-63), 3) := by decide +kernel
theorem dX10_goDrawn_80 : decode cX10_goDrawn 80 = .ok (.aload_n 0, 1) := by decide +kernel
theorem dX10_goDrawn_81 : decode cX10_goDrawn 81 = .ok (.invokevirtual 279, 3) := by decide +kernel
theorem dX10_goDrawn_84 : decode cX10_goDrawn 84 = .ok (.return_, 1) := by decide +kernel
set_option maxRecDepth 20000 in
theorem ggX10_isSeed_X10_in : GoodIn wsX10_isSeed wsX10_in := goodIn_r _ [5] (by decide +kernel) (by decide +kernel)
set_option maxRecDepth 20000 in
theorem gX10_isSeed_X10_in : GoodIn wsX10_isSeed (va_wsS RX10 100 yX10_in wsX10_in) := goodIn_app (goodIn_of _ (by decide +kernel)) ggX10_isSeed_X10_in
theorem dX10_isSeed_0 : decode cX10_isSeed 0 = .ok (.iload_n 0, 1) := by decide +kernel
theorem dX10_isSeed_1 : decode cX10_isSeed 1 = .ok (.i2l, 1) := by decide +kernel
theorem dX10_isSeed_2 : decode cX10_isSeed 2 = .ok (.lconst 0, 1) := by decide +kernel
theorem dX10_isSeed_3 : decode cX10_isSeed 3 = .ok (.ldc2_w 451, 3) := by decide +kernel
theorem dX10_isSeed_6 : decode cX10_isSeed 6 = .ok (.invokestatic 100, 3) := by decide +kernel
theorem dX10_isSeed_9 : decode cX10_isSeed 9 = .ok (.ireturn, 1) := by decide +kernel
set_option maxRecDepth 20000 in
theorem ggX10_drawn_X10_isDukedom : GoodIn wsX10_drawn wsX10_isDukedom := goodIn_r _ [6, 7, 112, 113, 114, 115, 116, 117, 118, 119, 120, 121, 122, 123, 124, 125, 126, 127, 128, 129, 130, 131, 132, 133, 134, 135, 136, 137, 138, 139, 140, 141, 142, 143, 144, 145, 146, 147, 148, 149, 150, 151, 152, 153, 154, 155, 156] (by decide +kernel) (by decide +kernel)
