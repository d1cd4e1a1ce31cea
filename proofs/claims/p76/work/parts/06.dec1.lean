theorem dX9_fair_15 : decode cX9_fair 15 = .ok (.aload_n 0, 1) := by decide +kernel
theorem dX9_fair_16 : decode cX9_fair 16 = .ok (.getfield 48, 3) := by decide +kernel
theorem dX9_fair_19 : decode cX9_fair 19 = .ok (.iconst 0, 1) := by decide +kernel
theorem dX9_fair_20 : decode cX9_fair 20 = .ok (.invokevirtual 206, 3) := by decide +kernel
theorem dX9_fair_23 : decode cX9_fair 23 = .ok (.istore_n 2, 1) := by decide +kernel
theorem dX9_fair_24 : decode cX9_fair 24 = .ok (.iconst 1, 1) := by decide +kernel
theorem dX9_fair_25 : decode cX9_fair 25 = .ok (.istore_n 3, 1) := by decide +kernel
theorem dX9_fair_26 : decode cX9_fair 26 = .ok (.iload_n 3, 1) := by decide +kernel
theorem dX9_fair_27 : decode cX9_fair 27 = .ok (.aload_n 0, 1) := by decide +kernel
theorem dX9_fair_28 : decode cX9_fair 28 = .ok (.getfield 28, 3) := by decide +kernel
theorem dX9_fair_31 : decode cX9_fair 31 = .ok (.getfield 178, 3) := by decide +kernel
theorem dX9_fair_34 : decode cX9_fair 34 = .ok (.if_icmp .ge 30, 3) := by decide +kernel
theorem dX9_fair_37 : decode cX9_fair 37 = .ok (.aload_n 0, 1) := by decide +kernel
theorem dX9_fair_38 : decode cX9_fair 38 = .ok (.getfield 48, 3) := by decide +kernel
theorem dX9_fair_41 : decode cX9_fair 41 = .ok (.iload_n 3, 1) := by decide +kernel
theorem dX9_fair_42 : decode cX9_fair 42 = .ok (.invokevirtual 206, 3) := by decide +kernel
theorem dX9_fair_45 : decode cX9_fair 45 = .ok (.istore 4, 2) := by decide +kernel
theorem dX9_fair_47 : decode cX9_fair 47 = .ok (.iload 4, 2) := by decide +kernel
theorem dX9_fair_49 : decode cX9_fair 49 = .ok (.iload_n 2, 1) := by decide +kernel
theorem dX9_fair_50 : decode cX9_fair 50 = .ok (.if_icmp .le 8, 3) := by decide +kernel
theorem dX9_fair_53 : decode cX9_fair 53 = .ok (.iload 4, 2) := by decide +kernel
theorem dX9_fair_55 : decode cX9_fair 55 = .ok (.istore_n 2, 1) := by decide +kernel
theorem dX9_fair_56 : decode cX9_fair 56 = .ok (.iload_n 3, 1) := by decide +kernel
theorem dX9_fair_57 : decode cX9_fair 57 = .ok (.istore_n 1, 1) := by decide +kernel
theorem dX9_fair_58 : decode cX9_fair 58 = .ok (.iinc 3 1, 3) := by decide +kernel
theorem dX9_fair_61 : decode cX9_fair 61 = .ok (.goto (-35), 3) := by decide +kernel
theorem dX9_fair_64 : decode cX9_fair 64 = .ok (.iload_n 1, 1) := by decide +kernel
theorem dX9_fair_65 : decode cX9_fair 65 = .ok (.ireturn, 1) := by decide +kernel
theorem dX9_fords_0 : decode cX9_fords 0 = .ok (.aload_n 0, 1) := by decide +kernel
theorem dX9_fords_1 : decode cX9_fords 1 = .ok (.getfield 28, 3) := by decide +kernel
theorem dX9_fords_4 : decode cX9_fords 4 = .ok (.iload_n 1, 1) := by decide +kernel
theorem dX9_fords_5 : decode cX9_fords 5 = .ok (.iload_n 2, 1) := by decide +kernel
theorem dX9_fords_6 : decode cX9_fords 6 = .ok (.invokevirtual 155, 3) := by decide +kernel
theorem dX9_fords_9 : decode cX9_fords 9 = .ok (.ifCond .ne 6, 3) := by decide +kernel
theorem dX9_fords_12 : decode cX9_fords 12 = .ok (.bipush (-2), 2) := by decide +kernel
theorem dX9_fords_14 : decode cX9_fords 14 = .ok (.ireturn, 1) := by decide +kernel
theorem dX9_fords_15 : decode cX9_fords 15 = .ok (.iconst 0, 1) := by decide +kernel
theorem dX9_fords_16 : decode cX9_fords 16 = .ok (.istore_n 3, 1) := by decide +kernel
theorem dX9_fords_17 : decode cX9_fords 17 = .ok (.iconst 0, 1) := by decide +kernel
theorem dX9_fords_18 : decode cX9_fords 18 = .ok (.istore 4, 2) := by decide +kernel
theorem dX9_fords_20 : decode cX9_fords 20 = .ok (.iload 4, 2) := by decide +kernel
theorem dX9_fords_22 : decode cX9_fords 22 = .ok (.aload_n 0, 1) := by decide +kernel
theorem dX9_fords_23 : decode cX9_fords 23 = .ok (.getfield 28, 3) := by decide +kernel
theorem dX9_fords_26 : decode cX9_fords 26 = .ok (.getfield 175, 3) := by decide +kernel
theorem dX9_fords_29 : decode cX9_fords 29 = .ok (.if_icmp .ge 30, 3) := by decide +kernel
theorem dX9_fords_32 : decode cX9_fords 32 = .ok (.aload_n 0, 1) := by decide +kernel
theorem dX9_fords_33 : decode cX9_fords 33 = .ok (.getfield 48, 3) := by decide +kernel
theorem dX9_fords_36 : decode cX9_fords 36 = .ok (.iload_n 1, 1) := by decide +kernel
theorem dX9_fords_37 : decode cX9_fords 37 = .ok (.iload 4, 2) := by decide +kernel
theorem dX9_fords_39 : decode cX9_fords 39 = .ok (.iload_n 2, 1) := by decide +kernel
theorem dX9_fords_40 : decode cX9_fords 40 = .ok (.invokevirtual 193, 3) := by decide +kernel
theorem dX9_fords_43 : decode cX9_fords 43 = .ok (.ifCond .eq 10, 3) := by decide +kernel
theorem dX9_fords_46 : decode cX9_fords 46 = .ok (.iload_n 3, 1) := by decide +kernel
theorem dX9_fords_47 : decode cX9_fords 47 = .ok (.iconst 1, 1) := by decide +kernel
theorem dX9_fords_48 : decode cX9_fords 48 = .ok (.iload 4, 2) := by decide +kernel
theorem dX9_fords_50 : decode cX9_fords 50 = .ok (.ishl, 1) := by decide +kernel
theorem dX9_fords_51 : decode cX9_fords 51 = .ok (.ior, 1) := by decide +kernel
theorem dX9_fords_52 : decode cX9_fords 52 = .ok (.istore_n 3, 1) := by decide +kernel
theorem dX9_fords_53 : decode cX9_fords 53 = .ok (.iinc 4 1, 3) := by decide +kernel
theorem dX9_fords_56 : decode cX9_fords 56 = .ok (.goto (-36), 3) := by decide +kernel
theorem dX9_fords_59 : decode cX9_fords 59 = .ok (.iload_n 3, 1) := by decide +kernel
theorem dX9_fords_60 : decode cX9_fords 60 = .ok (.ireturn, 1) := by decide +kernel
theorem dX9_shut_0 : decode cX9_shut 0 = .ok (.aload_n 0, 1) := by decide +kernel
theorem dX9_shut_1 : decode cX9_shut 1 = .ok (.getfield 28, 3) := by decide +kernel
theorem dX9_shut_4 : decode cX9_shut 4 = .ok (.iload_n 1, 1) := by decide +kernel
theorem dX9_shut_5 : decode cX9_shut 5 = .ok (.invokevirtual 142, 3) := by decide +kernel
theorem dX9_shut_8 : decode cX9_shut 8 = .ok (.ifCond .ne 6, 3) := by decide +kernel
theorem dX9_shut_11 : decode cX9_shut 11 = .ok (.bipush (-2), 2) := by decide +kernel
theorem dX9_shut_13 : decode cX9_shut 13 = .ok (.ireturn, 1) := by decide +kernel
theorem dX9_shut_14 : decode cX9_shut 14 = .ok (.iconst 0, 1) := by decide +kernel
theorem dX9_shut_15 : decode cX9_shut 15 = .ok (.istore_n 2, 1) := by decide +kernel
theorem dX9_shut_16 : decode cX9_shut 16 = .ok (.iconst 0, 1) := by decide +kernel
theorem dX9_shut_17 : decode cX9_shut 17 = .ok (.istore_n 3, 1) := by decide +kernel
theorem dX9_shut_18 : decode cX9_shut 18 = .ok (.iload_n 3, 1) := by decide +kernel
theorem dX9_shut_19 : decode cX9_shut 19 = .ok (.aload_n 0, 1) := by decide +kernel
theorem dX9_shut_20 : decode cX9_shut 20 = .ok (.getfield 28, 3) := by decide +kernel
theorem dX9_shut_23 : decode cX9_shut 23 = .ok (.getfield 175, 3) := by decide +kernel
theorem dX9_shut_26 : decode cX9_shut 26 = .ok (.if_icmp .ge 28, 3) := by decide +kernel
theorem dX9_shut_29 : decode cX9_shut 29 = .ok (.aload_n 0, 1) := by decide +kernel
theorem dX9_shut_30 : decode cX9_shut 30 = .ok (.getfield 48, 3) := by decide +kernel
theorem dX9_shut_33 : decode cX9_shut 33 = .ok (.iload_n 3, 1) := by decide +kernel
theorem dX9_shut_34 : decode cX9_shut 34 = .ok (.iload_n 3, 1) := by decide +kernel
theorem dX9_shut_35 : decode cX9_shut 35 = .ok (.iload_n 1, 1) := by decide +kernel
theorem dX9_shut_36 : decode cX9_shut 36 = .ok (.invokevirtual 193, 3) := by decide +kernel
theorem dX9_shut_39 : decode cX9_shut 39 = .ok (.ifCond .ne 9, 3) := by decide +kernel
theorem dX9_shut_42 : decode cX9_shut 42 = .ok (.iload_n 2, 1) := by decide +kernel
theorem dX9_shut_43 : decode cX9_shut 43 = .ok (.iconst 1, 1) := by decide +kernel
theorem dX9_shut_44 : decode cX9_shut 44 = .ok (.iload_n 3, 1) := by decide +kernel
theorem dX9_shut_45 : decode cX9_shut 45 = .ok (.ishl, 1) := by decide +kernel
theorem dX9_shut_46 : decode cX9_shut 46 = .ok (.ior, 1) := by decide +kernel
theorem dX9_shut_47 : decode cX9_shut 47 = .ok (.istore_n 2, 1) := by decide +kernel
theorem dX9_shut_48 : decode cX9_shut 48 = .ok (.iinc 3 1, 3) := by decide +kernel
theorem dX9_shut_51 : decode cX9_shut 51 = .ok (.goto (-33), 3) := by decide +kernel
theorem dX9_shut_54 : decode cX9_shut 54 = .ok (.iload_n 2, 1) := by decide +kernel
theorem dX9_shut_55 : decode cX9_shut 55 = .ok (.ireturn, 1) := by decide +kernel
theorem dX9_widest_0 : decode cX9_widest 0 = .ok (.aload_n 0, 1) := by decide +kernel
theorem dX9_widest_1 : decode cX9_widest 1 = .ok (.getfield 28, 3) := by decide +kernel
theorem dX9_widest_4 : decode cX9_widest 4 = .ok (.iload_n 1, 1) := by decide +kernel
theorem dX9_widest_5 : decode cX9_widest 5 = .ok (.invokevirtual 142, 3) := by decide +kernel
theorem dX9_widest_8 : decode cX9_widest 8 = .ok (.ifCond .ne 6, 3) := by decide +kernel
theorem dX9_widest_11 : decode cX9_widest 11 = .ok (.bipush (-2), 2) := by decide +kernel
theorem dX9_widest_13 : decode cX9_widest 13 = .ok (.ireturn, 1) := by decide +kernel
theorem dX9_widest_14 : decode cX9_widest 14 = .ok (.iconst 0, 1) := by decide +kernel
theorem dX9_widest_15 : decode cX9_widest 15 = .ok (.istore_n 2, 1) := by decide +kernel
theorem dX9_widest_16 : decode cX9_widest 16 = .ok (.iconst 0, 1) := by decide +kernel
theorem dX9_widest_17 : decode cX9_widest 17 = .ok (.istore_n 3, 1) := by decide +kernel
theorem dX9_widest_18 : decode cX9_widest 18 = .ok (.iload_n 3, 1) := by decide +kernel
theorem dX9_widest_19 : decode cX9_widest 19 = .ok (.aload_n 0, 1) := by decide +kernel
theorem dX9_widest_20 : decode cX9_widest 20 = .ok (.getfield 28, 3) := by decide +kernel
theorem dX9_widest_23 : decode cX9_widest 23 = .ok (.getfield 175, 3) := by decide +kernel
theorem dX9_widest_26 : decode cX9_widest 26 = .ok (.if_icmp .ge 23, 3) := by decide +kernel
theorem dX9_widest_29 : decode cX9_widest 29 = .ok (.iload_n 2, 1) := by decide +kernel
theorem dX9_widest_30 : decode cX9_widest 30 = .ok (.aload_n 0, 1) := by decide +kernel
theorem dX9_widest_31 : decode cX9_widest 31 = .ok (.getfield 48, 3) := by decide +kernel
theorem dX9_widest_34 : decode cX9_widest 34 = .ok (.iload_n 3, 1) := by decide +kernel
theorem dX9_widest_35 : decode cX9_widest 35 = .ok (.iload_n 1, 1) := by decide +kernel
theorem dX9_widest_36 : decode cX9_widest 36 = .ok (.invokevirtual 210, 3) := by decide +kernel
theorem dX9_widest_39 : decode cX9_widest 39 = .ok (.invokestatic 181, 3) := by decide +kernel
theorem dX9_widest_42 : decode cX9_widest 42 = .ok (.istore_n 2, 1) := by decide +kernel
theorem dX9_widest_43 : decode cX9_widest 43 = .ok (.iinc 3 1, 3) := by decide +kernel
theorem dX9_widest_46 : decode cX9_widest 46 = .ok (.goto (-28), 3) := by decide +kernel
theorem dX9_widest_49 : decode cX9_widest 49 = .ok (.iload_n 2, 1) := by decide +kernel
theorem dX9_widest_50 : decode cX9_widest 50 = .ok (.ireturn, 1) := by decide +kernel
theorem dX9_kept_0 : decode cX9_kept 0 = .ok (.aload_n 0, 1) := by decide +kernel
theorem dX9_kept_1 : decode cX9_kept 1 = .ok (.getfield 28, 3) := by decide +kernel
theorem dX9_kept_4 : decode cX9_kept 4 = .ok (.getfield 124, 3) := by decide +kernel
theorem dX9_kept_7 : decode cX9_kept 7 = .ok (.iload_n 1, 1) := by decide +kernel
theorem dX9_kept_8 : decode cX9_kept 8 = .ok (.invokevirtual 128, 3) := by decide +kernel
theorem dX9_kept_11 : decode cX9_kept 11 = .ok (.ifCond .ne 6, 3) := by decide +kernel
theorem dX9_kept_14 : decode cX9_kept 14 = .ok (.bipush (-2), 2) := by decide +kernel
theorem dX9_kept_16 : decode cX9_kept 16 = .ok (.ireturn, 1) := by decide +kernel
theorem dX9_kept_17 : decode cX9_kept 17 = .ok (.aload_n 0, 1) := by decide +kernel
theorem dX9_kept_18 : decode cX9_kept 18 = .ok (.getfield 48, 3) := by decide +kernel
theorem dX9_kept_21 : decode cX9_kept 21 = .ok (.iload_n 1, 1) := by decide +kernel
theorem dX9_kept_22 : decode cX9_kept 22 = .ok (.aload_n 0, 1) := by decide +kernel
theorem dX9_kept_23 : decode cX9_kept 23 = .ok (.getfield 48, 3) := by decide +kernel
theorem dX9_kept_26 : decode cX9_kept 26 = .ok (.getfield 213, 3) := by decide +kernel
theorem dX9_kept_29 : decode cX9_kept 29 = .ok (.invokevirtual 216, 3) := by decide +kernel
theorem dX9_kept_32 : decode cX9_kept 32 = .ok (.ifCond .eq 7, 3) := by decide +kernel
theorem dX9_kept_35 : decode cX9_kept 35 = .ok (.iconst 1, 1) := by decide +kernel
theorem dX9_kept_36 : decode cX9_kept 36 = .ok (.goto 4, 3) := by decide +kernel
theorem dX9_kept_39 : decode cX9_kept 39 = .ok (.iconst 0, 1) := by decide +kernel
theorem dX9_kept_40 : decode cX9_kept 40 = .ok (.ireturn, 1) := by decide +kernel
theorem dX9_keeps_0 : decode cX9_keeps 0 = .ok (.aload_n 0, 1) := by decide +kernel
theorem dX9_keeps_1 : decode cX9_keeps 1 = .ok (.getfield 28, 3) := by decide +kernel
theorem dX9_keeps_4 : decode cX9_keeps 4 = .ok (.invokevirtual 148, 3) := by decide +kernel
theorem dX9_keeps_7 : decode cX9_keeps 7 = .ok (.ifCond .eq 20, 3) := by decide +kernel
theorem dX9_keeps_10 : decode cX9_keeps 10 = .ok (.aload_n 0, 1) := by decide +kernel
theorem dX9_keeps_11 : decode cX9_keeps 11 = .ok (.getfield 48, 3) := by decide +kernel
theorem dX9_keeps_14 : decode cX9_keeps 14 = .ok (.aload_n 0, 1) := by decide +kernel
theorem dX9_keeps_15 : decode cX9_keeps 15 = .ok (.getfield 48, 3) := by decide +kernel
theorem dX9_keeps_18 : decode cX9_keeps 18 = .ok (.getfield 213, 3) := by decide +kernel
theorem dX9_keeps_21 : decode cX9_keeps 21 = .ok (.invokevirtual 219, 3) := by decide +kernel
theorem dX9_keeps_24 : decode cX9_keeps 24 = .ok (.goto 5, 3) := by decide +kernel
theorem dX9_keeps_27 : decode cX9_keeps 27 = .ok (.bipush (-2), 2) := by decide +kernel
theorem dX9_keeps_29 : decode cX9_keeps 29 = .ok (.ireturn, 1) := by decide +kernel
theorem dX9_hinders_0 : decode cX9_hinders 0 = .ok (.aload_n 0, 1) := by decide +kernel
theorem dX9_hinders_1 : decode cX9_hinders 1 = .ok (.getfield 28, 3) := by decide +kernel
theorem dX9_hinders_4 : decode cX9_hinders 4 = .ok (.getfield 124, 3) := by decide +kernel
theorem dX9_hinders_7 : decode cX9_hinders 7 = .ok (.iload_n 1, 1) := by decide +kernel
theorem dX9_hinders_8 : decode cX9_hinders 8 = .ok (.invokevirtual 128, 3) := by decide +kernel
theorem dX9_hinders_11 : decode cX9_hinders 11 = .ok (.ifCond .eq 14, 3) := by decide +kernel
theorem dX9_hinders_14 : decode cX9_hinders 14 = .ok (.aload_n 0, 1) := by decide +kernel
theorem dX9_hinders_15 : decode cX9_hinders 15 = .ok (.getfield 48, 3) := by decide +kernel
theorem dX9_hinders_18 : decode cX9_hinders 18 = .ok (.iload_n 1, 1) := by decide +kernel
theorem dX9_hinders_19 : decode cX9_hinders 19 = .ok (.invokevirtual 222, 3) := by decide +kernel
theorem dX9_hinders_22 : decode cX9_hinders 22 = .ok (.goto 5, 3) := by decide +kernel
theorem dX9_hinders_25 : decode cX9_hinders 25 = .ok (.bipush (-2), 2) := by decide +kernel
theorem dX9_hinders_27 : decode cX9_hinders 27 = .ok (.ireturn, 1) := by decide +kernel
theorem dX9_hosts_0 : decode cX9_hosts 0 = .ok (.aload_n 0, 1) := by decide +kernel
theorem dX9_hosts_1 : decode cX9_hosts 1 = .ok (.getfield 28, 3) := by decide +kernel
theorem dX9_hosts_4 : decode cX9_hosts 4 = .ok (.iload_n 1, 1) := by decide +kernel
theorem dX9_hosts_5 : decode cX9_hosts 5 = .ok (.invokevirtual 98, 3) := by decide +kernel
theorem dX9_hosts_8 : decode cX9_hosts 8 = .ok (.ifCond .eq 35, 3) := by decide +kernel
theorem dX9_hosts_11 : decode cX9_hosts 11 = .ok (.aload_n 0, 1) := by decide +kernel
theorem dX9_hosts_12 : decode cX9_hosts 12 = .ok (.getfield 48, 3) := by decide +kernel
theorem dX9_hosts_15 : decode cX9_hosts 15 = .ok (.aload_n 0, 1) := by decide +kernel
theorem dX9_hosts_16 : decode cX9_hosts 16 = .ok (.getfield 48, 3) := by decide +kernel
theorem dX9_hosts_19 : decode cX9_hosts 19 = .ok (.getfield 213, 3) := by decide +kernel
theorem dX9_hosts_22 : decode cX9_hosts 22 = .ok (.invokevirtual 219, 3) := by decide +kernel
theorem dX9_hosts_25 : decode cX9_hosts 25 = .ok (.aload_n 0, 1) := by decide +kernel
theorem dX9_hosts_26 : decode cX9_hosts 26 = .ok (.getfield 28, 3) := by decide +kernel
theorem dX9_hosts_29 : decode cX9_hosts 29 = .ok (.getfield 124, 3) := by decide +kernel
theorem dX9_hosts_32 : decode cX9_hosts 32 = .ok (.iload_n 1, 1) := by decide +kernel
theorem dX9_hosts_33 : decode cX9_hosts 33 = .ok (.invokevirtual 225, 3) := by decide +kernel
theorem dX9_hosts_36 : decode cX9_hosts 36 = .ok (.iand, 1) := by decide +kernel
theorem dX9_hosts_37 : decode cX9_hosts 37 = .ok (.invokestatic 228, 3) := by decide +kernel
theorem dX9_hosts_40 : decode cX9_hosts 40 = .ok (.goto 5, 3) := by decide +kernel
theorem dX9_hosts_43 : decode cX9_hosts 43 = .ok (.bipush (-2), 2) := by decide +kernel
theorem dX9_hosts_45 : decode cX9_hosts 45 = .ok (.ireturn, 1) := by decide +kernel
theorem dX9_goes_0 : decode cX9_goes 0 = .ok (.aload_n 0, 1) := by decide +kernel
theorem dX9_goes_1 : decode cX9_goes 1 = .ok (.getfield 28, 3) := by decide +kernel
theorem dX9_goes_4 : decode cX9_goes 4 = .ok (.iload_n 1, 1) := by decide +kernel
theorem dX9_goes_5 : decode cX9_goes 5 = .ok (.invokevirtual 98, 3) := by decide +kernel
theorem dX9_goes_8 : decode cX9_goes 8 = .ok (.ifCond .eq 35, 3) := by decide +kernel
theorem dX9_goes_11 : decode cX9_goes 11 = .ok (.aload_n 0, 1) := by decide +kernel
theorem dX9_goes_12 : decode cX9_goes 12 = .ok (.getfield 48, 3) := by decide +kernel
theorem dX9_goes_15 : decode cX9_goes 15 = .ok (.aload_n 0, 1) := by decide +kernel
theorem dX9_goes_16 : decode cX9_goes 16 = .ok (.getfield 48, 3) := by decide +kernel
theorem dX9_goes_19 : decode cX9_goes 19 = .ok (.getfield 213, 3) := by decide +kernel
theorem dX9_goes_22 : decode cX9_goes 22 = .ok (.invokevirtual 219, 3) := by decide +kernel
theorem dX9_goes_25 : decode cX9_goes 25 = .ok (.aload_n 0, 1) := by decide +kernel
theorem dX9_goes_26 : decode cX9_goes 26 = .ok (.getfield 28, 3) := by decide +kernel
theorem dX9_goes_29 : decode cX9_goes 29 = .ok (.getfield 124, 3) := by decide +kernel
theorem dX9_goes_32 : decode cX9_goes 32 = .ok (.iload_n 1, 1) := by decide +kernel
theorem dX9_goes_33 : decode cX9_goes 33 = .ok (.invokevirtual 233, 3) := by decide +kernel
theorem dX9_goes_36 : decode cX9_goes 36 = .ok (.iand, 1) := by decide +kernel
theorem dX9_goes_37 : decode cX9_goes 37 = .ok (.invokestatic 228, 3) := by decide +kernel
theorem dX9_goes_40 : decode cX9_goes 40 = .ok (.goto 5, 3) := by decide +kernel
theorem dX9_goes_43 : decode cX9_goes 43 = .ok (.bipush (-2), 2) := by decide +kernel
theorem dX9_goes_45 : decode cX9_goes 45 = .ok (.ireturn, 1) := by decide +kernel
theorem dX9_host_0 : decode cX9_host 0 = .ok (.aload_n 0, 1) := by decide +kernel
theorem dX9_host_1 : decode cX9_host 1 = .ok (.getfield 28, 3) := by decide +kernel
theorem dX9_host_4 : decode cX9_host 4 = .ok (.invokevirtual 148, 3) := by decide +kernel
theorem dX9_host_7 : decode cX9_host 7 = .ok (.ifCond .ne 6, 3) := by decide +kernel
theorem dX9_host_10 : decode cX9_host 10 = .ok (.bipush (-2), 2) := by decide +kernel
theorem dX9_host_12 : decode cX9_host 12 = .ok (.ireturn, 1) := by decide +kernel
theorem dX9_host_13 : decode cX9_host 13 = .ok (.aload_n 0, 1) := by decide +kernel
theorem dX9_host_14 : decode cX9_host 14 = .ok (.getfield 48, 3) := by decide +kernel
theorem dX9_host_17 : decode cX9_host 17 = .ok (.aload_n 0, 1) := by decide +kernel
theorem dX9_host_18 : decode cX9_host 18 = .ok (.getfield 48, 3) := by decide +kernel
theorem dX9_host_21 : decode cX9_host 21 = .ok (.getfield 213, 3) := by decide +kernel
theorem dX9_host_24 : decode cX9_host 24 = .ok (.invokevirtual 219, 3) := by decide +kernel
theorem dX9_host_27 : decode cX9_host 27 = .ok (.istore_n 1, 1) := by decide +kernel
theorem dX9_host_28 : decode cX9_host 28 = .ok (.iconst (-1), 1) := by decide +kernel
theorem dX9_host_29 : decode cX9_host 29 = .ok (.istore_n 2, 1) := by decide +kernel
theorem dX9_host_30 : decode cX9_host 30 = .ok (.iconst 0, 1) := by decide +kernel
theorem dX9_host_31 : decode cX9_host 31 = .ok (.istore_n 3, 1) := by decide +kernel
theorem dX9_host_32 : decode cX9_host 32 = .ok (.iconst 0, 1) := by decide +kernel
theorem dX9_host_33 : decode cX9_host 33 = .ok (.istore 4, 2) := by decide +kernel
theorem dX9_host_35 : decode cX9_host 35 = .ok (.iload 4, 2) := by decide +kernel
theorem dX9_host_37 : decode cX9_host 37 = .ok (.aload_n 0, 1) := by decide +kernel
theorem dX9_host_38 : decode cX9_host 38 = .ok (.getfield 28, 3) := by decide +kernel
theorem dX9_host_41 : decode cX9_host 41 = .ok (.getfield 175, 3) := by decide +kernel
theorem dX9_host_44 : decode cX9_host 44 = .ok (.if_icmp .ge 40, 3) := by decide +kernel
theorem dX9_host_47 : decode cX9_host 47 = .ok (.iload_n 1, 1) := by decide +kernel
theorem dX9_host_48 : decode cX9_host 48 = .ok (.aload_n 0, 1) := by decide +kernel
theorem dX9_host_49 : decode cX9_host 49 = .ok (.getfield 28, 3) := by decide +kernel
theorem dX9_host_52 : decode cX9_host 52 = .ok (.getfield 124, 3) := by decide +kernel
theorem dX9_host_55 : decode cX9_host 55 = .ok (.iload 4, 2) := by decide +kernel
theorem dX9_host_57 : decode cX9_host 57 = .ok (.invokevirtual 225, 3) := by decide +kernel
theorem dX9_host_60 : decode cX9_host 60 = .ok (.iand, 1) := by decide +kernel
theorem dX9_host_61 : decode cX9_host 61 = .ok (.invokestatic 228, 3) := by decide +kernel
theorem dX9_host_64 : decode cX9_host 64 = .ok (.istore 5, 2) := by decide +kernel
theorem dX9_host_66 : decode cX9_host 66 = .ok (.iload 5, 2) := by decide +kernel
theorem dX9_host_68 : decode cX9_host 68 = .ok (.iload_n 3, 1) := by decide +kernel
theorem dX9_host_69 : decode cX9_host 69 = .ok (.if_icmp .le 9, 3) := by decide +kernel
theorem dX9_host_72 : decode cX9_host 72 = .ok (.iload 5, 2) := by decide +kernel
theorem dX9_host_74 : decode cX9_host 74 = .ok (.istore_n 3, 1) := by decide +kernel
theorem dX9_host_75 : decode cX9_host 75 = .ok (.iload 4, 2) := by decide +kernel
theorem dX9_host_77 : decode cX9_host 77 = .ok (.istore_n 2, 1) := by decide +kernel
theorem dX9_host_78 : decode cX9_host 78 = .ok (.iinc 4 1, 3) := by decide +kernel
theorem dX9_host_81 : decode cX9_host 81 = .ok (.goto (-46), 3) := by decide +kernel
theorem dX9_host_84 : decode cX9_host 84 = .ok (.iload_n 2, 1) := by decide +kernel
theorem dX9_host_85 : decode cX9_host 85 = .ok (.ireturn, 1) := by decide +kernel
theorem dX9_idle_0 : decode cX9_idle 0 = .ok (.aload_n 0, 1) := by decide +kernel
theorem dX9_idle_1 : decode cX9_idle 1 = .ok (.getfield 28, 3) := by decide +kernel
theorem dX9_idle_4 : decode cX9_idle 4 = .ok (.invokevirtual 148, 3) := by decide +kernel
theorem dX9_idle_7 : decode cX9_idle 7 = .ok (.ifCond .ne 6, 3) := by decide +kernel
theorem dX9_idle_10 : decode cX9_idle 10 = .ok (.bipush (-2), 2) := by decide +kernel
theorem dX9_idle_12 : decode cX9_idle 12 = .ok (.ireturn, 1) := by decide +kernel
theorem dX9_idle_13 : decode cX9_idle 13 = .ok (.iconst 0, 1) := by decide +kernel
theorem dX9_idle_14 : decode cX9_idle 14 = .ok (.istore_n 1, 1) := by decide +kernel
theorem dX9_idle_15 : decode cX9_idle 15 = .ok (.aload_n 0, 1) := by decide +kernel
theorem dX9_idle_16 : decode cX9_idle 16 = .ok (.getfield 48, 3) := by decide +kernel
theorem dX9_idle_19 : decode cX9_idle 19 = .ok (.aload_n 0, 1) := by decide +kernel
theorem dX9_idle_20 : decode cX9_idle 20 = .ok (.getfield 48, 3) := by decide +kernel
theorem dX9_idle_23 : decode cX9_idle 23 = .ok (.getfield 213, 3) := by decide +kernel
theorem dX9_idle_26 : decode cX9_idle 26 = .ok (.invokevirtual 236, 3) := by decide +kernel
theorem dX9_idle_29 : decode cX9_idle 29 = .ok (.istore_n 2, 1) := by decide +kernel
theorem dX9_idle_30 : decode cX9_idle 30 = .ok (.aload_n 0, 1) := by decide +kernel
theorem dX9_idle_31 : decode cX9_idle 31 = .ok (.getfield 28, 3) := by decide +kernel
theorem dX9_idle_34 : decode cX9_idle 34 = .ok (.invokevirtual 239, 3) := by decide +kernel
theorem dX9_idle_37 : decode cX9_idle 37 = .ok (.istore_n 3, 1) := by decide +kernel
theorem dX9_idle_38 : decode cX9_idle 38 = .ok (.iconst 0, 1) := by decide +kernel
theorem dX9_idle_39 : decode cX9_idle 39 = .ok (.istore 4, 2) := by decide +kernel
theorem dX9_idle_41 : decode cX9_idle 41 = .ok (.iload 4, 2) := by decide +kernel
theorem dX9_idle_43 : decode cX9_idle 43 = .ok (.aload_n 0, 1) := by decide +kernel
theorem dX9_idle_44 : decode cX9_idle 44 = .ok (.getfield 28, 3) := by decide +kernel
theorem dX9_idle_47 : decode cX9_idle 47 = .ok (.getfield 242, 3) := by decide +kernel
theorem dX9_idle_50 : decode cX9_idle 50 = .ok (.if_icmp .ge 38, 3) := by decide +kernel
theorem dX9_idle_53 : decode cX9_idle 53 = .ok (.aload_n 0, 1) := by decide +kernel
theorem dX9_idle_54 : decode cX9_idle 54 = .ok (.getfield 48, 3) := by decide +kernel
theorem dX9_idle_57 : decode cX9_idle 57 = .ok (.iload_n 3, 1) := by decide +kernel
theorem dX9_idle_58 : decode cX9_idle 58 = .ok (.aload_n 0, 1) := by decide +kernel
theorem dX9_idle_59 : decode cX9_idle 59 = .ok (.getfield 28, 3) := by decide +kernel
theorem dX9_idle_62 : decode cX9_idle 62 = .ok (.iload 4, 2) := by decide +kernel
theorem dX9_idle_64 : decode cX9_idle 64 = .ok (.invokevirtual 245, 3) := by decide +kernel
theorem dX9_idle_67 : decode cX9_idle 67 = .ok (.ior, 1) := by decide +kernel
theorem dX9_idle_68 : decode cX9_idle 68 = .ok (.invokevirtual 236, 3) := by decide +kernel
theorem dX9_idle_71 : decode cX9_idle 71 = .ok (.iload_n 2, 1) := by decide +kernel
theorem dX9_idle_72 : decode cX9_idle 72 = .ok (.if_icmp .ne 10, 3) := by decide +kernel
theorem dX9_idle_75 : decode cX9_idle 75 = .ok (.iload_n 1, 1) := by decide +kernel
theorem dX9_idle_76 : decode cX9_idle 76 = .ok (.iconst 1, 1) := by decide +kernel
theorem dX9_idle_77 : decode cX9_idle 77 = .ok (.iload 4, 2) := by decide +kernel
theorem dX9_idle_79 : decode cX9_idle 79 = .ok (.ishl, 1) := by decide +kernel
theorem dX9_idle_80 : decode cX9_idle 80 = .ok (.ior, 1) := by decide +kernel
theorem dX9_idle_81 : decode cX9_idle 81 = .ok (.istore_n 1, 1) := by decide +kernel
theorem dX9_idle_82 : decode cX9_idle 82 = .ok (.iinc 4 1, 3) := by decide +kernel
theorem dX9_idle_85 : decode cX9_idle 85 = .ok (.goto (-44), 3) := by decide +kernel
theorem dX9_idle_88 : decode cX9_idle 88 = .ok (.iload_n 1, 1) := by decide +kernel
theorem dX9_idle_89 : decode cX9_idle 89 = .ok (.ireturn, 1) := by decide +kernel
theorem dX9_best_0 : decode cX9_best 0 = .ok (.aload_n 0, 1) := by decide +kernel
theorem dX9_best_1 : decode cX9_best 1 = .ok (.getfield 28, 3) := by decide +kernel
theorem dX9_best_4 : decode cX9_best 4 = .ok (.invokevirtual 148, 3) := by decide +kernel
theorem dX9_best_7 : decode cX9_best 7 = .ok (.ifCond .ne 6, 3) := by decide +kernel
theorem dX9_best_10 : decode cX9_best 10 = .ok (.bipush (-2), 2) := by decide +kernel
theorem dX9_best_12 : decode cX9_best 12 = .ok (.ireturn, 1) := by decide +kernel
theorem dX9_best_13 : decode cX9_best 13 = .ok (.aload_n 0, 1) := by decide +kernel
theorem dX9_best_14 : decode cX9_best 14 = .ok (.getfield 58, 3) := by decide +kernel
theorem dX9_best_17 : decode cX9_best 17 = .ok (.aload_n 0, 1) := by decide +kernel
theorem dX9_best_18 : decode cX9_best 18 = .ok (.getfield 28, 3) := by decide +kernel
theorem dX9_best_21 : decode cX9_best 21 = .ok (.aload_n 0, 1) := by decide +kernel
theorem dX9_best_22 : decode cX9_best 22 = .ok (.getfield 48, 3) := by decide +kernel
theorem dX9_best_25 : decode cX9_best 25 = .ok (.invokevirtual 248, 3) := by decide +kernel
theorem dX9_best_28 : decode cX9_best 28 = .ok (.aload_n 0, 1) := by decide +kernel
theorem dX9_best_29 : decode cX9_best 29 = .ok (.getfield 58, 3) := by decide +kernel
theorem dX9_best_32 : decode cX9_best 32 = .ok (.invokevirtual 252, 3) := by decide +kernel
theorem dX9_best_35 : decode cX9_best 35 = .ok (.ireturn, 1) := by decide +kernel
theorem dX9_lay_0 : decode cX9_lay 0 = .ok (.aload_n 0, 1) := by decide +kernel
theorem dX9_lay_1 : decode cX9_lay 1 = .ok (.getfield 28, 3) := by decide +kernel
theorem dX9_lay_4 : decode cX9_lay 4 = .ok (.iload_n 1, 1) := by decide +kernel
theorem dX9_lay_5 : decode cX9_lay 5 = .ok (.invokevirtual 115, 3) := by decide +kernel
theorem dX9_lay_8 : decode cX9_lay 8 = .ok (.ifCond .ne 6, 3) := by decide +kernel
theorem dX9_lay_11 : decode cX9_lay 11 = .ok (.bipush (-2), 2) := by decide +kernel
theorem dX9_lay_13 : decode cX9_lay 13 = .ok (.ireturn, 1) := by decide +kernel
theorem dX9_lay_14 : decode cX9_lay 14 = .ok (.aload_n 0, 1) := by decide +kernel
theorem dX9_lay_15 : decode cX9_lay 15 = .ok (.getfield 58, 3) := by decide +kernel
theorem dX9_lay_18 : decode cX9_lay 18 = .ok (.aload_n 0, 1) := by decide +kernel
theorem dX9_lay_19 : decode cX9_lay 19 = .ok (.getfield 28, 3) := by decide +kernel
theorem dX9_lay_22 : decode cX9_lay 22 = .ok (.aload_n 0, 1) := by decide +kernel
theorem dX9_lay_23 : decode cX9_lay 23 = .ok (.getfield 48, 3) := by decide +kernel
theorem dX9_lay_26 : decode cX9_lay 26 = .ok (.invokevirtual 248, 3) := by decide +kernel
theorem dX9_lay_29 : decode cX9_lay 29 = .ok (.aload_n 0, 1) := by decide +kernel
theorem dX9_lay_30 : decode cX9_lay 30 = .ok (.getfield 58, 3) := by decide +kernel
theorem dX9_lay_33 : decode cX9_lay 33 = .ok (.aload_n 0, 1) := by decide +kernel
theorem dX9_lay_34 : decode cX9_lay 34 = .ok (.getfield 28, 3) := by decide +kernel
theorem dX9_lay_37 : decode cX9_lay 37 = .ok (.iload_n 1, 1) := by decide +kernel
theorem dX9_lay_38 : decode cX9_lay 38 = .ok (.invokevirtual 255, 3) := by decide +kernel
theorem dX9_lay_41 : decode cX9_lay 41 = .ok (.ireturn, 1) := by decide +kernel
theorem dX9_ways_0 : decode cX9_ways 0 = .ok (.aload_n 0, 1) := by decide +kernel
theorem dX9_ways_1 : decode cX9_ways 1 = .ok (.getfield 28, 3) := by decide +kernel
theorem dX9_ways_4 : decode cX9_ways 4 = .ok (.invokevirtual 148, 3) := by decide +kernel
theorem dX9_ways_7 : decode cX9_ways 7 = .ok (.ifCond .ne 6, 3) := by decide +kernel
theorem dX9_ways_10 : decode cX9_ways 10 = .ok (.bipush (-2), 2) := by decide +kernel
theorem dX9_ways_12 : decode cX9_ways 12 = .ok (.ireturn, 1) := by decide +kernel
theorem dX9_ways_13 : decode cX9_ways 13 = .ok (.aload_n 0, 1) := by decide +kernel
theorem dX9_ways_14 : decode cX9_ways 14 = .ok (.getfield 58, 3) := by decide +kernel
theorem dX9_ways_17 : decode cX9_ways 17 = .ok (.aload_n 0, 1) := by decide +kernel
theorem dX9_ways_18 : decode cX9_ways 18 = .ok (.getfield 28, 3) := by decide +kernel
theorem dX9_ways_21 : decode cX9_ways 21 = .ok (.aload_n 0, 1) := by decide +kernel
theorem dX9_ways_22 : decode cX9_ways 22 = .ok (.getfield 48, 3) := by decide +kernel
theorem dX9_ways_25 : decode cX9_ways 25 = .ok (.invokevirtual 248, 3) := by decide +kernel
theorem dX9_ways_28 : decode cX9_ways 28 = .ok (.aload_n 0, 1) := by decide +kernel
theorem dX9_ways_29 : decode cX9_ways 29 = .ok (.getfield 58, 3) := by decide +kernel
theorem dX9_ways_32 : decode cX9_ways 32 = .ok (.invokevirtual 258, 3) := by decide +kernel
theorem dX9_ways_35 : decode cX9_ways 35 = .ok (.ireturn, 1) := by decide +kernel
theorem dX9_fills_0 : decode cX9_fills 0 = .ok (.aload_n 0, 1) := by decide +kernel
theorem dX9_fills_1 : decode cX9_fills 1 = .ok (.getfield 28, 3) := by decide +kernel
theorem dX9_fills_4 : decode cX9_fills 4 = .ok (.invokevirtual 148, 3) := by decide +kernel
theorem dX9_fills_7 : decode cX9_fills 7 = .ok (.ifCond .eq 16, 3) := by decide +kernel
theorem dX9_fills_10 : decode cX9_fills 10 = .ok (.aload_n 0, 1) := by decide +kernel
theorem dX9_fills_11 : decode cX9_fills 11 = .ok (.getfield 48, 3) := by decide +kernel
theorem dX9_fills_14 : decode cX9_fills 14 = .ok (.invokevirtual 261, 3) := by decide +kernel
theorem dX9_fills_17 : decode cX9_fills 17 = .ok (.invokestatic 228, 3) := by decide +kernel
theorem dX9_fills_20 : decode cX9_fills 20 = .ok (.goto 5, 3) := by decide +kernel
theorem dX9_fills_23 : decode cX9_fills 23 = .ok (.bipush (-2), 2) := by decide +kernel
theorem dX9_fills_25 : decode cX9_fills 25 = .ok (.ireturn, 1) := by decide +kernel
theorem dX9_filled_0 : decode cX9_filled 0 = .ok (.aload_n 0, 1) := by decide +kernel
theorem dX9_filled_1 : decode cX9_filled 1 = .ok (.getfield 28, 3) := by decide +kernel
theorem dX9_filled_4 : decode cX9_filled 4 = .ok (.invokevirtual 148, 3) := by decide +kernel
theorem dX9_filled_7 : decode cX9_filled 7 = .ok (.ifCond .eq 13, 3) := by decide +kernel
theorem dX9_filled_10 : decode cX9_filled 10 = .ok (.aload_n 0, 1) := by decide +kernel
theorem dX9_filled_11 : decode cX9_filled 11 = .ok (.getfield 48, 3) := by decide +kernel
theorem dX9_filled_14 : decode cX9_filled 14 = .ok (.invokevirtual 261, 3) := by decide +kernel
theorem dX9_filled_17 : decode cX9_filled 17 = .ok (.goto 5, 3) := by decide +kernel
theorem dX9_filled_20 : decode cX9_filled 20 = .ok (.bipush (-2), 2) := by decide +kernel
theorem dX9_filled_22 : decode cX9_filled 22 = .ok (.ireturn, 1) := by decide +kernel
theorem dX9_path_0 : decode cX9_path 0 = .ok (.aload_n 0, 1) := by decide +kernel
theorem dX9_path_1 : decode cX9_path 1 = .ok (.getfield 28, 3) := by decide +kernel
theorem dX9_path_4 : decode cX9_path 4 = .ok (.invokevirtual 148, 3) := by decide +kernel
theorem dX9_path_7 : decode cX9_path 7 = .ok (.ifCond .ne 6, 3) := by decide +kernel
theorem dX9_path_10 : decode cX9_path 10 = .ok (.bipush (-2), 2) := by decide +kernel
theorem dX9_path_12 : decode cX9_path 12 = .ok (.ireturn, 1) := by decide +kernel
theorem dX9_path_13 : decode cX9_path 13 = .ok (.iconst (-1), 1) := by decide +kernel
theorem dX9_path_14 : decode cX9_path 14 = .ok (.istore_n 1, 1) := by decide +kernel
theorem dX9_path_15 : decode cX9_path 15 = .ok (.aload_n 0, 1) := by decide +kernel
theorem dX9_path_16 : decode cX9_path 16 = .ok (.getfield 48, 3) := by decide +kernel
theorem dX9_path_19 : decode cX9_path 19 = .ok (.aload_n 0, 1) := by decide +kernel
theorem dX9_path_20 : decode cX9_path 20 = .ok (.getfield 48, 3) := by decide +kernel
theorem dX9_path_23 : decode cX9_path 23 = .ok (.getfield 213, 3) := by decide +kernel
theorem dX9_path_26 : decode cX9_path 26 = .ok (.invokevirtual 236, 3) := by decide +kernel
theorem dX9_path_29 : decode cX9_path 29 = .ok (.istore_n 2, 1) := by decide +kernel
theorem dX9_path_30 : decode cX9_path 30 = .ok (.iconst 0, 1) := by decide +kernel
theorem dX9_path_31 : decode cX9_path 31 = .ok (.istore_n 3, 1) := by decide +kernel
theorem dX9_path_32 : decode cX9_path 32 = .ok (.iload_n 3, 1) := by decide +kernel
theorem dX9_path_33 : decode cX9_path 33 = .ok (.aload_n 0, 1) := by decide +kernel
theorem dX9_path_34 : decode cX9_path 34 = .ok (.getfield 28, 3) := by decide +kernel
theorem dX9_path_37 : decode cX9_path 37 = .ok (.getfield 175, 3) := by decide +kernel
theorem dX9_path_40 : decode cX9_path 40 = .ok (.if_icmp .ge 40, 3) := by decide +kernel
theorem dX9_path_43 : decode cX9_path 43 = .ok (.aload_n 0, 1) := by decide +kernel
theorem dX9_path_44 : decode cX9_path 44 = .ok (.getfield 48, 3) := by decide +kernel
theorem dX9_path_47 : decode cX9_path 47 = .ok (.aload_n 0, 1) := by decide +kernel
theorem dX9_path_48 : decode cX9_path 48 = .ok (.getfield 48, 3) := by decide +kernel
theorem dX9_path_51 : decode cX9_path 51 = .ok (.getfield 213, 3) := by decide +kernel
theorem dX9_path_54 : decode cX9_path 54 = .ok (.iconst 1, 1) := by decide +kernel
theorem dX9_path_55 : decode cX9_path 55 = .ok (.iload_n 3, 1) := by decide +kernel
theorem dX9_path_56 : decode cX9_path 56 = .ok (.ishl, 1) := by decide +kernel
theorem dX9_path_57 : decode cX9_path 57 = .ok (.ior, 1) := by decide +kernel
theorem dX9_path_58 : decode cX9_path 58 = .ok (.invokevirtual 236, 3) := by decide +kernel
theorem dX9_path_61 : decode cX9_path 61 = .ok (.istore 4, 2) := by decide +kernel
theorem dX9_path_63 : decode cX9_path 63 = .ok (.iload 4, 2) := by decide +kernel
theorem dX9_path_65 : decode cX9_path 65 = .ok (.iload_n 2, 1) := by decide +kernel
theorem dX9_path_66 : decode cX9_path 66 = .ok (.if_icmp .le 8, 3) := by decide +kernel
theorem dX9_path_69 : decode cX9_path 69 = .ok (.iload 4, 2) := by decide +kernel
theorem dX9_path_71 : decode cX9_path 71 = .ok (.istore_n 2, 1) := by decide +kernel
theorem dX9_path_72 : decode cX9_path 72 = .ok (.iload_n 3, 1) := by decide +kernel
theorem dX9_path_73 : decode cX9_path 73 = .ok (.istore_n 1, 1) := by decide +kernel
theorem dX9_path_74 : decode cX9_path 74 = .ok (.iinc 3 1, 3) := by decide +kernel
theorem dX9_path_77 : decode cX9_path 77 = .ok (.goto (-45), 3) := by decide +kernel
theorem dX9_path_80 : decode cX9_path 80 = .ok (.iload_n 1, 1) := by decide +kernel
theorem dX9_path_81 : decode cX9_path 81 = .ok (.ireturn, 1) := by decide +kernel
theorem dX9_drain_0 : decode cX9_drain 0 = .ok (.aload_n 0, 1) := by decide +kernel
theorem dX9_drain_1 : decode cX9_drain 1 = .ok (.getfield 28, 3) := by decide +kernel
theorem dX9_drain_4 : decode cX9_drain 4 = .ok (.iload_n 1, 1) := by decide +kernel
theorem dX9_drain_5 : decode cX9_drain 5 = .ok (.invokevirtual 98, 3) := by decide +kernel
theorem dX9_drain_8 : decode cX9_drain 8 = .ok (.ifCond .ne 6, 3) := by decide +kernel
theorem dX9_drain_11 : decode cX9_drain 11 = .ok (.bipush (-2), 2) := by decide +kernel
theorem dX9_drain_13 : decode cX9_drain 13 = .ok (.ireturn, 1) := by decide +kernel
theorem dX9_drain_14 : decode cX9_drain 14 = .ok (.aload_n 0, 1) := by decide +kernel
theorem dX9_drain_15 : decode cX9_drain 15 = .ok (.getfield 52, 3) := by decide +kernel
theorem dX9_drain_18 : decode cX9_drain 18 = .ok (.aload_n 0, 1) := by decide +kernel
theorem dX9_drain_19 : decode cX9_drain 19 = .ok (.getfield 28, 3) := by decide +kernel
theorem dX9_drain_22 : decode cX9_drain 22 = .ok (.invokevirtual 264, 3) := by decide +kernel
theorem dX9_drain_25 : decode cX9_drain 25 = .ok (.iconst 0, 1) := by decide +kernel
theorem dX9_drain_26 : decode cX9_drain 26 = .ok (.istore_n 2, 1) := by decide +kernel
theorem dX9_drain_27 : decode cX9_drain 27 = .ok (.iconst (-1), 1) := by decide +kernel
theorem dX9_drain_28 : decode cX9_drain 28 = .ok (.istore_n 3, 1) := by decide +kernel
theorem dX9_drain_29 : decode cX9_drain 29 = .ok (.iconst 0, 1) := by decide +kernel
theorem dX9_drain_30 : decode cX9_drain 30 = .ok (.istore 4, 2) := by decide +kernel
theorem dX9_drain_32 : decode cX9_drain 32 = .ok (.iload 4, 2) := by decide +kernel
theorem dX9_drain_34 : decode cX9_drain 34 = .ok (.bipush 20, 2) := by decide +kernel
theorem dX9_drain_36 : decode cX9_drain 36 = .ok (.if_icmp .gt 55, 3) := by decide +kernel
theorem dX9_drain_39 : decode cX9_drain 39 = .ok (.aload_n 0, 1) := by decide +kernel
theorem dX9_drain_40 : decode cX9_drain 40 = .ok (.getfield 52, 3) := by decide +kernel
theorem dX9_drain_43 : decode cX9_drain 43 = .ok (.getfield 267, 3) := by decide +kernel
theorem dX9_drain_46 : decode cX9_drain 46 = .ok (.iload_n 1, 1) := by decide +kernel
theorem dX9_drain_47 : decode cX9_drain 47 = .ok (.iload 4, 2) := by decide +kernel
theorem dX9_drain_49 : decode cX9_drain 49 = .ok (.iastore, 1) := by decide +kernel
theorem dX9_drain_50 : decode cX9_drain 50 = .ok (.aload_n 0, 1) := by decide +kernel
theorem dX9_drain_51 : decode cX9_drain 51 = .ok (.getfield 52, 3) := by decide +kernel
theorem dX9_drain_54 : decode cX9_drain 54 = .ok (.invokevirtual 268, 3) := by decide +kernel
theorem dX9_drain_57 : decode cX9_drain 57 = .ok (.aload_n 0, 1) := by decide +kernel
theorem dX9_drain_58 : decode cX9_drain 58 = .ok (.getfield 52, 3) := by decide +kernel
theorem dX9_drain_61 : decode cX9_drain 61 = .ok (.aload_n 0, 1) := by decide +kernel
theorem dX9_drain_62 : decode cX9_drain 62 = .ok (.getfield 52, 3) := by decide +kernel
theorem dX9_drain_65 : decode cX9_drain 65 = .ok (.getfield 213, 3) := by decide +kernel
theorem dX9_drain_68 : decode cX9_drain 68 = .ok (.invokevirtual 236, 3) := by decide +kernel
theorem dX9_drain_71 : decode cX9_drain 71 = .ok (.istore 5, 2) := by decide +kernel
theorem dX9_drain_73 : decode cX9_drain 73 = .ok (.iload 5, 2) := by decide +kernel
theorem dX9_drain_75 : decode cX9_drain 75 = .ok (.iload_n 3, 1) := by decide +kernel
theorem dX9_drain_76 : decode cX9_drain 76 = .ok (.if_icmp .le 9, 3) := by decide +kernel
theorem dX9_drain_79 : decode cX9_drain 79 = .ok (.iload 5, 2) := by decide +kernel
theorem dX9_drain_81 : decode cX9_drain 81 = .ok (.istore_n 3, 1) := by decide +kernel
theorem dX9_drain_82 : decode cX9_drain 82 = .ok (.iload 4, 2) := by decide +kernel
theorem dX9_drain_84 : decode cX9_drain 84 = .ok (.istore_n 2, 1) := by decide +kernel
theorem dX9_drain_85 : decode cX9_drain 85 = .ok (.iinc 4 1, 3) := by decide +kernel
theorem dX9_drain_88 : decode cX9_drain 88 = .ok (.goto (-56), 3) := by decide +kernel
theorem dX9_drain_91 : decode cX9_drain 91 = .ok (.iload_n 2, 1) := by decide +kernel
theorem dX9_drain_92 : decode cX9_drain 92 = .ok (.ireturn, 1) := by decide +kernel
theorem dX9_learns_0 : decode cX9_learns 0 = .ok (.aload_n 0, 1) := by decide +kernel
theorem dX9_learns_1 : decode cX9_learns 1 = .ok (.getfield 28, 3) := by decide +kernel
theorem dX9_learns_4 : decode cX9_learns 4 = .ok (.iload_n 1, 1) := by decide +kernel
theorem dX9_learns_5 : decode cX9_learns 5 = .ok (.invokevirtual 98, 3) := by decide +kernel
theorem dX9_learns_8 : decode cX9_learns 8 = .ok (.ifCond .ne 6, 3) := by decide +kernel
theorem dX9_learns_11 : decode cX9_learns 11 = .ok (.bipush (-2), 2) := by decide +kernel
theorem dX9_learns_13 : decode cX9_learns 13 = .ok (.ireturn, 1) := by decide +kernel
theorem dX9_learns_14 : decode cX9_learns 14 = .ok (.iconst 0, 1) := by decide +kernel
theorem dX9_learns_15 : decode cX9_learns 15 = .ok (.istore_n 2, 1) := by decide +kernel
theorem dX9_learns_16 : decode cX9_learns 16 = .ok (.iconst 0, 1) := by decide +kernel
theorem dX9_learns_17 : decode cX9_learns 17 = .ok (.istore_n 3, 1) := by decide +kernel
theorem dX9_learns_18 : decode cX9_learns 18 = .ok (.iload_n 3, 1) := by decide +kernel
theorem dX9_learns_19 : decode cX9_learns 19 = .ok (.aload_n 0, 1) := by decide +kernel
theorem dX9_learns_20 : decode cX9_learns 20 = .ok (.getfield 28, 3) := by decide +kernel
theorem dX9_learns_23 : decode cX9_learns 23 = .ok (.getfield 124, 3) := by decide +kernel
theorem dX9_learns_26 : decode cX9_learns 26 = .ok (.getfield 271, 3) := by decide +kernel
theorem dX9_learns_29 : decode cX9_learns 29 = .ok (.if_icmp .ge 38, 3) := by decide +kernel
theorem dX9_learns_32 : decode cX9_learns 32 = .ok (.aload_n 0, 1) := by decide +kernel
theorem dX9_learns_33 : decode cX9_learns 33 = .ok (.getfield 28, 3) := by decide +kernel
theorem dX9_learns_36 : decode cX9_learns 36 = .ok (.getfield 124, 3) := by decide +kernel
theorem dX9_learns_39 : decode cX9_learns 39 = .ok (.getfield 133, 3) := by decide +kernel
theorem dX9_learns_42 : decode cX9_learns 42 = .ok (.iload_n 3, 1) := by decide +kernel
theorem dX9_learns_43 : decode cX9_learns 43 = .ok (.iaload, 1) := by decide +kernel
theorem dX9_learns_44 : decode cX9_learns 44 = .ok (.iload_n 1, 1) := by decide +kernel
theorem dX9_learns_45 : decode cX9_learns 45 = .ok (.if_icmp .ne 16, 3) := by decide +kernel
theorem dX9_learns_48 : decode cX9_learns 48 = .ok (.iload_n 2, 1) := by decide +kernel
theorem dX9_learns_49 : decode cX9_learns 49 = .ok (.aload_n 0, 1) := by decide +kernel
theorem dX9_learns_50 : decode cX9_learns 50 = .ok (.getfield 48, 3) := by decide +kernel
theorem dX9_learns_53 : decode cX9_learns 53 = .ok (.iload_n 3, 1) := by decide +kernel
theorem dX9_learns_54 : decode cX9_learns 54 = .ok (.invokevirtual 272, 3) := by decide +kernel
theorem dX9_learns_57 : decode cX9_learns 57 = .ok (.invokestatic 181, 3) := by decide +kernel
theorem dX9_learns_60 : decode cX9_learns 60 = .ok (.istore_n 2, 1) := by decide +kernel
theorem dX9_learns_61 : decode cX9_learns 61 = .ok (.iinc 3 1, 3) := by decide +kernel
theorem dX9_learns_64 : decode cX9_learns 64 = .ok (.goto (-46), 3) := by decide +kernel
theorem dX9_learns_67 : decode cX9_learns 67 = .ok (.iload_n 2, 1) := by decide +kernel
theorem dX9_learns_68 : decode cX9_learns 68 = .ok (.ireturn, 1) := by decide +kernel
theorem dX9_by_0 : decode cX9_by 0 = .ok (.aload_n 0, 1) := by decide +kernel
theorem dX9_by_1 : decode cX9_by 1 = .ok (.getfield 28, 3) := by decide +kernel
theorem dX9_by_4 : decode cX9_by 4 = .ok (.invokevirtual 148, 3) := by decide +kernel
theorem dX9_by_7 : decode cX9_by 7 = .ok (.ifCond .eq 12, 3) := by decide +kernel
theorem dX9_by_10 : decode cX9_by 10 = .ok (.iload_n 1, 1) := by decide +kernel
theorem dX9_by_11 : decode cX9_by 11 = .ok (.ifCond .lt 8, 3) := by decide +kernel
theorem dX9_by_14 : decode cX9_by 14 = .ok (.iload_n 1, 1) := by decide +kernel
theorem dX9_by_15 : decode cX9_by 15 = .ok (.iconst 4, 1) := by decide +kernel
theorem dX9_by_16 : decode cX9_by 16 = .ok (.if_icmp .lt 6, 3) := by decide +kernel
theorem dX9_by_19 : decode cX9_by 19 = .ok (.bipush (-2), 2) := by decide +kernel
theorem dX9_by_21 : decode cX9_by 21 = .ok (.ireturn, 1) := by decide +kernel
theorem dX9_by_22 : decode cX9_by 22 = .ok (.aload_n 0, 1) := by decide +kernel
theorem dX9_by_23 : decode cX9_by 23 = .ok (.iload_n 1, 1) := by decide +kernel
theorem dX9_by_24 : decode cX9_by 24 = .ok (.invokevirtual 275, 3) := by decide +kernel
theorem dX9_by_27 : decode cX9_by 27 = .ok (.ireturn, 1) := by decide +kernel
theorem dX9_law_0 : decode cX9_law 0 = .ok (.aload_n 0, 1) := by decide +kernel
theorem dX9_law_1 : decode cX9_law 1 = .ok (.getfield 28, 3) := by decide +kernel
theorem dX9_law_4 : decode cX9_law 4 = .ok (.invokevirtual 148, 3) := by decide +kernel
theorem dX9_law_7 : decode cX9_law 7 = .ok (.ifCond .ne 6, 3) := by decide +kernel
theorem dX9_law_10 : decode cX9_law 10 = .ok (.bipush (-2), 2) := by decide +kernel
theorem dX9_law_12 : decode cX9_law 12 = .ok (.ireturn, 1) := by decide +kernel
theorem dX9_law_13 : decode cX9_law 13 = .ok (.iconst 0, 1) := by decide +kernel
theorem dX9_law_14 : decode cX9_law 14 = .ok (.istore_n 1, 1) := by decide +kernel
theorem dX9_law_15 : decode cX9_law 15 = .ok (.iconst (-1), 1) := by decide +kernel
theorem dX9_law_16 : decode cX9_law 16 = .ok (.istore_n 2, 1) := by decide +kernel
theorem dX9_law_17 : decode cX9_law 17 = .ok (.iconst 0, 1) := by decide +kernel
theorem dX9_law_18 : decode cX9_law 18 = .ok (.istore_n 3, 1) := by decide +kernel
theorem dX9_law_19 : decode cX9_law 19 = .ok (.iload_n 3, 1) := by decide +kernel
theorem dX9_law_20 : decode cX9_law 20 = .ok (.iconst 4, 1) := by decide +kernel
theorem dX9_law_21 : decode cX9_law 21 = .ok (.if_icmp .ge 27, 3) := by decide +kernel
theorem dX9_law_24 : decode cX9_law 24 = .ok (.aload_n 0, 1) := by decide +kernel
theorem dX9_law_25 : decode cX9_law 25 = .ok (.iload_n 3, 1) := by decide +kernel
theorem dX9_law_26 : decode cX9_law 26 = .ok (.invokevirtual 275, 3) := by decide +kernel
theorem dX9_law_29 : decode cX9_law 29 = .ok (.istore 4, 2) := by decide +kernel
theorem dX9_law_31 : decode cX9_law 31 = .ok (.iload 4, 2) := by decide +kernel
theorem dX9_law_33 : decode cX9_law 33 = .ok (.iload_n 2, 1) := by decide +kernel
theorem dX9_law_34 : decode cX9_law 34 = .ok (.if_icmp .le 8, 3) := by decide +kernel
theorem dX9_law_37 : decode cX9_law 37 = .ok (.iload 4, 2) := by decide +kernel
theorem dX9_law_39 : decode cX9_law 39 = .ok (.istore_n 2, 1) := by decide +kernel
theorem dX9_law_40 : decode cX9_law 40 = .ok (.iload_n 3, 1) := by decide +kernel
theorem dX9_law_41 : decode cX9_law 41 = .ok (.istore_n 1, 1) := by decide +kernel
theorem dX9_law_42 : decode cX9_law 42 = .ok (.iinc 3 1, 3) := by decide +kernel
theorem dX9_law_45 : decode cX9_law 45 = .ok (.goto (-26), 3) := by decide +kernel
theorem dX9_law_48 : decode cX9_law 48 = .ok (.iload_n 1, 1) := by decide +kernel
theorem dX9_law_49 : decode cX9_law 49 = .ok (.ireturn, 1) := by decide +kernel
theorem dX9_waters_0 : decode cX9_waters 0 = .ok (.aload_n 0, 1) := by decide +kernel
theorem dX9_waters_1 : decode cX9_waters 1 = .ok (.iload_n 1, 1) := by decide +kernel
theorem dX9_waters_2 : decode cX9_waters 2 = .ok (.iload_n 2, 1) := by decide +kernel
theorem dX9_waters_3 : decode cX9_waters 3 = .ok (.invokevirtual 278, 3) := by decide +kernel
theorem dX9_waters_6 : decode cX9_waters 6 = .ok (.istore_n 3, 1) := by decide +kernel
theorem dX9_waters_7 : decode cX9_waters 7 = .ok (.iload_n 3, 1) := by decide +kernel
theorem dX9_waters_8 : decode cX9_waters 8 = .ok (.ifCond .ne 13, 3) := by decide +kernel
theorem dX9_waters_11 : decode cX9_waters 11 = .ok (.aload_n 0, 1) := by decide +kernel
theorem dX9_waters_12 : decode cX9_waters 12 = .ok (.getfield 65, 3) := by decide +kernel
theorem dX9_waters_15 : decode cX9_waters 15 = .ok (.getfield 281, 3) := by decide +kernel
theorem dX9_waters_18 : decode cX9_waters 18 = .ok (.goto 4, 3) := by decide +kernel
theorem dX9_waters_21 : decode cX9_waters 21 = .ok (.iload_n 3, 1) := by decide +kernel
theorem dX9_waters_22 : decode cX9_waters 22 = .ok (.ireturn, 1) := by decide +kernel
theorem dX9_least_0 : decode cX9_least 0 = .ok (.aload_n 0, 1) := by decide +kernel
theorem dX9_least_1 : decode cX9_least 1 = .ok (.iload_n 1, 1) := by decide +kernel
theorem dX9_least_2 : decode cX9_least 2 = .ok (.iload_n 2, 1) := by decide +kernel
theorem dX9_least_3 : decode cX9_least 3 = .ok (.invokevirtual 278, 3) := by decide +kernel
theorem dX9_least_6 : decode cX9_least 6 = .ok (.istore_n 3, 1) := by decide +kernel
theorem dX9_least_7 : decode cX9_least 7 = .ok (.iload_n 3, 1) := by decide +kernel
theorem dX9_least_8 : decode cX9_least 8 = .ok (.ifCond .ne 13, 3) := by decide +kernel
theorem dX9_least_11 : decode cX9_least 11 = .ok (.aload_n 0, 1) := by decide +kernel
theorem dX9_least_12 : decode cX9_least 12 = .ok (.getfield 65, 3) := by decide +kernel
theorem dX9_least_15 : decode cX9_least 15 = .ok (.getfield 282, 3) := by decide +kernel
theorem dX9_least_18 : decode cX9_least 18 = .ok (.goto 4, 3) := by decide +kernel
theorem dX9_least_21 : decode cX9_least 21 = .ok (.iload_n 3, 1) := by decide +kernel
theorem dX9_least_22 : decode cX9_least 22 = .ok (.ireturn, 1) := by decide +kernel
theorem dX9_greatest_0 : decode cX9_greatest 0 = .ok (.aload_n 0, 1) := by decide +kernel
theorem dX9_greatest_1 : decode cX9_greatest 1 = .ok (.iload_n 1, 1) := by decide +kernel
theorem dX9_greatest_2 : decode cX9_greatest 2 = .ok (.iload_n 2, 1) := by decide +kernel
theorem dX9_greatest_3 : decode cX9_greatest 3 = .ok (.invokevirtual 278, 3) := by decide +kernel
theorem dX9_greatest_6 : decode cX9_greatest 6 = .ok (.istore_n 3, 1) := by decide +kernel
theorem dX9_greatest_7 : decode cX9_greatest 7 = .ok (.iload_n 3, 1) := by decide +kernel
theorem dX9_greatest_8 : decode cX9_greatest 8 = .ok (.ifCond .ne 13, 3) := by decide +kernel
theorem dX9_greatest_11 : decode cX9_greatest 11 = .ok (.aload_n 0, 1) := by decide +kernel
theorem dX9_greatest_12 : decode cX9_greatest 12 = .ok (.getfield 65, 3) := by decide +kernel
theorem dX9_greatest_15 : decode cX9_greatest 15 = .ok (.getfield 285, 3) := by decide +kernel
theorem dX9_greatest_18 : decode cX9_greatest 18 = .ok (.goto 4, 3) := by decide +kernel
theorem dX9_greatest_21 : decode cX9_greatest 21 = .ok (.iload_n 3, 1) := by decide +kernel
theorem dX9_greatest_22 : decode cX9_greatest 22 = .ok (.ireturn, 1) := by decide +kernel
theorem dX9_ask_0 : decode cX9_ask 0 = .ok (.aload_n 0, 1) := by decide +kernel
theorem dX9_ask_1 : decode cX9_ask 1 = .ok (.iload_n 1, 1) := by decide +kernel
theorem dX9_ask_2 : decode cX9_ask 2 = .ok (.iload_n 2, 1) := by decide +kernel
theorem dX9_ask_3 : decode cX9_ask 3 = .ok (.invokevirtual 278, 3) := by decide +kernel
theorem dX9_ask_6 : decode cX9_ask 6 = .ok (.istore_n 3, 1) := by decide +kernel
theorem dX9_ask_7 : decode cX9_ask 7 = .ok (.iload_n 3, 1) := by decide +kernel
theorem dX9_ask_8 : decode cX9_ask 8 = .ok (.ifCond .ne 20, 3) := by decide +kernel
theorem dX9_ask_11 : decode cX9_ask 11 = .ok (.aload_n 0, 1) := by decide +kernel
theorem dX9_ask_12 : decode cX9_ask 12 = .ok (.getfield 65, 3) := by decide +kernel
theorem dX9_ask_15 : decode cX9_ask 15 = .ok (.aload_n 0, 1) := by decide +kernel
theorem dX9_ask_16 : decode cX9_ask 16 = .ok (.getfield 28, 3) := by decide +kernel
theorem dX9_ask_19 : decode cX9_ask 19 = .ok (.getfield 178, 3) := by decide +kernel
theorem dX9_ask_22 : decode cX9_ask 22 = .ok (.invokevirtual 288, 3) := by decide +kernel
theorem dX9_ask_25 : decode cX9_ask 25 = .ok (.goto 4, 3) := by decide +kernel
theorem dX9_ask_28 : decode cX9_ask 28 = .ok (.iload_n 3, 1) := by decide +kernel
theorem dX9_ask_29 : decode cX9_ask 29 = .ok (.ireturn, 1) := by decide +kernel
theorem dX9_leaves_0 : decode cX9_leaves 0 = .ok (.aload_n 0, 1) := by decide +kernel
theorem dX9_leaves_1 : decode cX9_leaves 1 = .ok (.iload_n 1, 1) := by decide +kernel
theorem dX9_leaves_2 : decode cX9_leaves 2 = .ok (.iload_n 2, 1) := by decide +kernel
theorem dX9_leaves_3 : decode cX9_leaves 3 = .ok (.invokevirtual 278, 3) := by decide +kernel
theorem dX9_leaves_6 : decode cX9_leaves 6 = .ok (.istore_n 3, 1) := by decide +kernel
theorem dX9_leaves_7 : decode cX9_leaves 7 = .ok (.iload_n 3, 1) := by decide +kernel
theorem dX9_leaves_8 : decode cX9_leaves 8 = .ok (.ifCond .eq 5, 3) := by decide +kernel
theorem dX9_leaves_11 : decode cX9_leaves 11 = .ok (.iload_n 3, 1) := by decide +kernel
theorem dX9_leaves_12 : decode cX9_leaves 12 = .ok (.ireturn, 1) := by decide +kernel
theorem dX9_leaves_13 : decode cX9_leaves 13 = .ok (.aload_n 0, 1) := by decide +kernel
theorem dX9_leaves_14 : decode cX9_leaves 14 = .ok (.getfield 65, 3) := by decide +kernel
theorem dX9_leaves_17 : decode cX9_leaves 17 = .ok (.aload_n 0, 1) := by decide +kernel
theorem dX9_leaves_18 : decode cX9_leaves 18 = .ok (.getfield 28, 3) := by decide +kernel
theorem dX9_leaves_21 : decode cX9_leaves 21 = .ok (.getfield 178, 3) := by decide +kernel
theorem dX9_leaves_24 : decode cX9_leaves 24 = .ok (.invokevirtual 288, 3) := by decide +kernel
theorem dX9_leaves_27 : decode cX9_leaves 27 = .ok (.istore 4, 2) := by decide +kernel
theorem dX9_leaves_29 : decode cX9_leaves 29 = .ok (.iload 4, 2) := by decide +kernel
theorem dX9_leaves_31 : decode cX9_leaves 31 = .ok (.iconst (-1), 1) := by decide +kernel
theorem dX9_leaves_32 : decode cX9_leaves 32 = .ok (.if_icmp .ne 13, 3) := by decide +kernel
theorem dX9_leaves_35 : decode cX9_leaves 35 = .ok (.aload_n 0, 1) := by decide +kernel
theorem dX9_leaves_36 : decode cX9_leaves 36 = .ok (.getfield 65, 3) := by decide +kernel
theorem dX9_leaves_39 : decode cX9_leaves 39 = .ok (.getfield 281, 3) := by decide +kernel
theorem dX9_leaves_42 : decode cX9_leaves 42 = .ok (.goto 12, 3) := by decide +kernel
theorem dX9_leaves_45 : decode cX9_leaves 45 = .ok (.aload_n 0, 1) := by decide +kernel
theorem dX9_leaves_46 : decode cX9_leaves 46 = .ok (.getfield 65, 3) := by decide +kernel
theorem dX9_leaves_49 : decode cX9_leaves 49 = .ok (.iload 4, 2) := by decide +kernel
theorem dX9_leaves_51 : decode cX9_leaves 51 = .ok (.invokevirtual 291, 3) := by decide +kernel
theorem dX9_leaves_54 : decode cX9_leaves 54 = .ok (.ireturn, 1) := by decide +kernel
theorem dX9_laws_0 : decode cX9_laws 0 = .ok (.aload_n 0, 1) := by decide +kernel
theorem dX9_laws_1 : decode cX9_laws 1 = .ok (.iload_n 1, 1) := by decide +kernel
theorem dX9_laws_2 : decode cX9_laws 2 = .ok (.aload_n 0, 1) := by decide +kernel
theorem dX9_laws_3 : decode cX9_laws 3 = .ok (.getfield 28, 3) := by decide +kernel
theorem dX9_laws_6 : decode cX9_laws 6 = .ok (.invokevirtual 148, 3) := by decide +kernel
theorem dX9_laws_9 : decode cX9_laws 9 = .ok (.invokevirtual 294, 3) := by decide +kernel
theorem dX9_laws_12 : decode cX9_laws 12 = .ok (.istore_n 2, 1) := by decide +kernel
theorem dX9_laws_13 : decode cX9_laws 13 = .ok (.iload_n 2, 1) := by decide +kernel
theorem dX9_laws_14 : decode cX9_laws 14 = .ok (.ifCond .eq 5, 3) := by decide +kernel
theorem dX9_laws_17 : decode cX9_laws 17 = .ok (.iload_n 2, 1) := by decide +kernel
theorem dX9_laws_18 : decode cX9_laws 18 = .ok (.ireturn, 1) := by decide +kernel
theorem dX9_laws_19 : decode cX9_laws 19 = .ok (.iconst 0, 1) := by decide +kernel
theorem dX9_laws_20 : decode cX9_laws 20 = .ok (.istore_n 3, 1) := by decide +kernel
theorem dX9_laws_21 : decode cX9_laws 21 = .ok (.iconst 0, 1) := by decide +kernel
theorem dX9_laws_22 : decode cX9_laws 22 = .ok (.istore 4, 2) := by decide +kernel
theorem dX9_laws_24 : decode cX9_laws 24 = .ok (.iload 4, 2) := by decide +kernel
theorem dX9_laws_26 : decode cX9_laws 26 = .ok (.iconst 4, 1) := by decide +kernel
theorem dX9_laws_27 : decode cX9_laws 27 = .ok (.if_icmp .ge 66, 3) := by decide +kernel
theorem dX9_laws_30 : decode cX9_laws 30 = .ok (.aload_n 0, 1) := by decide +kernel
theorem dX9_laws_31 : decode cX9_laws 31 = .ok (.getfield 52, 3) := by decide +kernel
theorem dX9_laws_34 : decode cX9_laws 34 = .ok (.aload_n 0, 1) := by decide +kernel
theorem dX9_laws_35 : decode cX9_laws 35 = .ok (.getfield 28, 3) := by decide +kernel
theorem dX9_laws_38 : decode cX9_laws 38 = .ok (.invokevirtual 264, 3) := by decide +kernel
theorem dX9_laws_41 : decode cX9_laws 41 = .ok (.aload_n 0, 1) := by decide +kernel
theorem dX9_laws_42 : decode cX9_laws 42 = .ok (.getfield 52, 3) := by decide +kernel
theorem dX9_laws_45 : decode cX9_laws 45 = .ok (.iload 4, 2) := by decide +kernel
theorem dX9_laws_47 : decode cX9_laws 47 = .ok (.putfield 298, 3) := by decide +kernel
theorem dX9_laws_50 : decode cX9_laws 50 = .ok (.aload_n 0, 1) := by decide +kernel
theorem dX9_laws_51 : decode cX9_laws 51 = .ok (.getfield 52, 3) := by decide +kernel
theorem dX9_laws_54 : decode cX9_laws 54 = .ok (.aload_n 0, 1) := by decide +kernel
theorem dX9_laws_55 : decode cX9_laws 55 = .ok (.getfield 28, 3) := by decide +kernel
theorem dX9_laws_58 : decode cX9_laws 58 = .ok (.getfield 178, 3) := by decide +kernel
theorem dX9_laws_61 : decode cX9_laws 61 = .ok (.invokevirtual 301, 3) := by decide +kernel
theorem dX9_laws_64 : decode cX9_laws 64 = .ok (.aload_n 0, 1) := by decide +kernel
theorem dX9_laws_65 : decode cX9_laws 65 = .ok (.getfield 71, 3) := by decide +kernel
theorem dX9_laws_68 : decode cX9_laws 68 = .ok (.iload_n 1, 1) := by decide +kernel
theorem dX9_laws_69 : decode cX9_laws 69 = .ok (.aaload, 1) := by decide +kernel
theorem dX9_laws_70 : decode cX9_laws 70 = .ok (.aload_n 0, 1) := by decide +kernel
theorem dX9_laws_71 : decode cX9_laws 71 = .ok (.getfield 52, 3) := by decide +kernel
theorem dX9_laws_74 : decode cX9_laws 74 = .ok (.invokevirtual 304, 3) := by decide +kernel
theorem dX9_laws_77 : decode cX9_laws 77 = .ok (.ifCond .eq 10, 3) := by decide +kernel
theorem dX9_laws_80 : decode cX9_laws 80 = .ok (.iload_n 3, 1) := by decide +kernel
theorem dX9_laws_81 : decode cX9_laws 81 = .ok (.iconst 1, 1) := by decide +kernel
theorem dX9_laws_82 : decode cX9_laws 82 = .ok (.iload 4, 2) := by decide +kernel
theorem dX9_laws_84 : decode cX9_laws 84 = .ok (.ishl, 1) := by decide +kernel
theorem dX9_laws_85 : decode cX9_laws 85 = .ok (.ior, 1) := by decide +kernel
theorem dX9_laws_86 : decode cX9_laws 86 = .ok (.istore_n 3, 1) := by decide +kernel
theorem dX9_laws_87 : decode cX9_laws 87 = .ok (.iinc 4 1, 3) := by decide +kernel
theorem dX9_laws_90 : decode cX9_laws 90 = .ok (.goto (-66), 3) := by decide +kernel
theorem dX9_laws_93 : decode cX9_laws 93 = .ok (.iload_n 3, 1) := by decide +kernel
theorem dX9_laws_94 : decode cX9_laws 94 = .ok (.ireturn, 1) := by decide +kernel
theorem dX9_worth_0 : decode cX9_worth 0 = .ok (.aload_n 0, 1) := by decide +kernel
theorem dX9_worth_1 : decode cX9_worth 1 = .ok (.getfield 28, 3) := by decide +kernel
theorem dX9_worth_4 : decode cX9_worth 4 = .ok (.invokevirtual 148, 3) := by decide +kernel
theorem dX9_worth_7 : decode cX9_worth 7 = .ok (.ifCond .eq 17, 3) := by decide +kernel
theorem dX9_worth_10 : decode cX9_worth 10 = .ok (.iload_n 1, 1) := by decide +kernel
theorem dX9_worth_11 : decode cX9_worth 11 = .ok (.aload_n 0, 1) := by decide +kernel
theorem dX9_worth_12 : decode cX9_worth 12 = .ok (.getfield 28, 3) := by decide +kernel
theorem dX9_worth_15 : decode cX9_worth 15 = .ok (.invokevirtual 189, 3) := by decide +kernel
theorem dX9_worth_18 : decode cX9_worth 18 = .ok (.iconst (-1), 1) := by decide +kernel
theorem dX9_worth_19 : decode cX9_worth 19 = .ok (.ixor, 1) := by decide +kernel
theorem dX9_worth_20 : decode cX9_worth 20 = .ok (.iand, 1) := by decide +kernel
theorem dX9_worth_21 : decode cX9_worth 21 = .ok (.ifCond .eq 6, 3) := by decide +kernel
theorem dX9_worth_24 : decode cX9_worth 24 = .ok (.bipush (-2), 2) := by decide +kernel
theorem dX9_worth_26 : decode cX9_worth 26 = .ok (.ireturn, 1) := by decide +kernel
theorem dX9_worth_27 : decode cX9_worth 27 = .ok (.aload_n 0, 1) := by decide +kernel
theorem dX9_worth_28 : decode cX9_worth 28 = .ok (.getfield 48, 3) := by decide +kernel
theorem dX9_worth_31 : decode cX9_worth 31 = .ok (.aload_n 0, 1) := by decide +kernel
theorem dX9_worth_32 : decode cX9_worth 32 = .ok (.getfield 48, 3) := by decide +kernel
theorem dX9_worth_35 : decode cX9_worth 35 = .ok (.getfield 213, 3) := by decide +kernel
theorem dX9_worth_38 : decode cX9_worth 38 = .ok (.iload_n 1, 1) := by decide +kernel
theorem dX9_worth_39 : decode cX9_worth 39 = .ok (.ior, 1) := by decide +kernel
theorem dX9_worth_40 : decode cX9_worth 40 = .ok (.invokevirtual 236, 3) := by decide +kernel
theorem dX9_worth_43 : decode cX9_worth 43 = .ok (.ireturn, 1) := by decide +kernel
theorem dX9_share_0 : decode cX9_share 0 = .ok (.aload_n 0, 1) := by decide +kernel
theorem dX9_share_1 : decode cX9_share 1 = .ok (.getfield 28, 3) := by decide +kernel
theorem dX9_share_4 : decode cX9_share 4 = .ok (.iload_n 1, 1) := by decide +kernel
theorem dX9_share_5 : decode cX9_share 5 = .ok (.invokevirtual 98, 3) := by decide +kernel
theorem dX9_share_8 : decode cX9_share 8 = .ok (.ifCond .eq 10, 3) := by decide +kernel
theorem dX9_share_11 : decode cX9_share 11 = .ok (.iload_n 2, 1) := by decide +kernel
theorem dX9_share_12 : decode cX9_share 12 = .ok (.invokestatic 308, 3) := by decide +kernel
theorem dX9_share_15 : decode cX9_share 15 = .ok (.ifCond .ne 6, 3) := by decide +kernel
theorem dX9_share_18 : decode cX9_share 18 = .ok (.bipush (-2), 2) := by decide +kernel
theorem dX9_share_20 : decode cX9_share 20 = .ok (.ireturn, 1) := by decide +kernel
theorem dX9_share_21 : decode cX9_share 21 = .ok (.iconst 0, 1) := by decide +kernel
theorem dX9_share_22 : decode cX9_share 22 = .ok (.istore_n 3, 1) := by decide +kernel
theorem dX9_share_23 : decode cX9_share 23 = .ok (.iconst 0, 1) := by decide +kernel
theorem dX9_share_24 : decode cX9_share 24 = .ok (.istore 4, 2) := by decide +kernel
theorem dX9_share_26 : decode cX9_share 26 = .ok (.iload 4, 2) := by decide +kernel
theorem dX9_share_28 : decode cX9_share 28 = .ok (.aload_n 0, 1) := by decide +kernel
theorem dX9_share_29 : decode cX9_share 29 = .ok (.getfield 28, 3) := by decide +kernel
theorem dX9_share_32 : decode cX9_share 32 = .ok (.getfield 124, 3) := by decide +kernel
theorem dX9_share_35 : decode cX9_share 35 = .ok (.getfield 271, 3) := by decide +kernel
theorem dX9_share_38 : decode cX9_share 38 = .ok (.if_icmp .ge 46, 3) := by decide +kernel
theorem dX9_share_41 : decode cX9_share 41 = .ok (.aload_n 0, 1) := by decide +kernel
theorem dX9_share_42 : decode cX9_share 42 = .ok (.getfield 48, 3) := by decide +kernel
theorem dX9_share_45 : decode cX9_share 45 = .ok (.iload 4, 2) := by decide +kernel
theorem dX9_share_47 : decode cX9_share 47 = .ok (.invokevirtual 222, 3) := by decide +kernel
theorem dX9_share_50 : decode cX9_share 50 = .ok (.istore 5, 2) := by decide +kernel
theorem dX9_share_52 : decode cX9_share 52 = .ok (.iload 5, 2) := by decide +kernel
theorem dX9_share_54 : decode cX9_share 54 = .ok (.iload_n 1, 1) := by decide +kernel
theorem dX9_share_55 : decode cX9_share 55 = .ok (.ishr, 1) := by decide +kernel
theorem dX9_share_56 : decode cX9_share 56 = .ok (.iconst 1, 1) := by decide +kernel
theorem dX9_share_57 : decode cX9_share 57 = .ok (.iand, 1) := by decide +kernel
theorem dX9_share_58 : decode cX9_share 58 = .ok (.ifCond .eq 20, 3) := by decide +kernel
theorem dX9_share_61 : decode cX9_share 61 = .ok (.iload_n 3, 1) := by decide +kernel
theorem dX9_share_62 : decode cX9_share 62 = .ok (.iload 5, 2) := by decide +kernel
theorem dX9_share_64 : decode cX9_share 64 = .ok (.invokestatic 228, 3) := by decide +kernel
theorem dX9_share_67 : decode cX9_share 67 = .ok (.iconst 1, 1) := by decide +kernel
theorem dX9_share_68 : decode cX9_share 68 = .ok (.if_icmp .ne 7, 3) := by decide +kernel
theorem dX9_share_71 : decode cX9_share 71 = .ok (.iconst 2, 1) := by decide +kernel
theorem dX9_share_72 : decode cX9_share 72 = .ok (.goto 4, 3) := by decide +kernel
theorem dX9_share_75 : decode cX9_share 75 = .ok (.iconst 1, 1) := by decide +kernel
theorem dX9_share_76 : decode cX9_share 76 = .ok (.iadd, 1) := by decide +kernel
theorem dX9_share_77 : decode cX9_share 77 = .ok (.istore_n 3, 1) := by decide +kernel
theorem dX9_share_78 : decode cX9_share 78 = .ok (.iinc 4 1, 3) := by decide +kernel
theorem dX9_share_81 : decode cX9_share 81 = .ok (.goto (-55), 3) := by decide +kernel
theorem dX9_share_84 : decode cX9_share 84 = .ok (.iload_n 3, 1) := by decide +kernel
theorem dX9_share_85 : decode cX9_share 85 = .ok (.i2l, 1) := by decide +kernel
theorem dX9_share_86 : decode cX9_share 86 = .ok (.ldc2_w 311, 3) := by decide +kernel
theorem dX9_share_89 : decode cX9_share 89 = .ok (.iload_n 2, 1) := by decide +kernel
theorem dX9_share_90 : decode cX9_share 90 = .ok (.invokestatic 313, 3) := by decide +kernel
theorem dX9_share_93 : decode cX9_share 93 = .ok (.l2i, 1) := by decide +kernel
theorem dX9_share_94 : decode cX9_share 94 = .ok (.ireturn, 1) := by decide +kernel
theorem dX9_rests_0 : decode cX9_rests 0 = .ok (.aload_n 0, 1) := by decide +kernel
theorem dX9_rests_1 : decode cX9_rests 1 = .ok (.getfield 28, 3) := by decide +kernel
theorem dX9_rests_4 : decode cX9_rests 4 = .ok (.iload_n 1, 1) := by decide +kernel
theorem dX9_rests_5 : decode cX9_rests 5 = .ok (.iload_n 2, 1) := by decide +kernel
theorem dX9_rests_6 : decode cX9_rests 6 = .ok (.invokevirtual 200, 3) := by decide +kernel
theorem dX9_rests_9 : decode cX9_rests 9 = .ok (.ifCond .ne 6, 3) := by decide +kernel
theorem dX9_rests_12 : decode cX9_rests 12 = .ok (.bipush (-2), 2) := by decide +kernel
theorem dX9_rests_14 : decode cX9_rests 14 = .ok (.ireturn, 1) := by decide +kernel
theorem dX9_rests_15 : decode cX9_rests 15 = .ok (.iconst 0, 1) := by decide +kernel
theorem dX9_rests_16 : decode cX9_rests 16 = .ok (.istore_n 3, 1) := by decide +kernel
theorem dX9_rests_17 : decode cX9_rests 17 = .ok (.iconst 0, 1) := by decide +kernel
theorem dX9_rests_18 : decode cX9_rests 18 = .ok (.istore 4, 2) := by decide +kernel
theorem dX9_rests_20 : decode cX9_rests 20 = .ok (.iload 4, 2) := by decide +kernel
theorem dX9_rests_22 : decode cX9_rests 22 = .ok (.iconst 4, 1) := by decide +kernel
theorem dX9_rests_23 : decode cX9_rests 23 = .ok (.if_icmp .ge 102, 3) := by decide +kernel
theorem dX9_rests_26 : decode cX9_rests 26 = .ok (.iload 4, 2) := by decide +kernel
theorem dX9_rests_28 : decode cX9_rests 28 = .ok (.iconst 1, 1) := by decide +kernel
theorem dX9_rests_29 : decode cX9_rests 29 = .ok (.iand, 1) := by decide +kernel
theorem dX9_rests_30 : decode cX9_rests 30 = .ok (.istore 5, 2) := by decide +kernel
theorem dX9_rests_32 : decode cX9_rests 32 = .ok (.iload 4, 2) := by decide +kernel
theorem dX9_rests_34 : decode cX9_rests 34 = .ok (.iconst 1, 1) := by decide +kernel
theorem dX9_rests_35 : decode cX9_rests 35 = .ok (.ishr, 1) := by decide +kernel
theorem dX9_rests_36 : decode cX9_rests 36 = .ok (.istore 6, 2) := by decide +kernel
theorem dX9_rests_38 : decode cX9_rests 38 = .ok (.aload_n 0, 1) := by decide +kernel
theorem dX9_rests_39 : decode cX9_rests 39 = .ok (.iload_n 1, 1) := by decide +kernel
theorem dX9_rests_40 : decode cX9_rests 40 = .ok (.iload_n 2, 1) := by decide +kernel
theorem dX9_rests_41 : decode cX9_rests 41 = .ok (.iload 5, 2) := by decide +kernel
theorem dX9_rests_43 : decode cX9_rests 43 = .ok (.iload 6, 2) := by decide +kernel
theorem dX9_rests_45 : decode cX9_rests 45 = .ok (.invokevirtual 317, 3) := by decide +kernel
theorem dX9_rests_48 : decode cX9_rests 48 = .ok (.aload_n 0, 1) := by decide +kernel
theorem dX9_rests_49 : decode cX9_rests 49 = .ok (.iload_n 1, 1) := by decide +kernel
theorem dX9_rests_50 : decode cX9_rests 50 = .ok (.iload_n 2, 1) := by decide +kernel
theorem dX9_rests_51 : decode cX9_rests 51 = .ok (.iconst 1, 1) := by decide +kernel
theorem dX9_rests_52 : decode cX9_rests 52 = .ok (.iload 5, 2) := by decide +kernel
theorem dX9_rests_54 : decode cX9_rests 54 = .ok (.isub, 1) := by decide +kernel
theorem dX9_rests_55 : decode cX9_rests 55 = .ok (.iload 6, 2) := by decide +kernel
theorem dX9_rests_57 : decode cX9_rests 57 = .ok (.invokevirtual 317, 3) := by decide +kernel
theorem dX9_rests_60 : decode cX9_rests 60 = .ok (.if_icmp .lt 7, 3) := by decide +kernel
theorem dX9_rests_63 : decode cX9_rests 63 = .ok (.iconst 1, 1) := by decide +kernel
theorem dX9_rests_64 : decode cX9_rests 64 = .ok (.goto 4, 3) := by decide +kernel
theorem dX9_rests_67 : decode cX9_rests 67 = .ok (.iconst 0, 1) := by decide +kernel
theorem dX9_rests_68 : decode cX9_rests 68 = .ok (.istore 7, 2) := by decide +kernel
theorem dX9_rests_70 : decode cX9_rests 70 = .ok (.aload_n 0, 1) := by decide +kernel
theorem dX9_rests_71 : decode cX9_rests 71 = .ok (.iload_n 2, 1) := by decide +kernel
theorem dX9_rests_72 : decode cX9_rests 72 = .ok (.iload_n 1, 1) := by decide +kernel
theorem dX9_rests_73 : decode cX9_rests 73 = .ok (.iload 6, 2) := by decide +kernel
theorem dX9_rests_75 : decode cX9_rests 75 = .ok (.iload 5, 2) := by decide +kernel
theorem dX9_rests_77 : decode cX9_rests 77 = .ok (.invokevirtual 317, 3) := by decide +kernel
theorem dX9_rests_80 : decode cX9_rests 80 = .ok (.aload_n 0, 1) := by decide +kernel
theorem dX9_rests_81 : decode cX9_rests 81 = .ok (.iload_n 2, 1) := by decide +kernel
theorem dX9_rests_82 : decode cX9_rests 82 = .ok (.iload_n 1, 1) := by decide +kernel
theorem dX9_rests_83 : decode cX9_rests 83 = .ok (.iconst 1, 1) := by decide +kernel
theorem dX9_rests_84 : decode cX9_rests 84 = .ok (.iload 6, 2) := by decide +kernel
theorem dX9_rests_86 : decode cX9_rests 86 = .ok (.isub, 1) := by decide +kernel
theorem dX9_rests_87 : decode cX9_rests 87 = .ok (.iload 5, 2) := by decide +kernel
theorem dX9_rests_89 : decode cX9_rests 89 = .ok (.invokevirtual 317, 3) := by decide +kernel
theorem dX9_rests_92 : decode cX9_rests 92 = .ok (.if_icmp .lt 7, 3) := by decide +kernel
theorem dX9_rests_95 : decode cX9_rests 95 = .ok (.iconst 1, 1) := by decide +kernel
theorem dX9_rests_96 : decode cX9_rests 96 = .ok (.goto 4, 3) := by decide +kernel
theorem dX9_rests_99 : decode cX9_rests 99 = .ok (.iconst 0, 1) := by decide +kernel
theorem dX9_rests_100 : decode cX9_rests 100 = .ok (.istore 8, 2) := by decide +kernel
theorem dX9_rests_102 : decode cX9_rests 102 = .ok (.iload 7, 2) := by decide +kernel
theorem dX9_rests_104 : decode cX9_rests 104 = .ok (.ifCond .eq 15, 3) := by decide +kernel
theorem dX9_rests_107 : decode cX9_rests 107 = .ok (.iload 8, 2) := by decide +kernel
theorem dX9_rests_109 : decode cX9_rests 109 = .ok (.ifCond .eq 10, 3) := by decide +kernel
theorem dX9_rests_112 : decode cX9_rests 112 = .ok (.iload_n 3, 1) := by decide +kernel
theorem dX9_rests_113 : decode cX9_rests 113 = .ok (.iconst 1, 1) := by decide +kernel
theorem dX9_rests_114 : decode cX9_rests 114 = .ok (.iload 4, 2) := by decide +kernel
theorem dX9_rests_116 : decode cX9_rests 116 = .ok (.ishl, 1) := by decide +kernel
theorem dX9_rests_117 : decode cX9_rests 117 = .ok (.ior, 1) := by decide +kernel
theorem dX9_rests_118 : decode cX9_rests 118 = .ok (.istore_n 3, 1) := by decide +kernel
theorem dX9_rests_119 : decode cX9_rests 119 = .ok (.iinc 4 1, 3) := by decide +kernel
theorem dX9_rests_122 : decode cX9_rests 122 = .ok (.goto (-102), 3) := by decide +kernel
theorem dX9_rests_125 : decode cX9_rests 125 = .ok (.iload_n 3, 1) := by decide +kernel
theorem dX9_rests_126 : decode cX9_rests 126 = .ok (.ireturn, 1) := by decide +kernel
theorem dX9_gets_0 : decode cX9_gets 0 = .ok (.aload_n 0, 1) := by decide +kernel
theorem dX9_gets_1 : decode cX9_gets 1 = .ok (.getfield 28, 3) := by decide +kernel
theorem dX9_gets_4 : decode cX9_gets 4 = .ok (.iload_n 1, 1) := by decide +kernel
theorem dX9_gets_5 : decode cX9_gets 5 = .ok (.iload_n 2, 1) := by decide +kernel
theorem dX9_gets_6 : decode cX9_gets 6 = .ok (.invokevirtual 200, 3) := by decide +kernel
theorem dX9_gets_9 : decode cX9_gets 9 = .ok (.ifCond .eq 18, 3) := by decide +kernel
theorem dX9_gets_12 : decode cX9_gets 12 = .ok (.iload_n 3, 1) := by decide +kernel
theorem dX9_gets_13 : decode cX9_gets 13 = .ok (.invokestatic 308, 3) := by decide +kernel
theorem dX9_gets_16 : decode cX9_gets 16 = .ok (.ifCond .eq 11, 3) := by decide +kernel
theorem dX9_gets_19 : decode cX9_gets 19 = .ok (.iload 4, 2) := by decide +kernel
theorem dX9_gets_21 : decode cX9_gets 21 = .ok (.invokestatic 308, 3) := by decide +kernel
theorem dX9_gets_24 : decode cX9_gets 24 = .ok (.ifCond .ne 7, 3) := by decide +kernel
theorem dX9_gets_27 : decode cX9_gets 27 = .ok (.sipush (-1000), 3) := by decide +kernel
theorem dX9_gets_30 : decode cX9_gets 30 = .ok (.ireturn, 1) := by decide +kernel
theorem dX9_gets_31 : decode cX9_gets 31 = .ok (.aload_n 0, 1) := by decide +kernel
theorem dX9_gets_32 : decode cX9_gets 32 = .ok (.iload_n 1, 1) := by decide +kernel
theorem dX9_gets_33 : decode cX9_gets 33 = .ok (.iload_n 2, 1) := by decide +kernel
theorem dX9_gets_34 : decode cX9_gets 34 = .ok (.iload_n 3, 1) := by decide +kernel
theorem dX9_gets_35 : decode cX9_gets 35 = .ok (.iload 4, 2) := by decide +kernel
theorem dX9_gets_37 : decode cX9_gets 37 = .ok (.invokevirtual 317, 3) := by decide +kernel
theorem dX9_gets_40 : decode cX9_gets 40 = .ok (.ireturn, 1) := by decide +kernel
theorem dX9_chance_0 : decode cX9_chance 0 = .ok (.aload_n 0, 1) := by decide +kernel
theorem dX9_chance_1 : decode cX9_chance 1 = .ok (.getfield 28, 3) := by decide +kernel
theorem dX9_chance_4 : decode cX9_chance 4 = .ok (.iload_n 1, 1) := by decide +kernel
theorem dX9_chance_5 : decode cX9_chance 5 = .ok (.iload_n 2, 1) := by decide +kernel
theorem dX9_chance_6 : decode cX9_chance 6 = .ok (.invokevirtual 200, 3) := by decide +kernel
theorem dX9_chance_9 : decode cX9_chance 9 = .ok (.ifCond .eq 19, 3) := by decide +kernel
theorem dX9_chance_12 : decode cX9_chance 12 = .ok (.aload_n 0, 1) := by decide +kernel
theorem dX9_chance_13 : decode cX9_chance 13 = .ok (.iload_n 3, 1) := by decide +kernel
theorem dX9_chance_14 : decode cX9_chance 14 = .ok (.invokevirtual 321, 3) := by decide +kernel
theorem dX9_chance_17 : decode cX9_chance 17 = .ok (.ifCond .eq 11, 3) := by decide +kernel
theorem dX9_chance_20 : decode cX9_chance 20 = .ok (.iload 4, 2) := by decide +kernel
theorem dX9_chance_22 : decode cX9_chance 22 = .ok (.invokestatic 308, 3) := by decide +kernel
theorem dX9_chance_25 : decode cX9_chance 25 = .ok (.ifCond .ne 7, 3) := by decide +kernel
theorem dX9_chance_28 : decode cX9_chance 28 = .ok (.ldc2_w 324, 3) := by decide +kernel
theorem dX9_chance_31 : decode cX9_chance 31 = .ok (.lreturn, 1) := by decide +kernel
theorem dX9_chance_32 : decode cX9_chance 32 = .ok (.lconst 0, 1) := by decide +kernel
theorem dX9_chance_33 : decode cX9_chance 33 = .ok (.lstore 5, 2) := by decide +kernel
theorem dX9_chance_35 : decode cX9_chance 35 = .ok (.aload_n 0, 1) := by decide +kernel
theorem dX9_chance_36 : decode cX9_chance 36 = .ok (.getfield 52, 3) := by decide +kernel
theorem dX9_chance_39 : decode cX9_chance 39 = .ok (.aload_n 0, 1) := by decide +kernel
theorem dX9_chance_40 : decode cX9_chance 40 = .ok (.getfield 28, 3) := by decide +kernel
theorem dX9_chance_43 : decode cX9_chance 43 = .ok (.invokevirtual 264, 3) := by decide +kernel
theorem dX9_chance_46 : decode cX9_chance 46 = .ok (.iconst 0, 1) := by decide +kernel
theorem dX9_chance_47 : decode cX9_chance 47 = .ok (.istore 7, 2) := by decide +kernel
theorem dX9_chance_49 : decode cX9_chance 49 = .ok (.iload 7, 2) := by decide +kernel
theorem dX9_chance_51 : decode cX9_chance 51 = .ok (.iconst 1, 1) := by decide +kernel
theorem dX9_chance_52 : decode cX9_chance 52 = .ok (.iload_n 3, 1) := by decide +kernel
theorem dX9_chance_53 : decode cX9_chance 53 = .ok (.iconst 1, 1) := by decide +kernel
theorem dX9_chance_54 : decode cX9_chance 54 = .ok (.iadd, 1) := by decide +kernel
theorem dX9_chance_55 : decode cX9_chance 55 = .ok (.ishl, 1) := by decide +kernel
theorem dX9_chance_56 : decode cX9_chance 56 = .ok (.if_icmp .ge 53, 3) := by decide +kernel
theorem dX9_chance_59 : decode cX9_chance 59 = .ok (.aload_n 0, 1) := by decide +kernel
theorem dX9_chance_60 : decode cX9_chance 60 = .ok (.getfield 52, 3) := by decide +kernel
theorem dX9_chance_63 : decode cX9_chance 63 = .ok (.iload 7, 2) := by decide +kernel
theorem dX9_chance_65 : decode cX9_chance 65 = .ok (.putfield 152, 3) := by decide +kernel
theorem dX9_chance_68 : decode cX9_chance 68 = .ok (.aload_n 0, 1) := by decide +kernel
theorem dX9_chance_69 : decode cX9_chance 69 = .ok (.getfield 52, 3) := by decide +kernel
theorem dX9_chance_72 : decode cX9_chance 72 = .ok (.iload_n 3, 1) := by decide +kernel
theorem dX9_chance_73 : decode cX9_chance 73 = .ok (.iconst 1, 1) := by decide +kernel
theorem dX9_chance_74 : decode cX9_chance 74 = .ok (.iadd, 1) := by decide +kernel
theorem dX9_chance_75 : decode cX9_chance 75 = .ok (.invokevirtual 301, 3) := by decide +kernel
theorem dX9_chance_78 : decode cX9_chance 78 = .ok (.aload_n 0, 1) := by decide +kernel
theorem dX9_chance_79 : decode cX9_chance 79 = .ok (.getfield 52, 3) := by decide +kernel
theorem dX9_chance_82 : decode cX9_chance 82 = .ok (.iload_n 1, 1) := by decide +kernel
theorem dX9_chance_83 : decode cX9_chance 83 = .ok (.iload_n 2, 1) := by decide +kernel
theorem dX9_chance_84 : decode cX9_chance 84 = .ok (.iload_n 3, 1) := by decide +kernel
theorem dX9_chance_85 : decode cX9_chance 85 = .ok (.invokevirtual 197, 3) := by decide +kernel
theorem dX9_chance_88 : decode cX9_chance 88 = .ok (.ifCond .eq 15, 3) := by decide +kernel
theorem dX9_chance_91 : decode cX9_chance 91 = .ok (.lload 5, 2) := by decide +kernel
theorem dX9_chance_93 : decode cX9_chance 93 = .ok (.aload_n 0, 1) := by decide +kernel
theorem dX9_chance_94 : decode cX9_chance 94 = .ok (.iload 7, 2) := by decide +kernel
theorem dX9_chance_96 : decode cX9_chance 96 = .ok (.iload_n 3, 1) := by decide +kernel
theorem dX9_chance_97 : decode cX9_chance 97 = .ok (.invokevirtual 326, 3) := by decide +kernel
theorem dX9_chance_100 : decode cX9_chance 100 = .ok (.ladd, 1) := by decide +kernel
theorem dX9_chance_101 : decode cX9_chance 101 = .ok (.lstore 5, 2) := by decide +kernel
theorem dX9_chance_103 : decode cX9_chance 103 = .ok (.iinc 7 1, 3) := by decide +kernel
theorem dX9_chance_106 : decode cX9_chance 106 = .ok (.goto (-57), 3) := by decide +kernel
theorem dX9_chance_109 : decode cX9_chance 109 = .ok (.lload 5, 2) := by decide +kernel
theorem dX9_chance_111 : decode cX9_chance 111 = .ok (.iload_n 3, 1) := by decide +kernel
theorem dX9_chance_112 : decode cX9_chance 112 = .ok (.invokestatic 330, 3) := by decide +kernel
theorem dX9_chance_115 : decode cX9_chance 115 = .ok (.iload 4, 2) := by decide +kernel
theorem dX9_chance_117 : decode cX9_chance 117 = .ok (.invokestatic 313, 3) := by decide +kernel
theorem dX9_chance_120 : decode cX9_chance 120 = .ok (.lreturn, 1) := by decide +kernel
theorem dX9_mean_0 : decode cX9_mean 0 = .ok (.aload_n 0, 1) := by decide +kernel
theorem dX9_mean_1 : decode cX9_mean 1 = .ok (.getfield 28, 3) := by decide +kernel
theorem dX9_mean_4 : decode cX9_mean 4 = .ok (.iload_n 1, 1) := by decide +kernel
theorem dX9_mean_5 : decode cX9_mean 5 = .ok (.invokevirtual 98, 3) := by decide +kernel
theorem dX9_mean_8 : decode cX9_mean 8 = .ok (.ifCond .eq 18, 3) := by decide +kernel
theorem dX9_mean_11 : decode cX9_mean 11 = .ok (.aload_n 0, 1) := by decide +kernel
theorem dX9_mean_12 : decode cX9_mean 12 = .ok (.iload_n 2, 1) := by decide +kernel
theorem dX9_mean_13 : decode cX9_mean 13 = .ok (.invokevirtual 321, 3) := by decide +kernel
theorem dX9_mean_16 : decode cX9_mean 16 = .ok (.ifCond .eq 10, 3) := by decide +kernel
theorem dX9_mean_19 : decode cX9_mean 19 = .ok (.iload_n 3, 1) := by decide +kernel
theorem dX9_mean_20 : decode cX9_mean 20 = .ok (.invokestatic 308, 3) := by decide +kernel
theorem dX9_mean_23 : decode cX9_mean 23 = .ok (.ifCond .ne 7, 3) := by decide +kernel
theorem dX9_mean_26 : decode cX9_mean 26 = .ok (.ldc2_w 324, 3) := by decide +kernel
theorem dX9_mean_29 : decode cX9_mean 29 = .ok (.lreturn, 1) := by decide +kernel
theorem dX9_mean_30 : decode cX9_mean 30 = .ok (.lconst 0, 1) := by decide +kernel
theorem dX9_mean_31 : decode cX9_mean 31 = .ok (.lstore 4, 2) := by decide +kernel
theorem dX9_mean_33 : decode cX9_mean 33 = .ok (.aload_n 0, 1) := by decide +kernel
theorem dX9_mean_34 : decode cX9_mean 34 = .ok (.getfield 52, 3) := by decide +kernel
theorem dX9_mean_37 : decode cX9_mean 37 = .ok (.aload_n 0, 1) := by decide +kernel
theorem dX9_mean_38 : decode cX9_mean 38 = .ok (.getfield 28, 3) := by decide +kernel
theorem dX9_mean_41 : decode cX9_mean 41 = .ok (.invokevirtual 264, 3) := by decide +kernel
theorem dX9_mean_44 : decode cX9_mean 44 = .ok (.iconst 0, 1) := by decide +kernel
theorem dX9_mean_45 : decode cX9_mean 45 = .ok (.istore 6, 2) := by decide +kernel
theorem dX9_mean_47 : decode cX9_mean 47 = .ok (.iload 6, 2) := by decide +kernel
theorem dX9_mean_49 : decode cX9_mean 49 = .ok (.iconst 1, 1) := by decide +kernel
theorem dX9_mean_50 : decode cX9_mean 50 = .ok (.iload_n 2, 1) := by decide +kernel
theorem dX9_mean_51 : decode cX9_mean 51 = .ok (.iconst 1, 1) := by decide +kernel
theorem dX9_mean_52 : decode cX9_mean 52 = .ok (.iadd, 1) := by decide +kernel
theorem dX9_mean_53 : decode cX9_mean 53 = .ok (.ishl, 1) := by decide +kernel
theorem dX9_mean_54 : decode cX9_mean 54 = .ok (.if_icmp .ge 55, 3) := by decide +kernel
theorem dX9_mean_57 : decode cX9_mean 57 = .ok (.aload_n 0, 1) := by decide +kernel
theorem dX9_mean_58 : decode cX9_mean 58 = .ok (.getfield 52, 3) := by decide +kernel
theorem dX9_mean_61 : decode cX9_mean 61 = .ok (.iload 6, 2) := by decide +kernel
theorem dX9_mean_63 : decode cX9_mean 63 = .ok (.putfield 152, 3) := by decide +kernel
theorem dX9_mean_66 : decode cX9_mean 66 = .ok (.aload_n 0, 1) := by decide +kernel
theorem dX9_mean_67 : decode cX9_mean 67 = .ok (.getfield 52, 3) := by decide +kernel
theorem dX9_mean_70 : decode cX9_mean 70 = .ok (.iload_n 2, 1) := by decide +kernel
theorem dX9_mean_71 : decode cX9_mean 71 = .ok (.iconst 1, 1) := by decide +kernel
theorem dX9_mean_72 : decode cX9_mean 72 = .ok (.iadd, 1) := by decide +kernel
theorem dX9_mean_73 : decode cX9_mean 73 = .ok (.invokevirtual 301, 3) := by decide +kernel
theorem dX9_mean_76 : decode cX9_mean 76 = .ok (.lload 4, 2) := by decide +kernel
theorem dX9_mean_78 : decode cX9_mean 78 = .ok (.aload_n 0, 1) := by decide +kernel
theorem dX9_mean_79 : decode cX9_mean 79 = .ok (.iload 6, 2) := by decide +kernel
theorem dX9_mean_81 : decode cX9_mean 81 = .ok (.iload_n 2, 1) := by decide +kernel
theorem dX9_mean_82 : decode cX9_mean 82 = .ok (.invokevirtual 326, 3) := by decide +kernel
theorem dX9_mean_85 : decode cX9_mean 85 = .ok (.aload_n 0, 1) := by decide +kernel
theorem dX9_mean_86 : decode cX9_mean 86 = .ok (.getfield 52, 3) := by decide +kernel
theorem dX9_mean_89 : decode cX9_mean 89 = .ok (.getfield 159, 3) := by decide +kernel
theorem dX9_mean_92 : decode cX9_mean 92 = .ok (.iload_n 1, 1) := by decide +kernel
theorem dX9_mean_93 : decode cX9_mean 93 = .ok (.iload_n 2, 1) := by decide +kernel
theorem dX9_mean_94 : decode cX9_mean 94 = .ok (.invokestatic 162, 3) := by decide +kernel
theorem dX9_mean_97 : decode cX9_mean 97 = .ok (.iaload, 1) := by decide +kernel
theorem dX9_mean_98 : decode cX9_mean 98 = .ok (.i2l, 1) := by decide +kernel
theorem dX9_mean_99 : decode cX9_mean 99 = .ok (.lmul, 1) := by decide +kernel
theorem dX9_mean_100 : decode cX9_mean 100 = .ok (.ladd, 1) := by decide +kernel
theorem dX9_mean_101 : decode cX9_mean 101 = .ok (.lstore 4, 2) := by decide +kernel
theorem dX9_mean_103 : decode cX9_mean 103 = .ok (.iinc 6 1, 3) := by decide +kernel
theorem dX9_mean_106 : decode cX9_mean 106 = .ok (.goto (-59), 3) := by decide +kernel
theorem dX9_mean_109 : decode cX9_mean 109 = .ok (.lload 4, 2) := by decide +kernel
theorem dX9_mean_111 : decode cX9_mean 111 = .ok (.iload_n 2, 1) := by decide +kernel
theorem dX9_mean_112 : decode cX9_mean 112 = .ok (.invokestatic 330, 3) := by decide +kernel
theorem dX9_mean_115 : decode cX9_mean 115 = .ok (.iload_n 3, 1) := by decide +kernel
theorem dX9_mean_116 : decode cX9_mean 116 = .ok (.invokestatic 313, 3) := by decide +kernel
theorem dX9_mean_119 : decode cX9_mean 119 = .ok (.lreturn, 1) := by decide +kernel
theorem dX9_adds_0 : decode cX9_adds 0 = .ok (.iload_n 1, 1) := by decide +kernel
theorem dX9_adds_1 : decode cX9_adds 1 = .ok (.iconst 1, 1) := by decide +kernel
theorem dX9_adds_2 : decode cX9_adds 2 = .ok (.if_icmp .lt 20, 3) := by decide +kernel
theorem dX9_adds_5 : decode cX9_adds 5 = .ok (.iload_n 1, 1) := by decide +kernel
theorem dX9_adds_6 : decode cX9_adds 6 = .ok (.bipush 9, 2) := by decide +kernel
theorem dX9_adds_8 : decode cX9_adds 8 = .ok (.if_icmp .gt 14, 3) := by decide +kernel
theorem dX9_adds_11 : decode cX9_adds 11 = .ok (.aload_n 0, 1) := by decide +kernel
theorem dX9_adds_12 : decode cX9_adds 12 = .ok (.getfield 28, 3) := by decide +kernel
theorem dX9_adds_15 : decode cX9_adds 15 = .ok (.iload_n 2, 1) := by decide +kernel
theorem dX9_adds_16 : decode cX9_adds 16 = .ok (.invokevirtual 98, 3) := by decide +kernel
theorem dX9_adds_19 : decode cX9_adds 19 = .ok (.ifCond .ne 6, 3) := by decide +kernel
theorem dX9_adds_22 : decode cX9_adds 22 = .ok (.bipush (-2), 2) := by decide +kernel
theorem dX9_adds_24 : decode cX9_adds 24 = .ok (.ireturn, 1) := by decide +kernel
theorem dX9_adds_25 : decode cX9_adds 25 = .ok (.aload_n 0, 1) := by decide +kernel
theorem dX9_adds_26 : decode cX9_adds 26 = .ok (.getfield 28, 3) := by decide +kernel
theorem dX9_adds_29 : decode cX9_adds 29 = .ok (.getfield 334, 3) := by decide +kernel
theorem dX9_adds_32 : decode cX9_adds 32 = .ok (.iload_n 2, 1) := by decide +kernel
theorem dX9_adds_33 : decode cX9_adds 33 = .ok (.iload_n 1, 1) := by decide +kernel
theorem dX9_adds_34 : decode cX9_adds 34 = .ok (.invokevirtual 338, 3) := by decide +kernel
theorem dX9_adds_37 : decode cX9_adds 37 = .ok (.ifCond .ne 6, 3) := by decide +kernel
theorem dX9_adds_40 : decode cX9_adds 40 = .ok (.bipush (-5), 2) := by decide +kernel
theorem dX9_adds_42 : decode cX9_adds 42 = .ok (.ireturn, 1) := by decide +kernel
theorem dX9_adds_43 : decode cX9_adds 43 = .ok (.aload_n 0, 1) := by decide +kernel
theorem dX9_adds_44 : decode cX9_adds 44 = .ok (.invokevirtual 89, 3) := by decide +kernel
theorem dX9_adds_47 : decode cX9_adds 47 = .ok (.iconst 0, 1) := by decide +kernel
theorem dX9_adds_48 : decode cX9_adds 48 = .ok (.istore_n 3, 1) := by decide +kernel
theorem dX9_adds_49 : decode cX9_adds 49 = .ok (.iconst 0, 1) := by decide +kernel
theorem dX9_adds_50 : decode cX9_adds 50 = .ok (.istore 4, 2) := by decide +kernel
theorem dX9_adds_52 : decode cX9_adds 52 = .ok (.iload 4, 2) := by decide +kernel
theorem dX9_adds_54 : decode cX9_adds 54 = .ok (.aload_n 0, 1) := by decide +kernel
theorem dX9_adds_55 : decode cX9_adds 55 = .ok (.getfield 28, 3) := by decide +kernel
theorem dX9_adds_58 : decode cX9_adds 58 = .ok (.getfield 175, 3) := by decide +kernel
theorem dX9_adds_61 : decode cX9_adds 61 = .ok (.if_icmp .ge 30, 3) := by decide +kernel
theorem dX9_adds_64 : decode cX9_adds 64 = .ok (.aload_n 0, 1) := by decide +kernel
theorem dX9_adds_65 : decode cX9_adds 65 = .ok (.getfield 48, 3) := by decide +kernel
theorem dX9_adds_68 : decode cX9_adds 68 = .ok (.iload 4, 2) := by decide +kernel
theorem dX9_adds_70 : decode cX9_adds 70 = .ok (.iload_n 2, 1) := by decide +kernel
theorem dX9_adds_71 : decode cX9_adds 71 = .ok (.iconst 0, 1) := by decide +kernel
theorem dX9_adds_72 : decode cX9_adds 72 = .ok (.invokevirtual 193, 3) := by decide +kernel
theorem dX9_adds_75 : decode cX9_adds 75 = .ok (.ifCond .eq 10, 3) := by decide +kernel
theorem dX9_adds_78 : decode cX9_adds 78 = .ok (.iload_n 3, 1) := by decide +kernel
theorem dX9_adds_79 : decode cX9_adds 79 = .ok (.iconst 1, 1) := by decide +kernel
theorem dX9_adds_80 : decode cX9_adds 80 = .ok (.iload 4, 2) := by decide +kernel
theorem dX9_adds_82 : decode cX9_adds 82 = .ok (.ishl, 1) := by decide +kernel
theorem dX9_adds_83 : decode cX9_adds 83 = .ok (.ior, 1) := by decide +kernel
theorem dX9_adds_84 : decode cX9_adds 84 = .ok (.istore_n 3, 1) := by decide +kernel
theorem dX9_adds_85 : decode cX9_adds 85 = .ok (.iinc 4 1, 3) := by decide +kernel
theorem dX9_adds_88 : decode cX9_adds 88 = .ok (.goto (-36), 3) := by decide +kernel
theorem dX9_adds_91 : decode cX9_adds 91 = .ok (.iload_n 3, 1) := by decide +kernel
theorem dX9_adds_92 : decode cX9_adds 92 = .ok (.ireturn, 1) := by decide +kernel
theorem dX9_dredge_0 : decode cX9_dredge 0 = .ok (.aload_n 0, 1) := by decide +kernel
theorem dX9_dredge_1 : decode cX9_dredge 1 = .ok (.getfield 28, 3) := by decide +kernel
theorem dX9_dredge_4 : decode cX9_dredge 4 = .ok (.iload_n 1, 1) := by decide +kernel
theorem dX9_dredge_5 : decode cX9_dredge 5 = .ok (.iload_n 2, 1) := by decide +kernel
theorem dX9_dredge_6 : decode cX9_dredge 6 = .ok (.invokevirtual 155, 3) := by decide +kernel
theorem dX9_dredge_9 : decode cX9_dredge 9 = .ok (.ifCond .ne 6, 3) := by decide +kernel
theorem dX9_dredge_12 : decode cX9_dredge 12 = .ok (.bipush (-2), 2) := by decide +kernel
theorem dX9_dredge_14 : decode cX9_dredge 14 = .ok (.ireturn, 1) := by decide +kernel
theorem dX9_dredge_15 : decode cX9_dredge 15 = .ok (.aload_n 0, 1) := by decide +kernel
theorem dX9_dredge_16 : decode cX9_dredge 16 = .ok (.getfield 28, 3) := by decide +kernel
theorem dX9_dredge_19 : decode cX9_dredge 19 = .ok (.getfield 334, 3) := by decide +kernel
theorem dX9_dredge_22 : decode cX9_dredge 22 = .ok (.iload_n 1, 1) := by decide +kernel
theorem dX9_dredge_23 : decode cX9_dredge 23 = .ok (.iload_n 2, 1) := by decide +kernel
theorem dX9_dredge_24 : decode cX9_dredge 24 = .ok (.invokevirtual 343, 3) := by decide +kernel
theorem dX9_dredge_27 : decode cX9_dredge 27 = .ok (.ifCond .ne 6, 3) := by decide +kernel
theorem dX9_dredge_30 : decode cX9_dredge 30 = .ok (.bipush (-5), 2) := by decide +kernel
theorem dX9_dredge_32 : decode cX9_dredge 32 = .ok (.ireturn, 1) := by decide +kernel
theorem dX9_dredge_33 : decode cX9_dredge 33 = .ok (.aload_n 0, 1) := by decide +kernel
theorem dX9_dredge_34 : decode cX9_dredge 34 = .ok (.invokevirtual 89, 3) := by decide +kernel
theorem dX9_dredge_37 : decode cX9_dredge 37 = .ok (.aload_n 0, 1) := by decide +kernel
theorem dX9_dredge_38 : decode cX9_dredge 38 = .ok (.getfield 48, 3) := by decide +kernel
theorem dX9_dredge_41 : decode cX9_dredge 41 = .ok (.getfield 159, 3) := by decide +kernel
theorem dX9_dredge_44 : decode cX9_dredge 44 = .ok (.iload_n 1, 1) := by decide +kernel
theorem dX9_dredge_45 : decode cX9_dredge 45 = .ok (.aload_n 0, 1) := by decide +kernel
theorem dX9_dredge_46 : decode cX9_dredge 46 = .ok (.getfield 28, 3) := by decide +kernel
theorem dX9_dredge_49 : decode cX9_dredge 49 = .ok (.getfield 178, 3) := by decide +kernel
theorem dX9_dredge_52 : decode cX9_dredge 52 = .ok (.iconst 1, 1) := by decide +kernel
theorem dX9_dredge_53 : decode cX9_dredge 53 = .ok (.isub, 1) := by decide +kernel
theorem dX9_dredge_54 : decode cX9_dredge 54 = .ok (.invokestatic 162, 3) := by decide +kernel
theorem dX9_dredge_57 : decode cX9_dredge 57 = .ok (.iaload, 1) := by decide +kernel
theorem dX9_dredge_58 : decode cX9_dredge 58 = .ok (.ireturn, 1) := by decide +kernel
theorem dX9_undo_0 : decode cX9_undo 0 = .ok (.aload_n 0, 1) := by decide +kernel
theorem dX9_undo_1 : decode cX9_undo 1 = .ok (.getfield 28, 3) := by decide +kernel
theorem dX9_undo_4 : decode cX9_undo 4 = .ok (.invokevirtual 148, 3) := by decide +kernel
theorem dX9_undo_7 : decode cX9_undo 7 = .ok (.ifCond .ne 6, 3) := by decide +kernel
theorem dX9_undo_10 : decode cX9_undo 10 = .ok (.bipush (-2), 2) := by decide +kernel
theorem dX9_undo_12 : decode cX9_undo 12 = .ok (.ireturn, 1) := by decide +kernel
theorem dX9_undo_13 : decode cX9_undo 13 = .ok (.aload_n 0, 1) := by decide +kernel
theorem dX9_undo_14 : decode cX9_undo 14 = .ok (.getfield 28, 3) := by decide +kernel
theorem dX9_undo_17 : decode cX9_undo 17 = .ok (.getfield 334, 3) := by decide +kernel
theorem dX9_undo_20 : decode cX9_undo 20 = .ok (.getfield 346, 3) := by decide +kernel
theorem dX9_undo_23 : decode cX9_undo 23 = .ok (.ifCond .ne 6, 3) := by decide +kernel
theorem dX9_undo_26 : decode cX9_undo 26 = .ok (.bipush (-5), 2) := by decide +kernel
theorem dX9_undo_28 : decode cX9_undo 28 = .ok (.ireturn, 1) := by decide +kernel
theorem dX9_undo_29 : decode cX9_undo 29 = .ok (.aload_n 0, 1) := by decide +kernel
theorem dX9_undo_30 : decode cX9_undo 30 = .ok (.getfield 28, 3) := by decide +kernel
theorem dX9_undo_33 : decode cX9_undo 33 = .ok (.getfield 334, 3) := by decide +kernel
theorem dX9_undo_36 : decode cX9_undo 36 = .ok (.dup, 1) := by decide +kernel
theorem dX9_undo_37 : decode cX9_undo 37 = .ok (.getfield 346, 3) := by decide +kernel
theorem dX9_undo_40 : decode cX9_undo 40 = .ok (.iconst 1, 1) := by decide +kernel
theorem dX9_undo_41 : decode cX9_undo 41 = .ok (.isub, 1) := by decide +kernel
theorem dX9_undo_42 : decode cX9_undo 42 = .ok (.putfield 346, 3) := by decide +kernel
theorem dX9_undo_45 : decode cX9_undo 45 = .ok (.aload_n 0, 1) := by decide +kernel
theorem dX9_undo_46 : decode cX9_undo 46 = .ok (.invokevirtual 89, 3) := by decide +kernel
theorem dX9_undo_49 : decode cX9_undo 49 = .ok (.aload_n 0, 1) := by decide +kernel
theorem dX9_undo_50 : decode cX9_undo 50 = .ok (.getfield 28, 3) := by decide +kernel
theorem dX9_undo_53 : decode cX9_undo 53 = .ok (.getfield 334, 3) := by decide +kernel
theorem dX9_undo_56 : decode cX9_undo 56 = .ok (.getfield 346, 3) := by decide +kernel
theorem dX9_undo_59 : decode cX9_undo 59 = .ok (.ireturn, 1) := by decide +kernel
theorem dX9_anew_0 : decode cX9_anew 0 = .ok (.aload_n 0, 1) := by decide +kernel
theorem dX9_anew_1 : decode cX9_anew 1 = .ok (.getfield 28, 3) := by decide +kernel
theorem dX9_anew_4 : decode cX9_anew 4 = .ok (.invokevirtual 148, 3) := by decide +kernel
theorem dX9_anew_7 : decode cX9_anew 7 = .ok (.ifCond .ne 6, 3) := by decide +kernel
theorem dX9_anew_10 : decode cX9_anew 10 = .ok (.bipush (-2), 2) := by decide +kernel
theorem dX9_anew_12 : decode cX9_anew 12 = .ok (.ireturn, 1) := by decide +kernel
theorem dX9_anew_13 : decode cX9_anew 13 = .ok (.aload_n 0, 1) := by decide +kernel
theorem dX9_anew_14 : decode cX9_anew 14 = .ok (.getfield 28, 3) := by decide +kernel
theorem dX9_anew_17 : decode cX9_anew 17 = .ok (.getfield 334, 3) := by decide +kernel
theorem dX9_anew_20 : decode cX9_anew 20 = .ok (.getfield 346, 3) := by decide +kernel
theorem dX9_anew_23 : decode cX9_anew 23 = .ok (.istore_n 1, 1) := by decide +kernel
theorem dX9_anew_24 : decode cX9_anew 24 = .ok (.aload_n 0, 1) := by decide +kernel
theorem dX9_anew_25 : decode cX9_anew 25 = .ok (.getfield 28, 3) := by decide +kernel
theorem dX9_anew_28 : decode cX9_anew 28 = .ok (.getfield 334, 3) := by decide +kernel
theorem dX9_anew_31 : decode cX9_anew 31 = .ok (.iconst 0, 1) := by decide +kernel
theorem dX9_anew_32 : decode cX9_anew 32 = .ok (.putfield 346, 3) := by decide +kernel
theorem dX9_anew_35 : decode cX9_anew 35 = .ok (.aload_n 0, 1) := by decide +kernel
theorem dX9_anew_36 : decode cX9_anew 36 = .ok (.invokevirtual 89, 3) := by decide +kernel
theorem dX9_anew_39 : decode cX9_anew 39 = .ok (.iload_n 1, 1) := by decide +kernel
theorem dX9_anew_40 : decode cX9_anew 40 = .ok (.ireturn, 1) := by decide +kernel
theorem dX9_drawn_0 : decode cX9_drawn 0 = .ok (.aload_n 0, 1) := by decide +kernel
theorem dX9_drawn_1 : decode cX9_drawn 1 = .ok (.getfield 28, 3) := by decide +kernel
theorem dX9_drawn_4 : decode cX9_drawn 4 = .ok (.invokevirtual 148, 3) := by decide +kernel
theorem dX9_drawn_7 : decode cX9_drawn 7 = .ok (.ifCond .eq 17, 3) := by decide +kernel
theorem dX9_drawn_10 : decode cX9_drawn 10 = .ok (.iload_n 1, 1) := by decide +kernel
theorem dX9_drawn_11 : decode cX9_drawn 11 = .ok (.invokestatic 347, 3) := by decide +kernel
theorem dX9_drawn_14 : decode cX9_drawn 14 = .ok (.ifCond .eq 10, 3) := by decide +kernel
theorem dX9_drawn_17 : decode cX9_drawn 17 = .ok (.iload_n 2, 1) := by decide +kernel
theorem dX9_drawn_18 : decode cX9_drawn 18 = .ok (.invokestatic 308, 3) := by decide +kernel
theorem dX9_drawn_21 : decode cX9_drawn 21 = .ok (.ifCond .ne 6, 3) := by decide +kernel
theorem dX9_drawn_24 : decode cX9_drawn 24 = .ok (.bipush (-2), 2) := by decide +kernel
theorem dX9_drawn_26 : decode cX9_drawn 26 = .ok (.ireturn, 1) := by decide +kernel
theorem dX9_drawn_27 : decode cX9_drawn 27 = .ok (.aload_n 0, 1) := by decide +kernel
theorem dX9_drawn_28 : decode cX9_drawn 28 = .ok (.iload_n 1, 1) := by decide +kernel
theorem dX9_drawn_29 : decode cX9_drawn 29 = .ok (.invokevirtual 350, 3) := by decide +kernel
theorem dX9_drawn_32 : decode cX9_drawn 32 = .ok (.istore_n 3, 1) := by decide +kernel
theorem dX9_drawn_33 : decode cX9_drawn 33 = .ok (.iload_n 2, 1) := by decide +kernel
theorem dX9_drawn_34 : decode cX9_drawn 34 = .ok (.ifCond .ne 7, 3) := by decide +kernel
theorem dX9_drawn_37 : decode cX9_drawn 37 = .ok (.iload_n 3, 1) := by decide +kernel
theorem dX9_drawn_38 : decode cX9_drawn 38 = .ok (.goto 8, 3) := by decide +kernel
theorem dX9_drawn_41 : decode cX9_drawn 41 = .ok (.aload_n 0, 1) := by decide +kernel
theorem dX9_drawn_42 : decode cX9_drawn 42 = .ok (.iload_n 3, 1) := by decide +kernel
theorem dX9_drawn_43 : decode cX9_drawn 43 = .ok (.invokevirtual 353, 3) := by decide +kernel
theorem dX9_drawn_46 : decode cX9_drawn 46 = .ok (.ireturn, 1) := by decide +kernel
theorem dX9_luck_0 : decode cX9_luck 0 = .ok (.iload_n 1, 1) := by decide +kernel
theorem dX9_luck_1 : decode cX9_luck 1 = .ok (.invokestatic 347, 3) := by decide +kernel
theorem dX9_luck_4 : decode cX9_luck 4 = .ok (.ifCond .eq 28, 3) := by decide +kernel
theorem dX9_luck_7 : decode cX9_luck 7 = .ok (.iload_n 2, 1) := by decide +kernel
theorem dX9_luck_8 : decode cX9_luck 8 = .ok (.iconst 1, 1) := by decide +kernel
theorem dX9_luck_9 : decode cX9_luck 9 = .ok (.if_icmp .lt 23, 3) := by decide +kernel
theorem dX9_luck_12 : decode cX9_luck 12 = .ok (.iload_n 2, 1) := by decide +kernel
theorem dX9_luck_13 : decode cX9_luck 13 = .ok (.bipush 20, 2) := by decide +kernel
theorem dX9_luck_15 : decode cX9_luck 15 = .ok (.if_icmp .gt 17, 3) := by decide +kernel
theorem dX9_luck_18 : decode cX9_luck 18 = .ok (.aload_n 0, 1) := by decide +kernel
theorem dX9_luck_19 : decode cX9_luck 19 = .ok (.getfield 28, 3) := by decide +kernel
theorem dX9_luck_22 : decode cX9_luck 22 = .ok (.getfield 124, 3) := by decide +kernel
theorem dX9_luck_25 : decode cX9_luck 25 = .ok (.iload_n 3, 1) := by decide +kernel
theorem dX9_luck_26 : decode cX9_luck 26 = .ok (.invokevirtual 128, 3) := by decide +kernel
theorem dX9_luck_29 : decode cX9_luck 29 = .ok (.ifCond .ne 6, 3) := by decide +kernel
theorem dX9_luck_32 : decode cX9_luck 32 = .ok (.bipush (-2), 2) := by decide +kernel
theorem dX9_luck_34 : decode cX9_luck 34 = .ok (.ireturn, 1) := by decide +kernel
theorem dX9_luck_35 : decode cX9_luck 35 = .ok (.iconst 0, 1) := by decide +kernel
theorem dX9_luck_36 : decode cX9_luck 36 = .ok (.istore 4, 2) := by decide +kernel
theorem dX9_luck_38 : decode cX9_luck 38 = .ok (.iconst 0, 1) := by decide +kernel
theorem dX9_luck_39 : decode cX9_luck 39 = .ok (.istore 5, 2) := by decide +kernel
theorem dX9_luck_41 : decode cX9_luck 41 = .ok (.iload 5, 2) := by decide +kernel
theorem dX9_luck_43 : decode cX9_luck 43 = .ok (.iload_n 2, 1) := by decide +kernel
theorem dX9_luck_44 : decode cX9_luck 44 = .ok (.if_icmp .ge 30, 3) := by decide +kernel
theorem dX9_luck_47 : decode cX9_luck 47 = .ok (.iload 4, 2) := by decide +kernel
theorem dX9_luck_49 : decode cX9_luck 49 = .ok (.aload_n 0, 1) := by decide +kernel
theorem dX9_luck_50 : decode cX9_luck 50 = .ok (.aload_n 0, 1) := by decide +kernel
theorem dX9_luck_51 : decode cX9_luck 51 = .ok (.iload_n 1, 1) := by decide +kernel
theorem dX9_luck_52 : decode cX9_luck 52 = .ok (.iload 5, 2) := by decide +kernel
theorem dX9_luck_54 : decode cX9_luck 54 = .ok (.iadd, 1) := by decide +kernel
theorem dX9_luck_55 : decode cX9_luck 55 = .ok (.invokevirtual 350, 3) := by decide +kernel
theorem dX9_luck_58 : decode cX9_luck 58 = .ok (.invokevirtual 353, 3) := by decide +kernel
theorem dX9_luck_61 : decode cX9_luck 61 = .ok (.iload_n 3, 1) := by decide +kernel
theorem dX9_luck_62 : decode cX9_luck 62 = .ok (.ishr, 1) := by decide +kernel
theorem dX9_luck_63 : decode cX9_luck 63 = .ok (.iconst 1, 1) := by decide +kernel
theorem dX9_luck_64 : decode cX9_luck 64 = .ok (.iand, 1) := by decide +kernel
theorem dX9_luck_65 : decode cX9_luck 65 = .ok (.iadd, 1) := by decide +kernel
theorem dX9_luck_66 : decode cX9_luck 66 = .ok (.istore 4, 2) := by decide +kernel
theorem dX9_luck_68 : decode cX9_luck 68 = .ok (.iinc 5 1, 3) := by decide +kernel
theorem dX9_luck_71 : decode cX9_luck 71 = .ok (.goto (-30), 3) := by decide +kernel
theorem dX9_luck_74 : decode cX9_luck 74 = .ok (.iload 4, 2) := by decide +kernel
theorem dX9_luck_76 : decode cX9_luck 76 = .ok (.ireturn, 1) := by decide +kernel
theorem dX9_digs_0 : decode cX9_digs 0 = .ok (.iload_n 2, 1) := by decide +kernel
theorem dX9_digs_1 : decode cX9_digs 1 = .ok (.iconst 1, 1) := by decide +kernel
theorem dX9_digs_2 : decode cX9_digs 2 = .ok (.if_icmp .lt 20, 3) := by decide +kernel
theorem dX9_digs_5 : decode cX9_digs 5 = .ok (.iload_n 2, 1) := by decide +kernel
theorem dX9_digs_6 : decode cX9_digs 6 = .ok (.bipush 9, 2) := by decide +kernel
theorem dX9_digs_8 : decode cX9_digs 8 = .ok (.if_icmp .gt 14, 3) := by decide +kernel
theorem dX9_digs_11 : decode cX9_digs 11 = .ok (.aload_n 0, 1) := by decide +kernel
theorem dX9_digs_12 : decode cX9_digs 12 = .ok (.getfield 28, 3) := by decide +kernel
theorem dX9_digs_15 : decode cX9_digs 15 = .ok (.iload_n 1, 1) := by decide +kernel
theorem dX9_digs_16 : decode cX9_digs 16 = .ok (.invokevirtual 98, 3) := by decide +kernel
theorem dX9_digs_19 : decode cX9_digs 19 = .ok (.ifCond .ne 6, 3) := by decide +kernel
theorem dX9_digs_22 : decode cX9_digs 22 = .ok (.bipush (-2), 2) := by decide +kernel
theorem dX9_digs_24 : decode cX9_digs 24 = .ok (.ireturn, 1) := by decide +kernel
theorem dX9_digs_25 : decode cX9_digs 25 = .ok (.aload_n 0, 1) := by decide +kernel
theorem dX9_digs_26 : decode cX9_digs 26 = .ok (.getfield 28, 3) := by decide +kernel
theorem dX9_digs_29 : decode cX9_digs 29 = .ok (.getfield 334, 3) := by decide +kernel
theorem dX9_digs_32 : decode cX9_digs 32 = .ok (.getfield 346, 3) := by decide +kernel
theorem dX9_digs_35 : decode cX9_digs 35 = .ok (.ifCond .le 6, 3) := by decide +kernel
theorem dX9_digs_38 : decode cX9_digs 38 = .ok (.bipush (-5), 2) := by decide +kernel
theorem dX9_digs_40 : decode cX9_digs 40 = .ok (.ireturn, 1) := by decide +kernel
theorem dX9_digs_41 : decode cX9_digs 41 = .ok (.aload_n 0, 1) := by decide +kernel
theorem dX9_digs_42 : decode cX9_digs 42 = .ok (.getfield 28, 3) := by decide +kernel
theorem dX9_digs_45 : decode cX9_digs 45 = .ok (.getfield 102, 3) := by decide +kernel
theorem dX9_digs_48 : decode cX9_digs 48 = .ok (.iload_n 1, 1) := by decide +kernel
theorem dX9_digs_49 : decode cX9_digs 49 = .ok (.iaload, 1) := by decide +kernel
theorem dX9_digs_50 : decode cX9_digs 50 = .ok (.istore_n 3, 1) := by decide +kernel
theorem dX9_digs_51 : decode cX9_digs 51 = .ok (.aload_n 0, 1) := by decide +kernel
theorem dX9_digs_52 : decode cX9_digs 52 = .ok (.getfield 28, 3) := by decide +kernel
theorem dX9_digs_55 : decode cX9_digs 55 = .ok (.getfield 102, 3) := by decide +kernel
theorem dX9_digs_58 : decode cX9_digs 58 = .ok (.iload_n 1, 1) := by decide +kernel
theorem dX9_digs_59 : decode cX9_digs 59 = .ok (.iload_n 2, 1) := by decide +kernel
theorem dX9_digs_60 : decode cX9_digs 60 = .ok (.iastore, 1) := by decide +kernel
theorem dX9_digs_61 : decode cX9_digs 61 = .ok (.aload_n 0, 1) := by decide +kernel
theorem dX9_digs_62 : decode cX9_digs 62 = .ok (.invokevirtual 89, 3) := by decide +kernel
theorem dX9_digs_65 : decode cX9_digs 65 = .ok (.iload_n 3, 1) := by decide +kernel
theorem dX9_digs_66 : decode cX9_digs 66 = .ok (.ireturn, 1) := by decide +kernel
theorem dX9_count_0 : decode cX9_count 0 = .ok (.iload_n 1, 1) := by decide +kernel
theorem dX9_count_1 : decode cX9_count 1 = .ok (.tableswitch 162 0 11 #[63, 71, 79, 87, 95, 103, 111, 119, 130, 141, 149, 157], 63) := by decide +kernel
theorem dX9_count_64 : decode cX9_count 64 = .ok (.aload_n 0, 1) := by decide +kernel
theorem dX9_count_65 : decode cX9_count 65 = .ok (.getfield 28, 3) := by decide +kernel
theorem dX9_count_68 : decode cX9_count 68 = .ok (.getfield 178, 3) := by decide +kernel
theorem dX9_count_71 : decode cX9_count 71 = .ok (.ireturn, 1) := by decide +kernel
theorem dX9_count_72 : decode cX9_count 72 = .ok (.aload_n 0, 1) := by decide +kernel
theorem dX9_count_73 : decode cX9_count 73 = .ok (.getfield 28, 3) := by decide +kernel
theorem dX9_count_76 : decode cX9_count 76 = .ok (.getfield 356, 3) := by decide +kernel
theorem dX9_count_79 : decode cX9_count 79 = .ok (.ireturn, 1) := by decide +kernel
theorem dX9_count_80 : decode cX9_count 80 = .ok (.aload_n 0, 1) := by decide +kernel
theorem dX9_count_81 : decode cX9_count 81 = .ok (.getfield 28, 3) := by decide +kernel
theorem dX9_count_84 : decode cX9_count 84 = .ok (.getfield 357, 3) := by decide +kernel
theorem dX9_count_87 : decode cX9_count 87 = .ok (.ireturn, 1) := by decide +kernel
theorem dX9_count_88 : decode cX9_count 88 = .ok (.aload_n 0, 1) := by decide +kernel
theorem dX9_count_89 : decode cX9_count 89 = .ok (.getfield 28, 3) := by decide +kernel
theorem dX9_count_92 : decode cX9_count 92 = .ok (.getfield 175, 3) := by decide +kernel
theorem dX9_count_95 : decode cX9_count 95 = .ok (.ireturn, 1) := by decide +kernel
theorem dX9_count_96 : decode cX9_count 96 = .ok (.aload_n 0, 1) := by decide +kernel
theorem dX9_count_97 : decode cX9_count 97 = .ok (.getfield 28, 3) := by decide +kernel
theorem dX9_count_100 : decode cX9_count 100 = .ok (.getfield 242, 3) := by decide +kernel
theorem dX9_count_103 : decode cX9_count 103 = .ok (.ireturn, 1) := by decide +kernel
theorem dX9_count_104 : decode cX9_count 104 = .ok (.aload_n 0, 1) := by decide +kernel
theorem dX9_count_105 : decode cX9_count 105 = .ok (.getfield 28, 3) := by decide +kernel
theorem dX9_count_108 : decode cX9_count 108 = .ok (.getfield 360, 3) := by decide +kernel
theorem dX9_count_111 : decode cX9_count 111 = .ok (.ireturn, 1) := by decide +kernel
theorem dX9_count_112 : decode cX9_count 112 = .ok (.aload_n 0, 1) := by decide +kernel
theorem dX9_count_113 : decode cX9_count 113 = .ok (.getfield 28, 3) := by decide +kernel
theorem dX9_count_116 : decode cX9_count 116 = .ok (.getfield 363, 3) := by decide +kernel
theorem dX9_count_119 : decode cX9_count 119 = .ok (.ireturn, 1) := by decide +kernel
theorem dX9_count_120 : decode cX9_count 120 = .ok (.aload_n 0, 1) := by decide +kernel
theorem dX9_count_121 : decode cX9_count 121 = .ok (.getfield 28, 3) := by decide +kernel
theorem dX9_count_124 : decode cX9_count 124 = .ok (.getfield 124, 3) := by decide +kernel
theorem dX9_count_127 : decode cX9_count 127 = .ok (.getfield 271, 3) := by decide +kernel
theorem dX9_count_130 : decode cX9_count 130 = .ok (.ireturn, 1) := by decide +kernel
theorem dX9_count_131 : decode cX9_count 131 = .ok (.aload_n 0, 1) := by decide +kernel
theorem dX9_count_132 : decode cX9_count 132 = .ok (.getfield 28, 3) := by decide +kernel
theorem dX9_count_135 : decode cX9_count 135 = .ok (.getfield 334, 3) := by decide +kernel
theorem dX9_count_138 : decode cX9_count 138 = .ok (.getfield 346, 3) := by decide +kernel
theorem dX9_count_141 : decode cX9_count 141 = .ok (.ireturn, 1) := by decide +kernel
theorem dX9_count_142 : decode cX9_count 142 = .ok (.aload_n 0, 1) := by decide +kernel
theorem dX9_count_143 : decode cX9_count 143 = .ok (.getfield 28, 3) := by decide +kernel
theorem dX9_count_146 : decode cX9_count 146 = .ok (.getfield 92, 3) := by decide +kernel
theorem dX9_count_149 : decode cX9_count 149 = .ok (.ireturn, 1) := by decide +kernel
theorem dX9_count_150 : decode cX9_count 150 = .ok (.aload_n 0, 1) := by decide +kernel
theorem dX9_count_151 : decode cX9_count 151 = .ok (.getfield 12, 3) := by decide +kernel
theorem dX9_count_154 : decode cX9_count 154 = .ok (.getfield 76, 3) := by decide +kernel
theorem dX9_count_157 : decode cX9_count 157 = .ok (.ireturn, 1) := by decide +kernel
theorem dX9_count_158 : decode cX9_count 158 = .ok (.aload_n 0, 1) := by decide +kernel
theorem dX9_count_159 : decode cX9_count 159 = .ok (.invokevirtual 364, 3) := by decide +kernel
theorem dX9_count_162 : decode cX9_count 162 = .ok (.ireturn, 1) := by decide +kernel
theorem dX9_count_163 : decode cX9_count 163 = .ok (.iconst (-1), 1) := by decide +kernel
theorem dX9_count_164 : decode cX9_count 164 = .ok (.ireturn, 1) := by decide +kernel
theorem dX9_image_0 : decode cX9_image 0 = .ok (.iload_n 1, 1) := by decide +kernel
theorem dX9_image_1 : decode cX9_image 1 = .ok (.ifCond .lt 8, 3) := by decide +kernel
theorem dX9_image_4 : decode cX9_image 4 = .ok (.iload_n 1, 1) := by decide +kernel
theorem dX9_image_5 : decode cX9_image 5 = .ok (.iconst 3, 1) := by decide +kernel
theorem dX9_image_6 : decode cX9_image 6 = .ok (.if_icmp .lt 6, 3) := by decide +kernel
theorem dX9_image_9 : decode cX9_image 9 = .ok (.bipush (-2), 2) := by decide +kernel
theorem dX9_image_11 : decode cX9_image 11 = .ok (.ireturn, 1) := by decide +kernel
theorem dX9_image_12 : decode cX9_image 12 = .ok (.aload_n 0, 1) := by decide +kernel
theorem dX9_image_13 : decode cX9_image 13 = .ok (.getfield 35, 3) := by decide +kernel
theorem dX9_image_16 : decode cX9_image 16 = .ok (.iload_n 1, 1) := by decide +kernel
theorem dX9_image_17 : decode cX9_image 17 = .ok (.aaload, 1) := by decide +kernel
theorem dX9_image_18 : decode cX9_image 18 = .ok (.aload_n 0, 1) := by decide +kernel
theorem dX9_image_19 : decode cX9_image 19 = .ok (.getfield 28, 3) := by decide +kernel
theorem dX9_image_22 : decode cX9_image 22 = .ok (.invokevirtual 367, 3) := by decide +kernel
theorem dX9_image_25 : decode cX9_image 25 = .ok (.aload_n 0, 1) := by decide +kernel
theorem dX9_image_26 : decode cX9_image 26 = .ok (.dup, 1) := by decide +kernel
theorem dX9_image_27 : decode cX9_image 27 = .ok (.getfield 39, 3) := by decide +kernel
theorem dX9_image_30 : decode cX9_image 30 = .ok (.iconst 1, 1) := by decide +kernel
theorem dX9_image_31 : decode cX9_image 31 = .ok (.iload_n 1, 1) := by decide +kernel
theorem dX9_image_32 : decode cX9_image 32 = .ok (.ishl, 1) := by decide +kernel
theorem dX9_image_33 : decode cX9_image 33 = .ok (.ior, 1) := by decide +kernel
theorem dX9_image_34 : decode cX9_image 34 = .ok (.putfield 39, 3) := by decide +kernel
theorem dX9_image_37 : decode cX9_image 37 = .ok (.iconst 0, 1) := by decide +kernel
theorem dX9_image_38 : decode cX9_image 38 = .ok (.ireturn, 1) := by decide +kernel
theorem dX9_back_0 : decode cX9_back 0 = .ok (.iload_n 1, 1) := by decide +kernel
theorem dX9_back_1 : decode cX9_back 1 = .ok (.ifCond .lt 8, 3) := by decide +kernel
theorem dX9_back_4 : decode cX9_back 4 = .ok (.iload_n 1, 1) := by decide +kernel
theorem dX9_back_5 : decode cX9_back 5 = .ok (.iconst 3, 1) := by decide +kernel
theorem dX9_back_6 : decode cX9_back 6 = .ok (.if_icmp .lt 6, 3) := by decide +kernel
theorem dX9_back_9 : decode cX9_back 9 = .ok (.bipush (-2), 2) := by decide +kernel
theorem dX9_back_11 : decode cX9_back 11 = .ok (.ireturn, 1) := by decide +kernel
theorem dX9_back_12 : decode cX9_back 12 = .ok (.aload_n 0, 1) := by decide +kernel
theorem dX9_back_13 : decode cX9_back 13 = .ok (.getfield 39, 3) := by decide +kernel
theorem dX9_back_16 : decode cX9_back 16 = .ok (.iload_n 1, 1) := by decide +kernel
theorem dX9_back_17 : decode cX9_back 17 = .ok (.ishr, 1) := by decide +kernel
theorem dX9_back_18 : decode cX9_back 18 = .ok (.iconst 1, 1) := by decide +kernel
theorem dX9_back_19 : decode cX9_back 19 = .ok (.iand, 1) := by decide +kernel
theorem dX9_back_20 : decode cX9_back 20 = .ok (.ifCond .ne 6, 3) := by decide +kernel
theorem dX9_back_23 : decode cX9_back 23 = .ok (.bipush (-6), 2) := by decide +kernel
theorem dX9_back_25 : decode cX9_back 25 = .ok (.ireturn, 1) := by decide +kernel
theorem dX9_back_26 : decode cX9_back 26 = .ok (.aload_n 0, 1) := by decide +kernel
theorem dX9_back_27 : decode cX9_back 27 = .ok (.getfield 28, 3) := by decide +kernel
theorem dX9_back_30 : decode cX9_back 30 = .ok (.aload_n 0, 1) := by decide +kernel
theorem dX9_back_31 : decode cX9_back 31 = .ok (.getfield 35, 3) := by decide +kernel
theorem dX9_back_34 : decode cX9_back 34 = .ok (.iload_n 1, 1) := by decide +kernel
theorem dX9_back_35 : decode cX9_back 35 = .ok (.aaload, 1) := by decide +kernel
theorem dX9_back_36 : decode cX9_back 36 = .ok (.invokevirtual 367, 3) := by decide +kernel
theorem dX9_back_39 : decode cX9_back 39 = .ok (.aload_n 0, 1) := by decide +kernel
theorem dX9_back_40 : decode cX9_back 40 = .ok (.invokevirtual 89, 3) := by decide +kernel
theorem dX9_back_43 : decode cX9_back 43 = .ok (.iconst 0, 1) := by decide +kernel
theorem dX9_back_44 : decode cX9_back 44 = .ok (.ireturn, 1) := by decide +kernel
theorem dX9_row_0 : decode cX9_row 0 = .ok (.iload_n 1, 1) := by decide +kernel
theorem dX9_row_1 : decode cX9_row 1 = .ok (.invokestatic 370, 3) := by decide +kernel
theorem dX9_row_4 : decode cX9_row 4 = .ok (.ifCond .eq 18, 3) := by decide +kernel
theorem dX9_row_7 : decode cX9_row 7 = .ok (.iload_n 2, 1) := by decide +kernel
theorem dX9_row_8 : decode cX9_row 8 = .ok (.ifCond .lt 14, 3) := by decide +kernel
theorem dX9_row_11 : decode cX9_row 11 = .ok (.iload_n 2, 1) := by decide +kernel
theorem dX9_row_12 : decode cX9_row 12 = .ok (.iconst 4, 1) := by decide +kernel
theorem dX9_row_13 : decode cX9_row 13 = .ok (.if_icmp .ge 9, 3) := by decide +kernel
theorem dX9_row_16 : decode cX9_row 16 = .ok (.iload_n 3, 1) := by decide +kernel
theorem dX9_row_17 : decode cX9_row 17 = .ok (.bipush 60, 2) := by decide +kernel
theorem dX9_row_19 : decode cX9_row 19 = .ok (.if_icmp .le 6, 3) := by decide +kernel
theorem dX9_row_22 : decode cX9_row 22 = .ok (.bipush (-2), 2) := by decide +kernel
theorem dX9_row_24 : decode cX9_row 24 = .ok (.ireturn, 1) := by decide +kernel
theorem dX9_row_25 : decode cX9_row 25 = .ok (.iload_n 3, 1) := by decide +kernel
theorem dX9_row_26 : decode cX9_row 26 = .ok (.ifCond .ge 6, 3) := by decide +kernel
theorem dX9_row_29 : decode cX9_row 29 = .ok (.bipush (-3), 2) := by decide +kernel
theorem dX9_row_31 : decode cX9_row 31 = .ok (.ireturn, 1) := by decide +kernel
theorem dX9_row_32 : decode cX9_row 32 = .ok (.aload_n 0, 1) := by decide +kernel
theorem dX9_row_33 : decode cX9_row 33 = .ok (.getfield 71, 3) := by decide +kernel
theorem dX9_row_36 : decode cX9_row 36 = .ok (.iload_n 1, 1) := by decide +kernel
theorem dX9_row_37 : decode cX9_row 37 = .ok (.aaload, 1) := by decide +kernel
theorem dX9_row_38 : decode cX9_row 38 = .ok (.iload_n 2, 1) := by decide +kernel
theorem dX9_row_39 : decode cX9_row 39 = .ok (.iload_n 3, 1) := by decide +kernel
theorem dX9_row_40 : decode cX9_row 40 = .ok (.invokevirtual 373, 3) := by decide +kernel
theorem dX9_row_43 : decode cX9_row 43 = .ok (.iconst 0, 1) := by decide +kernel
theorem dX9_row_44 : decode cX9_row 44 = .ok (.ireturn, 1) := by decide +kernel
theorem dX9_write_0 : decode cX9_write 0 = .ok (.iload_n 1, 1) := by decide +kernel
theorem dX9_write_1 : decode cX9_write 1 = .ok (.invokestatic 370, 3) := by decide +kernel
theorem dX9_write_4 : decode cX9_write 4 = .ok (.ifCond .ne 6, 3) := by decide +kernel
theorem dX9_write_7 : decode cX9_write 7 = .ok (.bipush (-2), 2) := by decide +kernel
theorem dX9_write_9 : decode cX9_write 9 = .ok (.ireturn, 1) := by decide +kernel
theorem dX9_write_10 : decode cX9_write 10 = .ok (.aload_n 0, 1) := by decide +kernel
theorem dX9_write_11 : decode cX9_write 11 = .ok (.getfield 71, 3) := by decide +kernel
theorem dX9_write_14 : decode cX9_write 14 = .ok (.iload_n 1, 1) := by decide +kernel
theorem dX9_write_15 : decode cX9_write 15 = .ok (.aaload, 1) := by decide +kernel
theorem dX9_write_16 : decode cX9_write 16 = .ok (.astore 5, 2) := by decide +kernel
theorem dX9_write_18 : decode cX9_write 18 = .ok (.aload 5, 2) := by decide +kernel
theorem dX9_write_20 : decode cX9_write 20 = .ok (.invokevirtual 377, 3) := by decide +kernel
theorem dX9_write_23 : decode cX9_write 23 = .ok (.ifCond .ne 6, 3) := by decide +kernel
theorem dX9_write_26 : decode cX9_write 26 = .ok (.bipush (-6), 2) := by decide +kernel
theorem dX9_write_28 : decode cX9_write 28 = .ok (.ireturn, 1) := by decide +kernel
theorem dX9_write_29 : decode cX9_write 29 = .ok (.iload_n 2, 1) := by decide +kernel
theorem dX9_write_30 : decode cX9_write 30 = .ok (.ifCond .lt 12, 3) := by decide +kernel
theorem dX9_write_33 : decode cX9_write 33 = .ok (.iload_n 2, 1) := by decide +kernel
theorem dX9_write_34 : decode cX9_write 34 = .ok (.aload 5, 2) := by decide +kernel
theorem dX9_write_36 : decode cX9_write 36 = .ok (.getfield 380, 3) := by decide +kernel
theorem dX9_write_39 : decode cX9_write 39 = .ok (.if_icmp .lt 6, 3) := by decide +kernel
theorem dX9_write_42 : decode cX9_write 42 = .ok (.bipush (-7), 2) := by decide +kernel
theorem dX9_write_44 : decode cX9_write 44 = .ok (.ireturn, 1) := by decide +kernel
theorem dX9_write_45 : decode cX9_write 45 = .ok (.aload 5, 2) := by decide +kernel
theorem dX9_write_47 : decode cX9_write 47 = .ok (.getfield 381, 3) := by decide +kernel
theorem dX9_write_50 : decode cX9_write 50 = .ok (.iload_n 2, 1) := by decide +kernel
theorem dX9_write_51 : decode cX9_write 51 = .ok (.lload_n 3, 1) := by decide +kernel
theorem dX9_write_52 : decode cX9_write 52 = .ok (.aload 5, 2) := by decide +kernel
theorem dX9_write_54 : decode cX9_write 54 = .ok (.getfield 385, 3) := by decide +kernel
theorem dX9_write_57 : decode cX9_write 57 = .ok (.invokestatic 388, 3) := by decide +kernel
theorem dX9_write_60 : decode cX9_write 60 = .ok (.lastore, 1) := by decide +kernel
theorem dX9_write_61 : decode cX9_write 61 = .ok (.iconst 0, 1) := by decide +kernel
theorem dX9_write_62 : decode cX9_write 62 = .ok (.ireturn, 1) := by decide +kernel
theorem dX9_paste_0 : decode cX9_paste 0 = .ok (.iload_n 1, 1) := by decide +kernel
theorem dX9_paste_1 : decode cX9_paste 1 = .ok (.invokestatic 370, 3) := by decide +kernel
theorem dX9_paste_4 : decode cX9_paste 4 = .ok (.ifCond .eq 10, 3) := by decide +kernel
theorem dX9_paste_7 : decode cX9_paste 7 = .ok (.iload_n 3, 1) := by decide +kernel
theorem dX9_paste_8 : decode cX9_paste 8 = .ok (.invokestatic 370, 3) := by decide +kernel
theorem dX9_paste_11 : decode cX9_paste 11 = .ok (.ifCond .ne 6, 3) := by decide +kernel
theorem dX9_paste_14 : decode cX9_paste 14 = .ok (.bipush (-2), 2) := by decide +kernel
theorem dX9_paste_16 : decode cX9_paste 16 = .ok (.ireturn, 1) := by decide +kernel
theorem dX9_paste_17 : decode cX9_paste 17 = .ok (.aload_n 0, 1) := by decide +kernel
theorem dX9_paste_18 : decode cX9_paste 18 = .ok (.getfield 71, 3) := by decide +kernel
theorem dX9_paste_21 : decode cX9_paste 21 = .ok (.iload_n 1, 1) := by decide +kernel
theorem dX9_paste_22 : decode cX9_paste 22 = .ok (.aaload, 1) := by decide +kernel
theorem dX9_paste_23 : decode cX9_paste 23 = .ok (.astore 6, 2) := by decide +kernel
theorem dX9_paste_25 : decode cX9_paste 25 = .ok (.aload_n 0, 1) := by decide +kernel
theorem dX9_paste_26 : decode cX9_paste 26 = .ok (.getfield 71, 3) := by decide +kernel
theorem dX9_paste_29 : decode cX9_paste 29 = .ok (.iload_n 3, 1) := by decide +kernel
theorem dX9_paste_30 : decode cX9_paste 30 = .ok (.aaload, 1) := by decide +kernel
theorem dX9_paste_31 : decode cX9_paste 31 = .ok (.astore 7, 2) := by decide +kernel
theorem dX9_paste_33 : decode cX9_paste 33 = .ok (.aload 6, 2) := by decide +kernel
theorem dX9_paste_35 : decode cX9_paste 35 = .ok (.invokevirtual 377, 3) := by decide +kernel
theorem dX9_paste_38 : decode cX9_paste 38 = .ok (.ifCond .eq 11, 3) := by decide +kernel
theorem dX9_paste_41 : decode cX9_paste 41 = .ok (.aload 7, 2) := by decide +kernel
theorem dX9_paste_43 : decode cX9_paste 43 = .ok (.invokevirtual 377, 3) := by decide +kernel
theorem dX9_paste_46 : decode cX9_paste 46 = .ok (.ifCond .ne 6, 3) := by decide +kernel
theorem dX9_paste_49 : decode cX9_paste 49 = .ok (.bipush (-6), 2) := by decide +kernel
theorem dX9_paste_51 : decode cX9_paste 51 = .ok (.ireturn, 1) := by decide +kernel
theorem dX9_paste_52 : decode cX9_paste 52 = .ok (.aload 6, 2) := by decide +kernel
theorem dX9_paste_54 : decode cX9_paste 54 = .ok (.getfield 385, 3) := by decide +kernel
theorem dX9_paste_57 : decode cX9_paste 57 = .ok (.aload 7, 2) := by decide +kernel
theorem dX9_paste_59 : decode cX9_paste 59 = .ok (.getfield 385, 3) := by decide +kernel
theorem dX9_paste_62 : decode cX9_paste 62 = .ok (.if_icmp .eq 6, 3) := by decide +kernel
theorem dX9_paste_65 : decode cX9_paste 65 = .ok (.bipush (-8), 2) := by decide +kernel
theorem dX9_paste_67 : decode cX9_paste 67 = .ok (.ireturn, 1) := by decide +kernel
theorem dX9_paste_68 : decode cX9_paste 68 = .ok (.aload 6, 2) := by decide +kernel
theorem dX9_paste_70 : decode cX9_paste 70 = .ok (.iload_n 2, 1) := by decide +kernel
theorem dX9_paste_71 : decode cX9_paste 71 = .ok (.iload 5, 2) := by decide +kernel
theorem dX9_paste_73 : decode cX9_paste 73 = .ok (.invokevirtual 392, 3) := by decide +kernel
theorem dX9_paste_76 : decode cX9_paste 76 = .ok (.ifCond .eq 15, 3) := by decide +kernel
theorem dX9_paste_79 : decode cX9_paste 79 = .ok (.aload 7, 2) := by decide +kernel
theorem dX9_paste_81 : decode cX9_paste 81 = .ok (.iload 4, 2) := by decide +kernel
theorem dX9_paste_83 : decode cX9_paste 83 = .ok (.iload 5, 2) := by decide +kernel
theorem dX9_paste_85 : decode cX9_paste 85 = .ok (.invokevirtual 392, 3) := by decide +kernel
theorem dX9_paste_88 : decode cX9_paste 88 = .ok (.ifCond .ne 6, 3) := by decide +kernel
theorem dX9_paste_91 : decode cX9_paste 91 = .ok (.bipush (-7), 2) := by decide +kernel
theorem dX9_paste_93 : decode cX9_paste 93 = .ok (.ireturn, 1) := by decide +kernel
theorem dX9_paste_94 : decode cX9_paste 94 = .ok (.aload 6, 2) := by decide +kernel
theorem dX9_paste_96 : decode cX9_paste 96 = .ok (.getfield 381, 3) := by decide +kernel
theorem dX9_paste_99 : decode cX9_paste 99 = .ok (.iload_n 2, 1) := by decide +kernel
theorem dX9_paste_100 : decode cX9_paste 100 = .ok (.aload 7, 2) := by decide +kernel
theorem dX9_paste_102 : decode cX9_paste 102 = .ok (.getfield 381, 3) := by decide +kernel
theorem dX9_paste_105 : decode cX9_paste 105 = .ok (.iload 4, 2) := by decide +kernel
theorem dX9_paste_107 : decode cX9_paste 107 = .ok (.iload 5, 2) := by decide +kernel
theorem dX9_paste_109 : decode cX9_paste 109 = .ok (.invokestatic 395, 3) := by decide +kernel
theorem dX9_paste_112 : decode cX9_paste 112 = .ok (.iconst 0, 1) := by decide +kernel
theorem dX9_paste_113 : decode cX9_paste 113 = .ok (.ireturn, 1) := by decide +kernel
theorem dX9_settle_0 : decode cX9_settle 0 = .ok (.aload_n 0, 1) := by decide +kernel
theorem dX9_settle_1 : decode cX9_settle 1 = .ok (.getfield 48, 3) := by decide +kernel
theorem dX9_settle_4 : decode cX9_settle 4 = .ok (.aload_n 0, 1) := by decide +kernel
theorem dX9_settle_5 : decode cX9_settle 5 = .ok (.getfield 28, 3) := by decide +kernel
theorem dX9_settle_8 : decode cX9_settle 8 = .ok (.invokevirtual 264, 3) := by decide +kernel
theorem dX9_settle_11 : decode cX9_settle 11 = .ok (.aload_n 0, 1) := by decide +kernel
theorem dX9_settle_12 : decode cX9_settle 12 = .ok (.getfield 48, 3) := by decide +kernel
theorem dX9_settle_15 : decode cX9_settle 15 = .ok (.invokevirtual 268, 3) := by decide +kernel
theorem dX9_settle_18 : decode cX9_settle 18 = .ok (.return_, 1) := by decide +kernel
theorem dX9_cell_0 : decode cX9_cell 0 = .ok (.iload_n 1, 1) := by decide +kernel
theorem dX9_cell_1 : decode cX9_cell 1 = .ok (.bipush 6, 2) := by decide +kernel
theorem dX9_cell_3 : decode cX9_cell 3 = .ok (.imul, 1) := by decide +kernel
theorem dX9_cell_4 : decode cX9_cell 4 = .ok (.iload_n 0, 1) := by decide +kernel
theorem dX9_cell_5 : decode cX9_cell 5 = .ok (.iadd, 1) := by decide +kernel
theorem dX9_cell_6 : decode cX9_cell 6 = .ok (.ireturn, 1) := by decide +kernel
theorem dX9_isEither_0 : decode cX9_isEither 0 = .ok (.iload_n 0, 1) := by decide +kernel
theorem dX9_isEither_1 : decode cX9_isEither 1 = .ok (.ifCond .eq 8, 3) := by decide +kernel
theorem dX9_isEither_4 : decode cX9_isEither 4 = .ok (.iload_n 0, 1) := by decide +kernel
theorem dX9_isEither_5 : decode cX9_isEither 5 = .ok (.iconst 1, 1) := by decide +kernel
theorem dX9_isEither_6 : decode cX9_isEither 6 = .ok (.if_icmp .ne 7, 3) := by decide +kernel
theorem dX9_isEither_9 : decode cX9_isEither 9 = .ok (.iconst 1, 1) := by decide +kernel
theorem dX9_isEither_10 : decode cX9_isEither 10 = .ok (.goto 4, 3) := by decide +kernel
theorem dX9_isEither_13 : decode cX9_isEither 13 = .ok (.iconst 0, 1) := by decide +kernel
theorem dX9_isEither_14 : decode cX9_isEither 14 = .ok (.ireturn, 1) := by decide +kernel
theorem dX9_isSlot_0 : decode cX9_isSlot 0 = .ok (.iload_n 0, 1) := by decide +kernel
theorem dX9_isSlot_1 : decode cX9_isSlot 1 = .ok (.ifCond .lt 12, 3) := by decide +kernel
theorem dX9_isSlot_4 : decode cX9_isSlot 4 = .ok (.iload_n 0, 1) := by decide +kernel
theorem dX9_isSlot_5 : decode cX9_isSlot 5 = .ok (.iconst 4, 1) := by decide +kernel
theorem dX9_isSlot_6 : decode cX9_isSlot 6 = .ok (.if_icmp .ge 7, 3) := by decide +kernel
theorem dX9_isSlot_9 : decode cX9_isSlot 9 = .ok (.iconst 1, 1) := by decide +kernel
theorem dX9_isSlot_10 : decode cX9_isSlot 10 = .ok (.goto 4, 3) := by decide +kernel
theorem dX9_isSlot_13 : decode cX9_isSlot 13 = .ok (.iconst 0, 1) := by decide +kernel
theorem dX9_isSlot_14 : decode cX9_isSlot 14 = .ok (.ireturn, 1) := by decide +kernel
theorem dX9_isSeed_0 : decode cX9_isSeed 0 = .ok (.iload_n 0, 1) := by decide +kernel
theorem dX9_isSeed_1 : decode cX9_isSeed 1 = .ok (.ifCond .lt 14, 3) := by decide +kernel
theorem dX9_isSeed_4 : decode cX9_isSeed 4 = .ok (.iload_n 0, 1) := by decide +kernel
theorem dX9_isSeed_5 : decode cX9_isSeed 5 = .ok (.ldc_w 401, 3) := by decide +kernel
theorem dX9_isSeed_8 : decode cX9_isSeed 8 = .ok (.if_icmp .gt 7, 3) := by decide +kernel
theorem dX9_isSeed_11 : decode cX9_isSeed 11 = .ok (.iconst 1, 1) := by decide +kernel
theorem dX9_isSeed_12 : decode cX9_isSeed 12 = .ok (.goto 4, 3) := by decide +kernel
theorem dX9_isSeed_15 : decode cX9_isSeed 15 = .ok (.iconst 0, 1) := by decide +kernel
theorem dX9_isSeed_16 : decode cX9_isSeed 16 = .ok (.ireturn, 1) := by decide +kernel
theorem dX9_isChanceYear_0 : decode cX9_isChanceYear 0 = .ok (.aload_n 0, 1) := by decide +kernel
theorem dX9_isChanceYear_1 : decode cX9_isChanceYear 1 = .ok (.getfield 28, 3) := by decide +kernel
theorem dX9_isChanceYear_4 : decode cX9_isChanceYear 4 = .ok (.iload_n 1, 1) := by decide +kernel
theorem dX9_isChanceYear_5 : decode cX9_isChanceYear 5 = .ok (.invokevirtual 142, 3) := by decide +kernel
theorem dX9_isChanceYear_8 : decode cX9_isChanceYear 8 = .ok (.ifCond .eq 13, 3) := by decide +kernel
theorem dX9_isChanceYear_11 : decode cX9_isChanceYear 11 = .ok (.iload_n 1, 1) := by decide +kernel
theorem dX9_isChanceYear_12 : decode cX9_isChanceYear 12 = .ok (.bipush 7, 2) := by decide +kernel
theorem dX9_isChanceYear_14 : decode cX9_isChanceYear 14 = .ok (.if_icmp .gt 7, 3) := by decide +kernel
theorem dX9_isChanceYear_17 : decode cX9_isChanceYear 17 = .ok (.iconst 1, 1) := by decide +kernel
theorem dX9_isChanceYear_18 : decode cX9_isChanceYear 18 = .ok (.goto 4, 3) := by decide +kernel
theorem dX9_isChanceYear_21 : decode cX9_isChanceYear 21 = .ok (.iconst 0, 1) := by decide +kernel
theorem dX9_isChanceYear_22 : decode cX9_isChanceYear 22 = .ok (.ireturn, 1) := by decide +kernel
theorem dX9_rowsThere_0 : decode cX9_rowsThere 0 = .ok (.iconst 0, 1) := by decide +kernel
theorem dX9_rowsThere_1 : decode cX9_rowsThere 1 = .ok (.istore_n 1, 1) := by decide +kernel
theorem dX9_rowsThere_2 : decode cX9_rowsThere 2 = .ok (.iconst 0, 1) := by decide +kernel
theorem dX9_rowsThere_3 : decode cX9_rowsThere 3 = .ok (.istore_n 2, 1) := by decide +kernel
theorem dX9_rowsThere_4 : decode cX9_rowsThere 4 = .ok (.iload_n 2, 1) := by decide +kernel
theorem dX9_rowsThere_5 : decode cX9_rowsThere 5 = .ok (.iconst 4, 1) := by decide +kernel
theorem dX9_rowsThere_6 : decode cX9_rowsThere 6 = .ok (.if_icmp .ge 24, 3) := by decide +kernel
theorem dX9_rowsThere_9 : decode cX9_rowsThere 9 = .ok (.aload_n 0, 1) := by decide +kernel
theorem dX9_rowsThere_10 : decode cX9_rowsThere 10 = .ok (.getfield 71, 3) := by decide +kernel
theorem dX9_rowsThere_13 : decode cX9_rowsThere 13 = .ok (.iload_n 2, 1) := by decide +kernel
theorem dX9_rowsThere_14 : decode cX9_rowsThere 14 = .ok (.aaload, 1) := by decide +kernel
theorem dX9_rowsThere_15 : decode cX9_rowsThere 15 = .ok (.invokevirtual 377, 3) := by decide +kernel
theorem dX9_rowsThere_18 : decode cX9_rowsThere 18 = .ok (.ifCond .eq 6, 3) := by decide +kernel
theorem dX9_rowsThere_21 : decode cX9_rowsThere 21 = .ok (.iinc 1 1, 3) := by decide +kernel
theorem dX9_rowsThere_24 : decode cX9_rowsThere 24 = .ok (.iinc 2 1, 3) := by decide +kernel
theorem dX9_rowsThere_27 : decode cX9_rowsThere 27 = .ok (.goto (-23), 3) := by decide +kernel
theorem dX9_rowsThere_30 : decode cX9_rowsThere 30 = .ok (.iload_n 1, 1) := by decide +kernel
theorem dX9_rowsThere_31 : decode cX9_rowsThere 31 = .ok (.ireturn, 1) := by decide +kernel
theorem dX9_cutToWidth_0 : decode cX9_cutToWidth 0 = .ok (.iload_n 2, 1) := by decide +kernel
theorem dX9_cutToWidth_1 : decode cX9_cutToWidth 1 = .ok (.tableswitch 41 0 2 #[27, 32, 37], 27) := by decide +kernel
theorem dX9_cutToWidth_28 : decode cX9_cutToWidth 28 = .ok (.lload_n 0, 1) := by decide +kernel
theorem dX9_cutToWidth_29 : decode cX9_cutToWidth 29 = .ok (.l2i, 1) := by decide +kernel
theorem dX9_cutToWidth_30 : decode cX9_cutToWidth 30 = .ok (.i2b, 1) := by decide +kernel
theorem dX9_cutToWidth_31 : decode cX9_cutToWidth 31 = .ok (.i2l, 1) := by decide +kernel
theorem dX9_cutToWidth_32 : decode cX9_cutToWidth 32 = .ok (.lreturn, 1) := by decide +kernel
theorem dX9_cutToWidth_33 : decode cX9_cutToWidth 33 = .ok (.lload_n 0, 1) := by decide +kernel
theorem dX9_cutToWidth_34 : decode cX9_cutToWidth 34 = .ok (.l2i, 1) := by decide +kernel
theorem dX9_cutToWidth_35 : decode cX9_cutToWidth 35 = .ok (.i2s, 1) := by decide +kernel
theorem dX9_cutToWidth_36 : decode cX9_cutToWidth 36 = .ok (.i2l, 1) := by decide +kernel
theorem dX9_cutToWidth_37 : decode cX9_cutToWidth 37 = .ok (.lreturn, 1) := by decide +kernel
theorem dX9_cutToWidth_38 : decode cX9_cutToWidth 38 = .ok (.lload_n 0, 1) := by decide +kernel
theorem dX9_cutToWidth_39 : decode cX9_cutToWidth 39 = .ok (.l2i, 1) := by decide +kernel
theorem dX9_cutToWidth_40 : decode cX9_cutToWidth 40 = .ok (.i2l, 1) := by decide +kernel
theorem dX9_cutToWidth_41 : decode cX9_cutToWidth 41 = .ok (.lreturn, 1) := by decide +kernel
theorem dX9_cutToWidth_42 : decode cX9_cutToWidth 42 = .ok (.lload_n 0, 1) := by decide +kernel
theorem dX9_cutToWidth_43 : decode cX9_cutToWidth 43 = .ok (.lreturn, 1) := by decide +kernel
theorem dX9_keptByLaw_0 : decode cX9_keptByLaw 0 = .ok (.aload_n 0, 1) := by decide +kernel
theorem dX9_keptByLaw_1 : decode cX9_keptByLaw 1 = .ok (.getfield 52, 3) := by decide +kernel
theorem dX9_keptByLaw_4 : decode cX9_keptByLaw 4 = .ok (.aload_n 0, 1) := by decide +kernel
theorem dX9_keptByLaw_5 : decode cX9_keptByLaw 5 = .ok (.getfield 28, 3) := by decide +kernel
theorem dX9_keptByLaw_8 : decode cX9_keptByLaw 8 = .ok (.invokevirtual 264, 3) := by decide +kernel
theorem dX9_keptByLaw_11 : decode cX9_keptByLaw 11 = .ok (.aload_n 0, 1) := by decide +kernel
theorem dX9_keptByLaw_12 : decode cX9_keptByLaw 12 = .ok (.getfield 52, 3) := by decide +kernel
theorem dX9_keptByLaw_15 : decode cX9_keptByLaw 15 = .ok (.iload_n 1, 1) := by decide +kernel
theorem dX9_keptByLaw_16 : decode cX9_keptByLaw 16 = .ok (.putfield 298, 3) := by decide +kernel
theorem dX9_keptByLaw_19 : decode cX9_keptByLaw 19 = .ok (.aload_n 0, 1) := by decide +kernel
theorem dX9_keptByLaw_20 : decode cX9_keptByLaw 20 = .ok (.getfield 52, 3) := by decide +kernel
theorem dX9_keptByLaw_23 : decode cX9_keptByLaw 23 = .ok (.invokevirtual 268, 3) := by decide +kernel
theorem dX9_keptByLaw_26 : decode cX9_keptByLaw 26 = .ok (.aload_n 0, 1) := by decide +kernel
theorem dX9_keptByLaw_27 : decode cX9_keptByLaw 27 = .ok (.getfield 52, 3) := by decide +kernel
theorem dX9_keptByLaw_30 : decode cX9_keptByLaw 30 = .ok (.aload_n 0, 1) := by decide +kernel
theorem dX9_keptByLaw_31 : decode cX9_keptByLaw 31 = .ok (.getfield 52, 3) := by decide +kernel
theorem dX9_keptByLaw_34 : decode cX9_keptByLaw 34 = .ok (.getfield 213, 3) := by decide +kernel
theorem dX9_keptByLaw_37 : decode cX9_keptByLaw 37 = .ok (.invokevirtual 236, 3) := by decide +kernel
theorem dX9_keptByLaw_40 : decode cX9_keptByLaw 40 = .ok (.ireturn, 1) := by decide +kernel
theorem dX9_keptInFrosts_0 : decode cX9_keptInFrosts 0 = .ok (.aload_n 0, 1) := by decide +kernel
theorem dX9_keptInFrosts_1 : decode cX9_keptInFrosts 1 = .ok (.getfield 52, 3) := by decide +kernel
theorem dX9_keptInFrosts_4 : decode cX9_keptInFrosts 4 = .ok (.aload_n 0, 1) := by decide +kernel
theorem dX9_keptInFrosts_5 : decode cX9_keptInFrosts 5 = .ok (.getfield 28, 3) := by decide +kernel
theorem dX9_keptInFrosts_8 : decode cX9_keptInFrosts 8 = .ok (.invokevirtual 264, 3) := by decide +kernel
theorem dX9_keptInFrosts_11 : decode cX9_keptInFrosts 11 = .ok (.aload_n 0, 1) := by decide +kernel
theorem dX9_keptInFrosts_12 : decode cX9_keptInFrosts 12 = .ok (.getfield 52, 3) := by decide +kernel
theorem dX9_keptInFrosts_15 : decode cX9_keptInFrosts 15 = .ok (.iload_n 1, 1) := by decide +kernel
theorem dX9_keptInFrosts_16 : decode cX9_keptInFrosts 16 = .ok (.putfield 152, 3) := by decide +kernel
theorem dX9_keptInFrosts_19 : decode cX9_keptInFrosts 19 = .ok (.aload_n 0, 1) := by decide +kernel
theorem dX9_keptInFrosts_20 : decode cX9_keptInFrosts 20 = .ok (.getfield 52, 3) := by decide +kernel
theorem dX9_keptInFrosts_23 : decode cX9_keptInFrosts 23 = .ok (.invokevirtual 268, 3) := by decide +kernel
theorem dX9_keptInFrosts_26 : decode cX9_keptInFrosts 26 = .ok (.aload_n 0, 1) := by decide +kernel
theorem dX9_keptInFrosts_27 : decode cX9_keptInFrosts 27 = .ok (.getfield 52, 3) := by decide +kernel
theorem dX9_keptInFrosts_30 : decode cX9_keptInFrosts 30 = .ok (.aload_n 0, 1) := by decide +kernel
theorem dX9_keptInFrosts_31 : decode cX9_keptInFrosts 31 = .ok (.getfield 52, 3) := by decide +kernel
theorem dX9_keptInFrosts_34 : decode cX9_keptInFrosts 34 = .ok (.getfield 213, 3) := by decide +kernel
theorem dX9_keptInFrosts_37 : decode cX9_keptInFrosts 37 = .ok (.invokevirtual 219, 3) := by decide +kernel
theorem dX9_keptInFrosts_40 : decode cX9_keptInFrosts 40 = .ok (.ireturn, 1) := by decide +kernel
theorem dX9_drawFrosts_0 : decode cX9_drawFrosts 0 = .ok (.iload_n 1, 1) := by decide +kernel
theorem dX9_drawFrosts_1 : decode cX9_drawFrosts 1 = .ok (.i2l, 1) := by decide +kernel
theorem dX9_drawFrosts_2 : decode cX9_drawFrosts 2 = .ok (.lstore_n 2, 1) := by decide +kernel
theorem dX9_drawFrosts_3 : decode cX9_drawFrosts 3 = .ok (.iconst 0, 1) := by decide +kernel
theorem dX9_drawFrosts_4 : decode cX9_drawFrosts 4 = .ok (.istore 4, 2) := by decide +kernel
theorem dX9_drawFrosts_6 : decode cX9_drawFrosts 6 = .ok (.iconst 0, 1) := by decide +kernel
theorem dX9_drawFrosts_7 : decode cX9_drawFrosts 7 = .ok (.istore 5, 2) := by decide +kernel
theorem dX9_drawFrosts_9 : decode cX9_drawFrosts 9 = .ok (.iload 5, 2) := by decide +kernel
theorem dX9_drawFrosts_11 : decode cX9_drawFrosts 11 = .ok (.aload_n 0, 1) := by decide +kernel
theorem dX9_drawFrosts_12 : decode cX9_drawFrosts 12 = .ok (.getfield 28, 3) := by decide +kernel
theorem dX9_drawFrosts_15 : decode cX9_drawFrosts 15 = .ok (.getfield 178, 3) := by decide +kernel
theorem dX9_drawFrosts_18 : decode cX9_drawFrosts 18 = .ok (.if_icmp .ge 53, 3) := by decide +kernel
theorem dX9_drawFrosts_21 : decode cX9_drawFrosts 21 = .ok (.ldc2_w 402, 3) := by decide +kernel
theorem dX9_drawFrosts_24 : decode cX9_drawFrosts 24 = .ok (.lload_n 2, 1) := by decide +kernel
theorem dX9_drawFrosts_25 : decode cX9_drawFrosts 25 = .ok (.lmul, 1) := by decide +kernel
theorem dX9_drawFrosts_26 : decode cX9_drawFrosts 26 = .ok (.ldc2_w 404, 3) := by decide +kernel
theorem dX9_drawFrosts_29 : decode cX9_drawFrosts 29 = .ok (.ladd, 1) := by decide +kernel
theorem dX9_drawFrosts_30 : decode cX9_drawFrosts 30 = .ok (.ldc2_w 406, 3) := by decide +kernel
theorem dX9_drawFrosts_33 : decode cX9_drawFrosts 33 = .ok (.lrem, 1) := by decide +kernel
theorem dX9_drawFrosts_34 : decode cX9_drawFrosts 34 = .ok (.lstore_n 2, 1) := by decide +kernel
theorem dX9_drawFrosts_35 : decode cX9_drawFrosts 35 = .ok (.lload_n 2, 1) := by decide +kernel
theorem dX9_drawFrosts_36 : decode cX9_drawFrosts 36 = .ok (.ldc2_w 408, 3) := by decide +kernel
theorem dX9_drawFrosts_39 : decode cX9_drawFrosts 39 = .ok (.ldiv, 1) := by decide +kernel
theorem dX9_drawFrosts_40 : decode cX9_drawFrosts 40 = .ok (.ldc2_w 410, 3) := by decide +kernel
theorem dX9_drawFrosts_43 : decode cX9_drawFrosts 43 = .ok (.lrem, 1) := by decide +kernel
theorem dX9_drawFrosts_44 : decode cX9_drawFrosts 44 = .ok (.aload_n 0, 1) := by decide +kernel
theorem dX9_drawFrosts_45 : decode cX9_drawFrosts 45 = .ok (.getfield 28, 3) := by decide +kernel
theorem dX9_drawFrosts_48 : decode cX9_drawFrosts 48 = .ok (.getfield 357, 3) := by decide +kernel
theorem dX9_drawFrosts_51 : decode cX9_drawFrosts 51 = .ok (.i2l, 1) := by decide +kernel
theorem dX9_drawFrosts_52 : decode cX9_drawFrosts 52 = .ok (.lcmp, 1) := by decide +kernel
theorem dX9_drawFrosts_53 : decode cX9_drawFrosts 53 = .ok (.ifCond .ge 12, 3) := by decide +kernel
theorem dX9_drawFrosts_56 : decode cX9_drawFrosts 56 = .ok (.iload 4, 2) := by decide +kernel
theorem dX9_drawFrosts_58 : decode cX9_drawFrosts 58 = .ok (.iconst 1, 1) := by decide +kernel
theorem dX9_drawFrosts_59 : decode cX9_drawFrosts 59 = .ok (.iload 5, 2) := by decide +kernel
theorem dX9_drawFrosts_61 : decode cX9_drawFrosts 61 = .ok (.ishl, 1) := by decide +kernel
theorem dX9_drawFrosts_62 : decode cX9_drawFrosts 62 = .ok (.ior, 1) := by decide +kernel
theorem dX9_drawFrosts_63 : decode cX9_drawFrosts 63 = .ok (.istore 4, 2) := by decide +kernel
theorem dX9_drawFrosts_65 : decode cX9_drawFrosts 65 = .ok (.iinc 5 1, 3) := by decide +kernel
theorem dX9_drawFrosts_68 : decode cX9_drawFrosts 68 = .ok (.goto (-59), 3) := by decide +kernel
theorem dX9_drawFrosts_71 : decode cX9_drawFrosts 71 = .ok (.iload 4, 2) := by decide +kernel
theorem dX9_drawFrosts_73 : decode cX9_drawFrosts 73 = .ok (.ireturn, 1) := by decide +kernel
theorem dX9_gain_0 : decode cX9_gain 0 = .ok (.aload_n 0, 1) := by decide +kernel
theorem dX9_gain_1 : decode cX9_gain 1 = .ok (.getfield 48, 3) := by decide +kernel
theorem dX9_gain_4 : decode cX9_gain 4 = .ok (.aload_n 0, 1) := by decide +kernel
theorem dX9_gain_5 : decode cX9_gain 5 = .ok (.getfield 48, 3) := by decide +kernel
theorem dX9_gain_8 : decode cX9_gain 8 = .ok (.getfield 213, 3) := by decide +kernel
theorem dX9_gain_11 : decode cX9_gain 11 = .ok (.iload_n 3, 1) := by decide +kernel
theorem dX9_gain_12 : decode cX9_gain 12 = .ok (.iload_n 1, 1) := by decide +kernel
theorem dX9_gain_13 : decode cX9_gain 13 = .ok (.ishl, 1) := by decide +kernel
theorem dX9_gain_14 : decode cX9_gain 14 = .ok (.ior, 1) := by decide +kernel
theorem dX9_gain_15 : decode cX9_gain 15 = .ok (.iload 4, 2) := by decide +kernel
theorem dX9_gain_17 : decode cX9_gain 17 = .ok (.iload_n 2, 1) := by decide +kernel
theorem dX9_gain_18 : decode cX9_gain 18 = .ok (.ishl, 1) := by decide +kernel
theorem dX9_gain_19 : decode cX9_gain 19 = .ok (.ior, 1) := by decide +kernel
theorem dX9_gain_20 : decode cX9_gain 20 = .ok (.invokevirtual 219, 3) := by decide +kernel
theorem dX9_gain_23 : decode cX9_gain 23 = .ok (.istore 5, 2) := by decide +kernel
theorem dX9_gain_25 : decode cX9_gain 25 = .ok (.iload 5, 2) := by decide +kernel
theorem dX9_gain_27 : decode cX9_gain 27 = .ok (.aload_n 0, 1) := by decide +kernel
theorem dX9_gain_28 : decode cX9_gain 28 = .ok (.getfield 28, 3) := by decide +kernel
theorem dX9_gain_31 : decode cX9_gain 31 = .ok (.getfield 124, 3) := by decide +kernel
theorem dX9_gain_34 : decode cX9_gain 34 = .ok (.iload_n 1, 1) := by decide +kernel
theorem dX9_gain_35 : decode cX9_gain 35 = .ok (.invokevirtual 225, 3) := by decide +kernel
theorem dX9_gain_38 : decode cX9_gain 38 = .ok (.aload_n 0, 1) := by decide +kernel
theorem dX9_gain_39 : decode cX9_gain 39 = .ok (.getfield 28, 3) := by decide +kernel
theorem dX9_gain_42 : decode cX9_gain 42 = .ok (.getfield 124, 3) := by decide +kernel
theorem dX9_gain_45 : decode cX9_gain 45 = .ok (.iload_n 1, 1) := by decide +kernel
theorem dX9_gain_46 : decode cX9_gain 46 = .ok (.invokevirtual 233, 3) := by decide +kernel
theorem dX9_gain_49 : decode cX9_gain 49 = .ok (.ior, 1) := by decide +kernel
theorem dX9_gain_50 : decode cX9_gain 50 = .ok (.iand, 1) := by decide +kernel
theorem dX9_gain_51 : decode cX9_gain 51 = .ok (.istore 6, 2) := by decide +kernel
theorem dX9_gain_53 : decode cX9_gain 53 = .ok (.iconst 3, 1) := by decide +kernel
theorem dX9_gain_54 : decode cX9_gain 54 = .ok (.iload 6, 2) := by decide +kernel
theorem dX9_gain_56 : decode cX9_gain 56 = .ok (.invokestatic 228, 3) := by decide +kernel
theorem dX9_gain_59 : decode cX9_gain 59 = .ok (.imul, 1) := by decide +kernel
theorem dX9_gain_60 : decode cX9_gain 60 = .ok (.iconst 4, 1) := by decide +kernel
theorem dX9_gain_61 : decode cX9_gain 61 = .ok (.iload_n 3, 1) := by decide +kernel
theorem dX9_gain_62 : decode cX9_gain 62 = .ok (.imul, 1) := by decide +kernel
theorem dX9_gain_63 : decode cX9_gain 63 = .ok (.isub, 1) := by decide +kernel
theorem dX9_gain_64 : decode cX9_gain 64 = .ok (.ireturn, 1) := by decide +kernel
theorem dX9_weight_0 : decode cX9_weight 0 = .ok (.lconst 1, 1) := by decide +kernel
theorem dX9_weight_1 : decode cX9_weight 1 = .ok (.lstore_n 3, 1) := by decide +kernel
theorem dX9_weight_2 : decode cX9_weight 2 = .ok (.iconst 0, 1) := by decide +kernel
theorem dX9_weight_3 : decode cX9_weight 3 = .ok (.istore 5, 2) := by decide +kernel
theorem dX9_weight_5 : decode cX9_weight 5 = .ok (.iload 5, 2) := by decide +kernel
theorem dX9_weight_7 : decode cX9_weight 7 = .ok (.iload_n 2, 1) := by decide +kernel
theorem dX9_weight_8 : decode cX9_weight 8 = .ok (.if_icmp .gt 43, 3) := by decide +kernel
theorem dX9_weight_11 : decode cX9_weight 11 = .ok (.lload_n 3, 1) := by decide +kernel
theorem dX9_weight_12 : decode cX9_weight 12 = .ok (.iload_n 1, 1) := by decide +kernel
theorem dX9_weight_13 : decode cX9_weight 13 = .ok (.iload 5, 2) := by decide +kernel
theorem dX9_weight_15 : decode cX9_weight 15 = .ok (.ishr, 1) := by decide +kernel
theorem dX9_weight_16 : decode cX9_weight 16 = .ok (.iconst 1, 1) := by decide +kernel
theorem dX9_weight_17 : decode cX9_weight 17 = .ok (.iand, 1) := by decide +kernel
theorem dX9_weight_18 : decode cX9_weight 18 = .ok (.ifCond .eq 14, 3) := by decide +kernel
theorem dX9_weight_21 : decode cX9_weight 21 = .ok (.aload_n 0, 1) := by decide +kernel
theorem dX9_weight_22 : decode cX9_weight 22 = .ok (.getfield 28, 3) := by decide +kernel
theorem dX9_weight_25 : decode cX9_weight 25 = .ok (.getfield 357, 3) := by decide +kernel
theorem dX9_weight_28 : decode cX9_weight 28 = .ok (.i2l, 1) := by decide +kernel
theorem dX9_weight_29 : decode cX9_weight 29 = .ok (.goto 14, 3) := by decide +kernel
theorem dX9_weight_32 : decode cX9_weight 32 = .ok (.bipush 10, 2) := by decide +kernel
theorem dX9_weight_34 : decode cX9_weight 34 = .ok (.aload_n 0, 1) := by decide +kernel
theorem dX9_weight_35 : decode cX9_weight 35 = .ok (.getfield 28, 3) := by decide +kernel
theorem dX9_weight_38 : decode cX9_weight 38 = .ok (.getfield 357, 3) := by decide +kernel
theorem dX9_weight_41 : decode cX9_weight 41 = .ok (.isub, 1) := by decide +kernel
theorem dX9_weight_42 : decode cX9_weight 42 = .ok (.i2l, 1) := by decide +kernel
theorem dX9_weight_43 : decode cX9_weight 43 = .ok (.lmul, 1) := by decide +kernel
theorem dX9_weight_44 : decode cX9_weight 44 = .ok (.lstore_n 3, 1) := by decide +kernel
theorem dX9_weight_45 : decode cX9_weight 45 = .ok (.iinc 5 1, 3) := by decide +kernel
theorem dX9_weight_48 : decode cX9_weight 48 = .ok (.goto (-43), 3) := by decide +kernel
theorem dX9_weight_51 : decode cX9_weight 51 = .ok (.lload_n 3, 1) := by decide +kernel
theorem dX9_weight_52 : decode cX9_weight 52 = .ok (.lreturn, 1) := by decide +kernel
theorem dX9_allWeights_0 : decode cX9_allWeights 0 = .ok (.lconst 1, 1) := by decide +kernel
theorem dX9_allWeights_1 : decode cX9_allWeights 1 = .ok (.lstore_n 1, 1) := by decide +kernel
theorem dX9_allWeights_2 : decode cX9_allWeights 2 = .ok (.iconst 0, 1) := by decide +kernel
theorem dX9_allWeights_3 : decode cX9_allWeights 3 = .ok (.istore_n 3, 1) := by decide +kernel
theorem dX9_allWeights_4 : decode cX9_allWeights 4 = .ok (.iload_n 3, 1) := by decide +kernel
theorem dX9_allWeights_5 : decode cX9_allWeights 5 = .ok (.iload_n 0, 1) := by decide +kernel
theorem dX9_allWeights_6 : decode cX9_allWeights 6 = .ok (.if_icmp .gt 15, 3) := by decide +kernel
theorem dX9_allWeights_9 : decode cX9_allWeights 9 = .ok (.lload_n 1, 1) := by decide +kernel
theorem dX9_allWeights_10 : decode cX9_allWeights 10 = .ok (.ldc2_w 410, 3) := by decide +kernel
theorem dX9_allWeights_13 : decode cX9_allWeights 13 = .ok (.lmul, 1) := by decide +kernel
theorem dX9_allWeights_14 : decode cX9_allWeights 14 = .ok (.lstore_n 1, 1) := by decide +kernel
theorem dX9_allWeights_15 : decode cX9_allWeights 15 = .ok (.iinc 3 1, 3) := by decide +kernel
theorem dX9_allWeights_18 : decode cX9_allWeights 18 = .ok (.goto (-14), 3) := by decide +kernel
theorem dX9_allWeights_21 : decode cX9_allWeights 21 = .ok (.lload_n 1, 1) := by decide +kernel
theorem dX9_allWeights_22 : decode cX9_allWeights 22 = .ok (.lreturn, 1) := by decide +kernel
theorem dX9_inLowestTerms_0 : decode cX9_inLowestTerms 0 = .ok (.lload_n 0, 1) := by decide +kernel
theorem dX9_inLowestTerms_1 : decode cX9_inLowestTerms 1 = .ok (.lstore 5, 2) := by decide +kernel
theorem dX9_inLowestTerms_3 : decode cX9_inLowestTerms 3 = .ok (.lload_n 2, 1) := by decide +kernel
theorem dX9_inLowestTerms_4 : decode cX9_inLowestTerms 4 = .ok (.lstore 7, 2) := by decide +kernel
theorem dX9_inLowestTerms_6 : decode cX9_inLowestTerms 6 = .ok (.iconst 0, 1) := by decide +kernel
theorem dX9_inLowestTerms_7 : decode cX9_inLowestTerms 7 = .ok (.istore 9, 2) := by decide +kernel
theorem dX9_inLowestTerms_9 : decode cX9_inLowestTerms 9 = .ok (.iload 9, 2) := by decide +kernel
theorem dX9_inLowestTerms_11 : decode cX9_inLowestTerms 11 = .ok (.sipush 200, 3) := by decide +kernel
theorem dX9_inLowestTerms_14 : decode cX9_inLowestTerms 14 = .ok (.if_icmp .ge 31, 3) := by decide +kernel
theorem dX9_inLowestTerms_17 : decode cX9_inLowestTerms 17 = .ok (.lload 5, 2) := by decide +kernel
theorem dX9_inLowestTerms_19 : decode cX9_inLowestTerms 19 = .ok (.lconst 0, 1) := by decide +kernel
theorem dX9_inLowestTerms_20 : decode cX9_inLowestTerms 20 = .ok (.lcmp, 1) := by decide +kernel
theorem dX9_inLowestTerms_21 : decode cX9_inLowestTerms 21 = .ok (.ifCond .eq 24, 3) := by decide +kernel
theorem dX9_inLowestTerms_24 : decode cX9_inLowestTerms 24 = .ok (.lload 7, 2) := by decide +kernel
theorem dX9_inLowestTerms_26 : decode cX9_inLowestTerms 26 = .ok (.lload 5, 2) := by decide +kernel
theorem dX9_inLowestTerms_28 : decode cX9_inLowestTerms 28 = .ok (.lrem, 1) := by decide +kernel
theorem dX9_inLowestTerms_29 : decode cX9_inLowestTerms 29 = .ok (.lstore 10, 2) := by decide +kernel
theorem dX9_inLowestTerms_31 : decode cX9_inLowestTerms 31 = .ok (.lload 5, 2) := by decide +kernel
theorem dX9_inLowestTerms_33 : decode cX9_inLowestTerms 33 = .ok (.lstore 7, 2) := by decide +kernel
theorem dX9_inLowestTerms_35 : decode cX9_inLowestTerms 35 = .ok (.lload 10, 2) := by decide +kernel
theorem dX9_inLowestTerms_37 : decode cX9_inLowestTerms 37 = .ok (.lstore 5, 2) := by decide +kernel
theorem dX9_inLowestTerms_39 : decode cX9_inLowestTerms 39 = .ok (.iinc 9 1, 3) := by decide +kernel
theorem dX9_inLowestTerms_42 : decode cX9_inLowestTerms 42 = .ok (.goto (-33), 3) := by decide +kernel
theorem dX9_inLowestTerms_45 : decode cX9_inLowestTerms 45 = .ok (.lload 7, 2) := by decide +kernel
theorem dX9_inLowestTerms_47 : decode cX9_inLowestTerms 47 = .ok (.lconst 0, 1) := by decide +kernel
theorem dX9_inLowestTerms_48 : decode cX9_inLowestTerms 48 = .ok (.lcmp, 1) := by decide +kernel
theorem dX9_inLowestTerms_49 : decode cX9_inLowestTerms 49 = .ok (.ifCond .ne 7, 3) := by decide +kernel
theorem dX9_inLowestTerms_52 : decode cX9_inLowestTerms 52 = .ok (.ldc2_w 324, 3) := by decide +kernel
theorem dX9_inLowestTerms_55 : decode cX9_inLowestTerms 55 = .ok (.lreturn, 1) := by decide +kernel
theorem dX9_inLowestTerms_56 : decode cX9_inLowestTerms 56 = .ok (.iload 4, 2) := by decide +kernel
theorem dX9_inLowestTerms_58 : decode cX9_inLowestTerms 58 = .ok (.ifCond .ne 7, 3) := by decide +kernel
theorem dX9_inLowestTerms_61 : decode cX9_inLowestTerms 61 = .ok (.lload_n 0, 1) := by decide +kernel
theorem dX9_inLowestTerms_62 : decode cX9_inLowestTerms 62 = .ok (.goto 4, 3) := by decide +kernel
theorem dX9_inLowestTerms_65 : decode cX9_inLowestTerms 65 = .ok (.lload_n 2, 1) := by decide +kernel
theorem dX9_inLowestTerms_66 : decode cX9_inLowestTerms 66 = .ok (.lload 7, 2) := by decide +kernel
theorem dX9_inLowestTerms_68 : decode cX9_inLowestTerms 68 = .ok (.ldiv, 1) := by decide +kernel
theorem dX9_inLowestTerms_69 : decode cX9_inLowestTerms 69 = .ok (.lreturn, 1) := by decide +kernel
theorem dX9_whyNotSeen_0 : decode cX9_whyNotSeen 0 = .ok (.iload_n 2, 1) := by decide +kernel
theorem dX9_whyNotSeen_1 : decode cX9_whyNotSeen 1 = .ok (.ifCond .eq 10, 3) := by decide +kernel
theorem dX9_whyNotSeen_4 : decode cX9_whyNotSeen 4 = .ok (.iload_n 1, 1) := by decide +kernel
theorem dX9_whyNotSeen_5 : decode cX9_whyNotSeen 5 = .ok (.invokestatic 370, 3) := by decide +kernel
theorem dX9_whyNotSeen_8 : decode cX9_whyNotSeen 8 = .ok (.ifCond .ne 6, 3) := by decide +kernel
theorem dX9_whyNotSeen_11 : decode cX9_whyNotSeen 11 = .ok (.bipush (-2), 2) := by decide +kernel
theorem dX9_whyNotSeen_13 : decode cX9_whyNotSeen 13 = .ok (.ireturn, 1) := by decide +kernel
theorem dX9_whyNotSeen_14 : decode cX9_whyNotSeen 14 = .ok (.aload_n 0, 1) := by decide +kernel
theorem dX9_whyNotSeen_15 : decode cX9_whyNotSeen 15 = .ok (.getfield 71, 3) := by decide +kernel
theorem dX9_whyNotSeen_18 : decode cX9_whyNotSeen 18 = .ok (.iload_n 1, 1) := by decide +kernel
theorem dX9_whyNotSeen_19 : decode cX9_whyNotSeen 19 = .ok (.aaload, 1) := by decide +kernel
theorem dX9_whyNotSeen_20 : decode cX9_whyNotSeen 20 = .ok (.invokevirtual 377, 3) := by decide +kernel
theorem dX9_whyNotSeen_23 : decode cX9_whyNotSeen 23 = .ok (.ifCond .ne 6, 3) := by decide +kernel
theorem dX9_whyNotSeen_26 : decode cX9_whyNotSeen 26 = .ok (.bipush (-6), 2) := by decide +kernel
theorem dX9_whyNotSeen_28 : decode cX9_whyNotSeen 28 = .ok (.ireturn, 1) := by decide +kernel
theorem dX9_whyNotSeen_29 : decode cX9_whyNotSeen 29 = .ok (.aload_n 0, 1) := by decide +kernel
theorem dX9_whyNotSeen_30 : decode cX9_whyNotSeen 30 = .ok (.getfield 71, 3) := by decide +kernel
theorem dX9_whyNotSeen_33 : decode cX9_whyNotSeen 33 = .ok (.iload_n 1, 1) := by decide +kernel
theorem dX9_whyNotSeen_34 : decode cX9_whyNotSeen 34 = .ok (.aaload, 1) := by decide +kernel
theorem dX9_whyNotSeen_35 : decode cX9_whyNotSeen 35 = .ok (.aload_n 0, 1) := by decide +kernel
theorem dX9_whyNotSeen_36 : decode cX9_whyNotSeen 36 = .ok (.getfield 28, 3) := by decide +kernel
theorem dX9_whyNotSeen_39 : decode cX9_whyNotSeen 39 = .ok (.invokevirtual 412, 3) := by decide +kernel
theorem dX9_whyNotSeen_42 : decode cX9_whyNotSeen 42 = .ok (.ifCond .eq 7, 3) := by decide +kernel
theorem dX9_whyNotSeen_45 : decode cX9_whyNotSeen 45 = .ok (.iconst 0, 1) := by decide +kernel
theorem dX9_whyNotSeen_46 : decode cX9_whyNotSeen 46 = .ok (.goto 5, 3) := by decide +kernel
theorem dX9_whyNotSeen_49 : decode cX9_whyNotSeen 49 = .ok (.bipush (-2), 2) := by decide +kernel
theorem dX9_whyNotSeen_51 : decode cX9_whyNotSeen 51 = .ok (.ireturn, 1) := by decide +kernel
theorem dX9_guessTold_0 : decode cX9_guessTold 0 = .ok (.aload_n 0, 1) := by decide +kernel
theorem dX9_guessTold_1 : decode cX9_guessTold 1 = .ok (.iload_n 1, 1) := by decide +kernel
theorem dX9_guessTold_2 : decode cX9_guessTold 2 = .ok (.aload_n 0, 1) := by decide +kernel
theorem dX9_guessTold_3 : decode cX9_guessTold 3 = .ok (.getfield 28, 3) := by decide +kernel
theorem dX9_guessTold_6 : decode cX9_guessTold 6 = .ok (.iload_n 2, 1) := by decide +kernel
theorem dX9_guessTold_7 : decode cX9_guessTold 7 = .ok (.invokevirtual 98, 3) := by decide +kernel
theorem dX9_guessTold_10 : decode cX9_guessTold 10 = .ok (.invokevirtual 294, 3) := by decide +kernel
theorem dX9_guessTold_13 : decode cX9_guessTold 13 = .ok (.istore_n 3, 1) := by decide +kernel
theorem dX9_guessTold_14 : decode cX9_guessTold 14 = .ok (.iload_n 3, 1) := by decide +kernel
theorem dX9_guessTold_15 : decode cX9_guessTold 15 = .ok (.ifCond .eq 5, 3) := by decide +kernel
theorem dX9_guessTold_18 : decode cX9_guessTold 18 = .ok (.iload_n 3, 1) := by decide +kernel
theorem dX9_guessTold_19 : decode cX9_guessTold 19 = .ok (.ireturn, 1) := by decide +kernel
theorem dX9_guessTold_20 : decode cX9_guessTold 20 = .ok (.aload_n 0, 1) := by decide +kernel
theorem dX9_guessTold_21 : decode cX9_guessTold 21 = .ok (.getfield 65, 3) := by decide +kernel
theorem dX9_guessTold_24 : decode cX9_guessTold 24 = .ok (.invokevirtual 416, 3) := by decide +kernel
theorem dX9_guessTold_27 : decode cX9_guessTold 27 = .ok (.aload_n 0, 1) := by decide +kernel
theorem dX9_guessTold_28 : decode cX9_guessTold 28 = .ok (.getfield 52, 3) := by decide +kernel
theorem dX9_guessTold_31 : decode cX9_guessTold 31 = .ok (.aload_n 0, 1) := by decide +kernel
theorem dX9_guessTold_32 : decode cX9_guessTold 32 = .ok (.getfield 28, 3) := by decide +kernel
theorem dX9_guessTold_35 : decode cX9_guessTold 35 = .ok (.invokevirtual 264, 3) := by decide +kernel
theorem dX9_guessTold_38 : decode cX9_guessTold 38 = .ok (.iconst 0, 1) := by decide +kernel
theorem dX9_guessTold_39 : decode cX9_guessTold 39 = .ok (.istore 4, 2) := by decide +kernel
theorem dX9_guessTold_41 : decode cX9_guessTold 41 = .ok (.iload 4, 2) := by decide +kernel
theorem dX9_guessTold_43 : decode cX9_guessTold 43 = .ok (.bipush 99, 2) := by decide +kernel
theorem dX9_guessTold_45 : decode cX9_guessTold 45 = .ok (.if_icmp .gt 64, 3) := by decide +kernel
theorem dX9_guessTold_48 : decode cX9_guessTold 48 = .ok (.aload_n 0, 1) := by decide +kernel
theorem dX9_guessTold_49 : decode cX9_guessTold 49 = .ok (.getfield 52, 3) := by decide +kernel
theorem dX9_guessTold_52 : decode cX9_guessTold 52 = .ok (.getfield 419, 3) := by decide +kernel
theorem dX9_guessTold_55 : decode cX9_guessTold 55 = .ok (.iload_n 2, 1) := by decide +kernel
theorem dX9_guessTold_56 : decode cX9_guessTold 56 = .ok (.iload 4, 2) := by decide +kernel
theorem dX9_guessTold_58 : decode cX9_guessTold 58 = .ok (.iastore, 1) := by decide +kernel
theorem dX9_guessTold_59 : decode cX9_guessTold 59 = .ok (.aload_n 0, 1) := by decide +kernel
theorem dX9_guessTold_60 : decode cX9_guessTold 60 = .ok (.getfield 52, 3) := by decide +kernel
theorem dX9_guessTold_63 : decode cX9_guessTold 63 = .ok (.aload_n 0, 1) := by decide +kernel
theorem dX9_guessTold_64 : decode cX9_guessTold 64 = .ok (.getfield 28, 3) := by decide +kernel
theorem dX9_guessTold_67 : decode cX9_guessTold 67 = .ok (.getfield 178, 3) := by decide +kernel
theorem dX9_guessTold_70 : decode cX9_guessTold 70 = .ok (.invokevirtual 301, 3) := by decide +kernel
theorem dX9_guessTold_73 : decode cX9_guessTold 73 = .ok (.aload_n 0, 1) := by decide +kernel
theorem dX9_guessTold_74 : decode cX9_guessTold 74 = .ok (.getfield 71, 3) := by decide +kernel
theorem dX9_guessTold_77 : decode cX9_guessTold 77 = .ok (.iload_n 1, 1) := by decide +kernel
theorem dX9_guessTold_78 : decode cX9_guessTold 78 = .ok (.aaload, 1) := by decide +kernel
theorem dX9_guessTold_79 : decode cX9_guessTold 79 = .ok (.aload_n 0, 1) := by decide +kernel
theorem dX9_guessTold_80 : decode cX9_guessTold 80 = .ok (.getfield 52, 3) := by decide +kernel
theorem dX9_guessTold_83 : decode cX9_guessTold 83 = .ok (.invokevirtual 304, 3) := by decide +kernel
theorem dX9_guessTold_86 : decode cX9_guessTold 86 = .ok (.ifCond .eq 17, 3) := by decide +kernel
theorem dX9_guessTold_89 : decode cX9_guessTold 89 = .ok (.aload_n 0, 1) := by decide +kernel
theorem dX9_guessTold_90 : decode cX9_guessTold 90 = .ok (.getfield 65, 3) := by decide +kernel
theorem dX9_guessTold_93 : decode cX9_guessTold 93 = .ok (.iload 4, 2) := by decide +kernel
theorem dX9_guessTold_95 : decode cX9_guessTold 95 = .ok (.aload_n 0, 1) := by decide +kernel
theorem dX9_guessTold_96 : decode cX9_guessTold 96 = .ok (.getfield 52, 3) := by decide +kernel
theorem dX9_guessTold_99 : decode cX9_guessTold 99 = .ok (.iload_n 2, 1) := by decide +kernel
theorem dX9_guessTold_100 : decode cX9_guessTold 100 = .ok (.invokevirtual 420, 3) := by decide +kernel
theorem dX9_guessTold_103 : decode cX9_guessTold 103 = .ok (.iinc 4 1, 3) := by decide +kernel
theorem dX9_guessTold_106 : decode cX9_guessTold 106 = .ok (.goto (-65), 3) := by decide +kernel
theorem dX9_guessTold_109 : decode cX9_guessTold 109 = .ok (.iconst 0, 1) := by decide +kernel
theorem dX9_guessTold_110 : decode cX9_guessTold 110 = .ok (.ireturn, 1) := by decide +kernel
theorem dX10_init_0 : decode cX10_init 0 = .ok (.aload_n 0, 1) := by decide +kernel
theorem dX10_init_1 : decode cX10_init 1 = .ok (.invokespecial 3, 3) := by decide +kernel
theorem dX10_init_4 : decode cX10_init 4 = .ok (.aload_n 0, 1) := by decide +kernel
theorem dX10_init_5 : decode cX10_init 5 = .ok (.bipush 112, 2) := by decide +kernel
theorem dX10_init_7 : decode cX10_init 7 = .ok (.newarray .int, 2) := by decide +kernel
theorem dX10_init_9 : decode cX10_init 9 = .ok (.putfield 9, 3) := by decide +kernel
theorem dX10_init_12 : decode cX10_init 12 = .ok (.aload_n 0, 1) := by decide +kernel
theorem dX10_init_13 : decode cX10_init 13 = .ok (.sipush 336, 3) := by decide +kernel
theorem dX10_init_16 : decode cX10_init 16 = .ok (.newarray .int, 2) := by decide +kernel
theorem dX10_init_18 : decode cX10_init 18 = .ok (.putfield 13, 3) := by decide +kernel
theorem dX10_init_21 : decode cX10_init 21 = .ok (.aload_n 0, 1) := by decide +kernel
theorem dX10_init_22 : decode cX10_init 22 = .ok (.iconst 3, 1) := by decide +kernel
theorem dX10_init_23 : decode cX10_init 23 = .ok (.newarray .boolean, 2) := by decide +kernel
theorem dX10_init_25 : decode cX10_init 25 = .ok (.putfield 16, 3) := by decide +kernel
theorem dX10_init_28 : decode cX10_init 28 = .ok (.aload_n 0, 1) := by decide +kernel
theorem dX10_init_29 : decode cX10_init 29 = .ok (.sipush 900, 3) := by decide +kernel
theorem dX10_init_32 : decode cX10_init 32 = .ok (.newarray .byte, 2) := by decide +kernel
theorem dX10_init_34 : decode cX10_init 34 = .ok (.putfield 20, 3) := by decide +kernel
theorem dX10_init_37 : decode cX10_init 37 = .ok (.aload_n 0, 1) := by decide +kernel
theorem dX10_init_38 : decode cX10_init 38 = .ok (.iconst 5, 1) := by decide +kernel
theorem dX10_init_39 : decode cX10_init 39 = .ok (.newarray .int, 2) := by decide +kernel
theorem dX10_init_41 : decode cX10_init 41 = .ok (.putfield 24, 3) := by decide +kernel
theorem dX10_init_44 : decode cX10_init 44 = .ok (.aload_n 0, 1) := by decide +kernel
theorem dX10_init_45 : decode cX10_init 45 = .ok (.iconst (-1), 1) := by decide +kernel
theorem dX10_init_46 : decode cX10_init 46 = .ok (.putfield 27, 3) := by decide +kernel
theorem dX10_init_49 : decode cX10_init 49 = .ok (.aload_n 0, 1) := by decide +kernel
theorem dX10_init_50 : decode cX10_init 50 = .ok (.bipush 112, 2) := by decide +kernel
theorem dX10_init_52 : decode cX10_init 52 = .ok (.newarray .int, 2) := by decide +kernel
theorem dX10_init_54 : decode cX10_init 54 = .ok (.putfield 31, 3) := by decide +kernel
theorem dX10_init_57 : decode cX10_init 57 = .ok (.aload_n 0, 1) := by decide +kernel
theorem dX10_init_58 : decode cX10_init 58 = .ok (.bipush 6, 2) := by decide +kernel
theorem dX10_init_60 : decode cX10_init 60 = .ok (.newarray .int, 2) := by decide +kernel
theorem dX10_init_62 : decode cX10_init 62 = .ok (.putfield 34, 3) := by decide +kernel
theorem dX10_init_65 : decode cX10_init 65 = .ok (.aload_n 0, 1) := by decide +kernel
theorem dX10_init_66 : decode cX10_init 66 = .ok (.bipush 6, 2) := by decide +kernel
theorem dX10_init_68 : decode cX10_init 68 = .ok (.newarray .int, 2) := by decide +kernel
theorem dX10_init_70 : decode cX10_init 70 = .ok (.putfield 37, 3) := by decide +kernel
theorem dX10_init_73 : decode cX10_init 73 = .ok (.aload_n 0, 1) := by decide +kernel
theorem dX10_init_74 : decode cX10_init 74 = .ok (.bipush 6, 2) := by decide +kernel
theorem dX10_init_76 : decode cX10_init 76 = .ok (.newarray .int, 2) := by decide +kernel
theorem dX10_init_78 : decode cX10_init 78 = .ok (.putfield 40, 3) := by decide +kernel
theorem dX10_init_81 : decode cX10_init 81 = .ok (.aload_n 0, 1) := by decide +kernel
theorem dX10_init_82 : decode cX10_init 82 = .ok (.iconst 5, 1) := by decide +kernel
theorem dX10_init_83 : decode cX10_init 83 = .ok (.newarray .int, 2) := by decide +kernel
theorem dX10_init_85 : decode cX10_init 85 = .ok (.putfield 43, 3) := by decide +kernel
theorem dX10_init_88 : decode cX10_init 88 = .ok (.aload_n 0, 1) := by decide +kernel
theorem dX10_init_89 : decode cX10_init 89 = .ok (.bipush 6, 2) := by decide +kernel
theorem dX10_init_91 : decode cX10_init 91 = .ok (.newarray .int, 2) := by decide +kernel
theorem dX10_init_93 : decode cX10_init 93 = .ok (.putfield 46, 3) := by decide +kernel
theorem dX10_init_96 : decode cX10_init 96 = .ok (.aload_n 0, 1) := by decide +kernel
theorem dX10_init_97 : decode cX10_init 97 = .ok (.bipush 16, 2) := by decide +kernel
theorem dX10_init_99 : decode cX10_init 99 = .ok (.newarray .int, 2) := by decide +kernel
theorem dX10_init_101 : decode cX10_init 101 = .ok (.putfield 49, 3) := by decide +kernel
theorem dX10_init_104 : decode cX10_init 104 = .ok (.aload_n 0, 1) := by decide +kernel
theorem dX10_init_105 : decode cX10_init 105 = .ok (.bipush 16, 2) := by decide +kernel
theorem dX10_init_107 : decode cX10_init 107 = .ok (.newarray .int, 2) := by decide +kernel
theorem dX10_init_109 : decode cX10_init 109 = .ok (.putfield 52, 3) := by decide +kernel
theorem dX10_init_112 : decode cX10_init 112 = .ok (.aload_n 0, 1) := by decide +kernel
theorem dX10_init_113 : decode cX10_init 113 = .ok (.bipush 96, 2) := by decide +kernel
theorem dX10_init_115 : decode cX10_init 115 = .ok (.newarray .int, 2) := by decide +kernel
theorem dX10_init_117 : decode cX10_init 117 = .ok (.putfield 55, 3) := by decide +kernel
theorem dX10_init_120 : decode cX10_init 120 = .ok (.aload_n 0, 1) := by decide +kernel
theorem dX10_init_121 : decode cX10_init 121 = .ok (.bipush 96, 2) := by decide +kernel
theorem dX10_init_123 : decode cX10_init 123 = .ok (.newarray .int, 2) := by decide +kernel
theorem dX10_init_125 : decode cX10_init 125 = .ok (.putfield 58, 3) := by decide +kernel
theorem dX10_init_128 : decode cX10_init 128 = .ok (.aload_n 0, 1) := by decide +kernel
theorem dX10_init_129 : decode cX10_init 129 = .ok (.bipush 96, 2) := by decide +kernel
theorem dX10_init_131 : decode cX10_init 131 = .ok (.newarray .int, 2) := by decide +kernel
theorem dX10_init_133 : decode cX10_init 133 = .ok (.putfield 61, 3) := by decide +kernel
theorem dX10_init_136 : decode cX10_init 136 = .ok (.aload_n 0, 1) := by decide +kernel
theorem dX10_init_137 : decode cX10_init 137 = .ok (.bipush 16, 2) := by decide +kernel
theorem dX10_init_139 : decode cX10_init 139 = .ok (.newarray .int, 2) := by decide +kernel
theorem dX10_init_141 : decode cX10_init 141 = .ok (.putfield 64, 3) := by decide +kernel
theorem dX10_init_144 : decode cX10_init 144 = .ok (.aload_n 0, 1) := by decide +kernel
theorem dX10_init_145 : decode cX10_init 145 = .ok (.bipush 6, 2) := by decide +kernel
theorem dX10_init_147 : decode cX10_init 147 = .ok (.newarray .int, 2) := by decide +kernel
theorem dX10_init_149 : decode cX10_init 149 = .ok (.putfield 67, 3) := by decide +kernel
theorem dX10_init_152 : decode cX10_init 152 = .ok (.aload_n 0, 1) := by decide +kernel
theorem dX10_init_153 : decode cX10_init 153 = .ok (.iconst 5, 1) := by decide +kernel
theorem dX10_init_154 : decode cX10_init 154 = .ok (.newarray .int, 2) := by decide +kernel
theorem dX10_init_156 : decode cX10_init 156 = .ok (.putfield 70, 3) := by decide +kernel
theorem dX10_init_159 : decode cX10_init 159 = .ok (.aload_n 0, 1) := by decide +kernel
theorem dX10_init_160 : decode cX10_init 160 = .ok (.bipush 100, 2) := by decide +kernel
theorem dX10_init_162 : decode cX10_init 162 = .ok (.newarray .int, 2) := by decide +kernel
theorem dX10_init_164 : decode cX10_init 164 = .ok (.putfield 73, 3) := by decide +kernel
theorem dX10_init_167 : decode cX10_init 167 = .ok (.aload_n 0, 1) := by decide +kernel
theorem dX10_init_168 : decode cX10_init 168 = .ok (.sipush 1600, 3) := by decide +kernel
theorem dX10_init_171 : decode cX10_init 171 = .ok (.newarray .int, 2) := by decide +kernel
theorem dX10_init_173 : decode cX10_init 173 = .ok (.putfield 76, 3) := by decide +kernel
theorem dX10_init_176 : decode cX10_init 176 = .ok (.aload_n 0, 1) := by decide +kernel
theorem dX10_init_177 : decode cX10_init 177 = .ok (.bipush 64, 2) := by decide +kernel
theorem dX10_init_179 : decode cX10_init 179 = .ok (.newarray .int, 2) := by decide +kernel
theorem dX10_init_181 : decode cX10_init 181 = .ok (.putfield 79, 3) := by decide +kernel
theorem dX10_init_184 : decode cX10_init 184 = .ok (.aload_n 0, 1) := by decide +kernel
theorem dX10_init_185 : decode cX10_init 185 = .ok (.iconst 4, 1) := by decide +kernel
theorem dX10_init_186 : decode cX10_init 186 = .ok (.newarray .int, 2) := by decide +kernel
theorem dX10_init_188 : decode cX10_init 188 = .ok (.dup, 1) := by decide +kernel
theorem dX10_init_189 : decode cX10_init 189 = .ok (.iconst 0, 1) := by decide +kernel
theorem dX10_init_190 : decode cX10_init 190 = .ok (.iconst (-1), 1) := by decide +kernel
theorem dX10_init_191 : decode cX10_init 191 = .ok (.iastore, 1) := by decide +kernel
theorem dX10_init_192 : decode cX10_init 192 = .ok (.dup, 1) := by decide +kernel
theorem dX10_init_193 : decode cX10_init 193 = .ok (.iconst 1, 1) := by decide +kernel
theorem dX10_init_194 : decode cX10_init 194 = .ok (.iconst (-1), 1) := by decide +kernel
theorem dX10_init_195 : decode cX10_init 195 = .ok (.iastore, 1) := by decide +kernel
theorem dX10_init_196 : decode cX10_init 196 = .ok (.dup, 1) := by decide +kernel
theorem dX10_init_197 : decode cX10_init 197 = .ok (.iconst 2, 1) := by decide +kernel
theorem dX10_init_198 : decode cX10_init 198 = .ok (.iconst (-1), 1) := by decide +kernel
theorem dX10_init_199 : decode cX10_init 199 = .ok (.iastore, 1) := by decide +kernel
theorem dX10_init_200 : decode cX10_init 200 = .ok (.dup, 1) := by decide +kernel
theorem dX10_init_201 : decode cX10_init 201 = .ok (.iconst 3, 1) := by decide +kernel
theorem dX10_init_202 : decode cX10_init 202 = .ok (.iconst (-1), 1) := by decide +kernel
theorem dX10_init_203 : decode cX10_init 203 = .ok (.iastore, 1) := by decide +kernel
theorem dX10_init_204 : decode cX10_init 204 = .ok (.putfield 82, 3) := by decide +kernel
theorem dX10_init_207 : decode cX10_init 207 = .ok (.aload_n 0, 1) := by decide +kernel
theorem dX10_init_208 : decode cX10_init 208 = .ok (.iconst 4, 1) := by decide +kernel
theorem dX10_init_209 : decode cX10_init 209 = .ok (.newarray .int, 2) := by decide +kernel
theorem dX10_init_211 : decode cX10_init 211 = .ok (.putfield 85, 3) := by decide +kernel
theorem dX10_init_214 : decode cX10_init 214 = .ok (.aload_n 0, 1) := by decide +kernel
theorem dX10_init_215 : decode cX10_init 215 = .ok (.sipush 240, 3) := by decide +kernel
theorem dX10_init_218 : decode cX10_init 218 = .ok (.newarray .long, 2) := by decide +kernel
theorem dX10_init_220 : decode cX10_init 220 = .ok (.putfield 88, 3) := by decide +kernel
theorem dX10_init_223 : decode cX10_init 223 = .ok (.aload_n 0, 1) := by decide +kernel
theorem dX10_init_224 : decode cX10_init 224 = .ok (.bipush 60, 2) := by decide +kernel
theorem dX10_init_226 : decode cX10_init 226 = .ok (.newarray .long, 2) := by decide +kernel
theorem dX10_init_228 : decode cX10_init 228 = .ok (.putfield 92, 3) := by decide +kernel
theorem dX10_init_231 : decode cX10_init 231 = .ok (.return_, 1) := by decide +kernel
theorem dX10_in_0 : decode cX10_in 0 = .ok (.lload_n 0, 1) := by decide +kernel
theorem dX10_in_1 : decode cX10_in 1 = .ok (.lload_n 2, 1) := by decide +kernel
theorem dX10_in_2 : decode cX10_in 2 = .ok (.lcmp, 1) := by decide +kernel
theorem dX10_in_3 : decode cX10_in 3 = .ok (.ifCond .lt 14, 3) := by decide +kernel
theorem dX10_in_6 : decode cX10_in 6 = .ok (.lload_n 0, 1) := by decide +kernel
theorem dX10_in_7 : decode cX10_in 7 = .ok (.lload 4, 2) := by decide +kernel
theorem dX10_in_9 : decode cX10_in 9 = .ok (.lcmp, 1) := by decide +kernel
theorem dX10_in_10 : decode cX10_in 10 = .ok (.ifCond .gt 7, 3) := by decide +kernel
theorem dX10_in_13 : decode cX10_in 13 = .ok (.iconst 1, 1) := by decide +kernel
theorem dX10_in_14 : decode cX10_in 14 = .ok (.goto 4, 3) := by decide +kernel
theorem dX10_in_17 : decode cX10_in 17 = .ok (.iconst 0, 1) := by decide +kernel
theorem dX10_in_18 : decode cX10_in 18 = .ok (.ireturn, 1) := by decide +kernel
theorem dX10_bits_0 : decode cX10_bits 0 = .ok (.iconst 0, 1) := by decide +kernel
theorem dX10_bits_1 : decode cX10_bits 1 = .ok (.istore_n 1, 1) := by decide +kernel
theorem dX10_bits_2 : decode cX10_bits 2 = .ok (.iconst 0, 1) := by decide +kernel
theorem dX10_bits_3 : decode cX10_bits 3 = .ok (.istore_n 2, 1) := by decide +kernel
theorem dX10_bits_4 : decode cX10_bits 4 = .ok (.iload_n 2, 1) := by decide +kernel
theorem dX10_bits_5 : decode cX10_bits 5 = .ok (.bipush 16, 2) := by decide +kernel
theorem dX10_bits_7 : decode cX10_bits 7 = .ok (.if_icmp .ge 17, 3) := by decide +kernel
theorem dX10_bits_10 : decode cX10_bits 10 = .ok (.iload_n 1, 1) := by decide +kernel
theorem dX10_bits_11 : decode cX10_bits 11 = .ok (.iload_n 0, 1) := by decide +kernel
theorem dX10_bits_12 : decode cX10_bits 12 = .ok (.iload_n 2, 1) := by decide +kernel
theorem dX10_bits_13 : decode cX10_bits 13 = .ok (.ishr, 1) := by decide +kernel
theorem dX10_bits_14 : decode cX10_bits 14 = .ok (.iconst 1, 1) := by decide +kernel
theorem dX10_bits_15 : decode cX10_bits 15 = .ok (.iand, 1) := by decide +kernel
theorem dX10_bits_16 : decode cX10_bits 16 = .ok (.iadd, 1) := by decide +kernel
theorem dX10_bits_17 : decode cX10_bits 17 = .ok (.istore_n 1, 1) := by decide +kernel
theorem dX10_bits_18 : decode cX10_bits 18 = .ok (.iinc 2 1, 3) := by decide +kernel
theorem dX10_bits_21 : decode cX10_bits 21 = .ok (.goto (-17), 3) := by decide +kernel
theorem dX10_bits_24 : decode cX10_bits 24 = .ok (.iload_n 1, 1) := by decide +kernel
theorem dX10_bits_25 : decode cX10_bits 25 = .ok (.ireturn, 1) := by decide +kernel
theorem dX10_bit_0 : decode cX10_bit 0 = .ok (.iload_n 0, 1) := by decide +kernel
theorem dX10_bit_1 : decode cX10_bit 1 = .ok (.iload_n 1, 1) := by decide +kernel
theorem dX10_bit_2 : decode cX10_bit 2 = .ok (.ishr, 1) := by decide +kernel
theorem dX10_bit_3 : decode cX10_bit 3 = .ok (.iconst 1, 1) := by decide +kernel
theorem dX10_bit_4 : decode cX10_bit 4 = .ok (.iand, 1) := by decide +kernel
theorem dX10_bit_5 : decode cX10_bit 5 = .ok (.ireturn, 1) := by decide +kernel
theorem dX10_image_0 : decode cX10_image 0 = .ok (.iload_n 1, 1) := by decide +kernel
theorem dX10_image_1 : decode cX10_image 1 = .ok (.i2l, 1) := by decide +kernel
theorem dX10_image_2 : decode cX10_image 2 = .ok (.lconst 0, 1) := by decide +kernel
theorem dX10_image_3 : decode cX10_image 3 = .ok (.ldc2_w 98, 3) := by decide +kernel
theorem dX10_image_6 : decode cX10_image 6 = .ok (.invokestatic 100, 3) := by decide +kernel
theorem dX10_image_9 : decode cX10_image 9 = .ok (.ifCond .ne 6, 3) := by decide +kernel
theorem dX10_image_12 : decode cX10_image 12 = .ok (.bipush (-2), 2) := by decide +kernel
theorem dX10_image_14 : decode cX10_image 14 = .ok (.ireturn, 1) := by decide +kernel
theorem dX10_image_15 : decode cX10_image 15 = .ok (.iconst 0, 1) := by decide +kernel
theorem dX10_image_16 : decode cX10_image 16 = .ok (.istore_n 2, 1) := by decide +kernel
theorem dX10_image_17 : decode cX10_image 17 = .ok (.iload_n 2, 1) := by decide +kernel
theorem dX10_image_18 : decode cX10_image 18 = .ok (.bipush 112, 2) := by decide +kernel
theorem dX10_image_20 : decode cX10_image 20 = .ok (.if_icmp .ge 26, 3) := by decide +kernel
theorem dX10_image_23 : decode cX10_image 23 = .ok (.aload_n 0, 1) := by decide +kernel
theorem dX10_image_24 : decode cX10_image 24 = .ok (.getfield 13, 3) := by decide +kernel
theorem dX10_image_27 : decode cX10_image 27 = .ok (.bipush 112, 2) := by decide +kernel
theorem dX10_image_29 : decode cX10_image 29 = .ok (.iload_n 1, 1) := by decide +kernel
theorem dX10_image_30 : decode cX10_image 30 = .ok (.imul, 1) := by decide +kernel
theorem dX10_image_31 : decode cX10_image 31 = .ok (.iload_n 2, 1) := by decide +kernel
theorem dX10_image_32 : decode cX10_image 32 = .ok (.iadd, 1) := by decide +kernel
theorem dX10_image_33 : decode cX10_image 33 = .ok (.aload_n 0, 1) := by decide +kernel
theorem dX10_image_34 : decode cX10_image 34 = .ok (.getfield 9, 3) := by decide +kernel
theorem dX10_image_37 : decode cX10_image 37 = .ok (.iload_n 2, 1) := by decide +kernel
theorem dX10_image_38 : decode cX10_image 38 = .ok (.iaload, 1) := by decide +kernel
theorem dX10_image_39 : decode cX10_image 39 = .ok (.iastore, 1) := by decide +kernel
theorem dX10_image_40 : decode cX10_image 40 = .ok (.iinc 2 1, 3) := by decide +kernel
theorem dX10_image_43 : decode cX10_image 43 = .ok (.goto (-26), 3) := by decide +kernel
theorem dX10_image_46 : decode cX10_image 46 = .ok (.aload_n 0, 1) := by decide +kernel
theorem dX10_image_47 : decode cX10_image 47 = .ok (.getfield 16, 3) := by decide +kernel
theorem dX10_image_50 : decode cX10_image 50 = .ok (.iload_n 1, 1) := by decide +kernel
theorem dX10_image_51 : decode cX10_image 51 = .ok (.iconst 1, 1) := by decide +kernel
theorem dX10_image_52 : decode cX10_image 52 = .ok (.bastore, 1) := by decide +kernel
theorem dX10_image_53 : decode cX10_image 53 = .ok (.iconst 0, 1) := by decide +kernel
theorem dX10_image_54 : decode cX10_image 54 = .ok (.ireturn, 1) := by decide +kernel
theorem dX10_back_0 : decode cX10_back 0 = .ok (.iload_n 1, 1) := by decide +kernel
theorem dX10_back_1 : decode cX10_back 1 = .ok (.i2l, 1) := by decide +kernel
theorem dX10_back_2 : decode cX10_back 2 = .ok (.lconst 0, 1) := by decide +kernel
theorem dX10_back_3 : decode cX10_back 3 = .ok (.ldc2_w 98, 3) := by decide +kernel
theorem dX10_back_6 : decode cX10_back 6 = .ok (.invokestatic 100, 3) := by decide +kernel
theorem dX10_back_9 : decode cX10_back 9 = .ok (.ifCond .ne 6, 3) := by decide +kernel
theorem dX10_back_12 : decode cX10_back 12 = .ok (.bipush (-2), 2) := by decide +kernel
theorem dX10_back_14 : decode cX10_back 14 = .ok (.ireturn, 1) := by decide +kernel
theorem dX10_back_15 : decode cX10_back 15 = .ok (.aload_n 0, 1) := by decide +kernel
theorem dX10_back_16 : decode cX10_back 16 = .ok (.getfield 16, 3) := by decide +kernel
theorem dX10_back_19 : decode cX10_back 19 = .ok (.iload_n 1, 1) := by decide +kernel
theorem dX10_back_20 : decode cX10_back 20 = .ok (.baload, 1) := by decide +kernel
theorem dX10_back_21 : decode cX10_back 21 = .ok (.ifCond .ne 6, 3) := by decide +kernel
theorem dX10_back_24 : decode cX10_back 24 = .ok (.bipush (-6), 2) := by decide +kernel
theorem dX10_back_26 : decode cX10_back 26 = .ok (.ireturn, 1) := by decide +kernel
theorem dX10_back_27 : decode cX10_back 27 = .ok (.iconst 0, 1) := by decide +kernel
theorem dX10_back_28 : decode cX10_back 28 = .ok (.istore_n 2, 1) := by decide +kernel
theorem dX10_back_29 : decode cX10_back 29 = .ok (.iload_n 2, 1) := by decide +kernel
theorem dX10_back_30 : decode cX10_back 30 = .ok (.bipush 112, 2) := by decide +kernel
theorem dX10_back_32 : decode cX10_back 32 = .ok (.if_icmp .ge 26, 3) := by decide +kernel
theorem dX10_back_35 : decode cX10_back 35 = .ok (.aload_n 0, 1) := by decide +kernel
theorem dX10_back_36 : decode cX10_back 36 = .ok (.getfield 9, 3) := by decide +kernel
theorem dX10_back_39 : decode cX10_back 39 = .ok (.iload_n 2, 1) := by decide +kernel
theorem dX10_back_40 : decode cX10_back 40 = .ok (.aload_n 0, 1) := by decide +kernel
theorem dX10_back_41 : decode cX10_back 41 = .ok (.getfield 13, 3) := by decide +kernel
theorem dX10_back_44 : decode cX10_back 44 = .ok (.bipush 112, 2) := by decide +kernel
theorem dX10_back_46 : decode cX10_back 46 = .ok (.iload_n 1, 1) := by decide +kernel
theorem dX10_back_47 : decode cX10_back 47 = .ok (.imul, 1) := by decide +kernel
theorem dX10_back_48 : decode cX10_back 48 = .ok (.iload_n 2, 1) := by decide +kernel
theorem dX10_back_49 : decode cX10_back 49 = .ok (.iadd, 1) := by decide +kernel
theorem dX10_back_50 : decode cX10_back 50 = .ok (.iaload, 1) := by decide +kernel
theorem dX10_back_51 : decode cX10_back 51 = .ok (.iastore, 1) := by decide +kernel
theorem dX10_back_52 : decode cX10_back 52 = .ok (.iinc 2 1, 3) := by decide +kernel
theorem dX10_back_55 : decode cX10_back 55 = .ok (.goto (-26), 3) := by decide +kernel
theorem dX10_back_58 : decode cX10_back 58 = .ok (.iconst 0, 1) := by decide +kernel
theorem dX10_back_59 : decode cX10_back 59 = .ok (.ireturn, 1) := by decide +kernel
theorem dX10_isDukedom_0 : decode cX10_isDukedom 0 = .ok (.aload_n 0, 1) := by decide +kernel
theorem dX10_isDukedom_1 : decode cX10_isDukedom 1 = .ok (.getfield 9, 3) := by decide +kernel
theorem dX10_isDukedom_4 : decode cX10_isDukedom 4 = .ok (.bipush 9, 2) := by decide +kernel
theorem dX10_isDukedom_6 : decode cX10_isDukedom 6 = .ok (.iaload, 1) := by decide +kernel
theorem dX10_isDukedom_7 : decode cX10_isDukedom 7 = .ok (.ifCond .le 7, 3) := by decide +kernel
theorem dX10_isDukedom_10 : decode cX10_isDukedom 10 = .ok (.iconst 1, 1) := by decide +kernel
theorem dX10_isDukedom_11 : decode cX10_isDukedom 11 = .ok (.goto 4, 3) := by decide +kernel
theorem dX10_isDukedom_14 : decode cX10_isDukedom 14 = .ok (.iconst 0, 1) := by decide +kernel
theorem dX10_isDukedom_15 : decode cX10_isDukedom 15 = .ok (.ireturn, 1) := by decide +kernel
theorem dX10_isYear_0 : decode cX10_isYear 0 = .ok (.lload_n 1, 1) := by decide +kernel
theorem dX10_isYear_1 : decode cX10_isYear 1 = .ok (.lconst 0, 1) := by decide +kernel
theorem dX10_isYear_2 : decode cX10_isYear 2 = .ok (.aload_n 0, 1) := by decide +kernel
theorem dX10_isYear_3 : decode cX10_isYear 3 = .ok (.getfield 9, 3) := by decide +kernel
theorem dX10_isYear_6 : decode cX10_isYear 6 = .ok (.iconst 0, 1) := by decide +kernel
theorem dX10_isYear_7 : decode cX10_isYear 7 = .ok (.iaload, 1) := by decide +kernel
theorem dX10_isYear_8 : decode cX10_isYear 8 = .ok (.iconst 1, 1) := by decide +kernel
theorem dX10_isYear_9 : decode cX10_isYear 9 = .ok (.isub, 1) := by decide +kernel
theorem dX10_isYear_10 : decode cX10_isYear 10 = .ok (.i2l, 1) := by decide +kernel
theorem dX10_isYear_11 : decode cX10_isYear 11 = .ok (.invokestatic 100, 3) := by decide +kernel
theorem dX10_isYear_14 : decode cX10_isYear 14 = .ok (.ireturn, 1) := by decide +kernel
theorem dX10_isRank_0 : decode cX10_isRank 0 = .ok (.lload_n 1, 1) := by decide +kernel
theorem dX10_isRank_1 : decode cX10_isRank 1 = .ok (.lconst 0, 1) := by decide +kernel
theorem dX10_isRank_2 : decode cX10_isRank 2 = .ok (.aload_n 0, 1) := by decide +kernel
theorem dX10_isRank_3 : decode cX10_isRank 3 = .ok (.getfield 9, 3) := by decide +kernel
theorem dX10_isRank_6 : decode cX10_isRank 6 = .ok (.iconst 3, 1) := by decide +kernel
theorem dX10_isRank_7 : decode cX10_isRank 7 = .ok (.iaload, 1) := by decide +kernel
theorem dX10_isRank_8 : decode cX10_isRank 8 = .ok (.iconst 1, 1) := by decide +kernel
theorem dX10_isRank_9 : decode cX10_isRank 9 = .ok (.isub, 1) := by decide +kernel
theorem dX10_isRank_10 : decode cX10_isRank 10 = .ok (.i2l, 1) := by decide +kernel
theorem dX10_isRank_11 : decode cX10_isRank 11 = .ok (.invokestatic 100, 3) := by decide +kernel
theorem dX10_isRank_14 : decode cX10_isRank 14 = .ok (.ireturn, 1) := by decide +kernel
theorem dX10_isInvite_0 : decode cX10_isInvite 0 = .ok (.iload_n 1, 1) := by decide +kernel
theorem dX10_isInvite_1 : decode cX10_isInvite 1 = .ok (.i2l, 1) := by decide +kernel
theorem dX10_isInvite_2 : decode cX10_isInvite 2 = .ok (.lconst 0, 1) := by decide +kernel
theorem dX10_isInvite_3 : decode cX10_isInvite 3 = .ok (.aload_n 0, 1) := by decide +kernel
theorem dX10_isInvite_4 : decode cX10_isInvite 4 = .ok (.getfield 9, 3) := by decide +kernel
theorem dX10_isInvite_7 : decode cX10_isInvite 7 = .ok (.bipush 7, 2) := by decide +kernel
theorem dX10_isInvite_9 : decode cX10_isInvite 9 = .ok (.iaload, 1) := by decide +kernel
theorem dX10_isInvite_10 : decode cX10_isInvite 10 = .ok (.iconst 1, 1) := by decide +kernel
theorem dX10_isInvite_11 : decode cX10_isInvite 11 = .ok (.isub, 1) := by decide +kernel
theorem dX10_isInvite_12 : decode cX10_isInvite 12 = .ok (.i2l, 1) := by decide +kernel
theorem dX10_isInvite_13 : decode cX10_isInvite 13 = .ok (.invokestatic 100, 3) := by decide +kernel
theorem dX10_isInvite_16 : decode cX10_isInvite 16 = .ok (.ireturn, 1) := by decide +kernel
theorem dX10_years_0 : decode cX10_years 0 = .ok (.aload_n 0, 1) := by decide +kernel
theorem dX10_years_1 : decode cX10_years 1 = .ok (.getfield 9, 3) := by decide +kernel
theorem dX10_years_4 : decode cX10_years 4 = .ok (.iconst 0, 1) := by decide +kernel
theorem dX10_years_5 : decode cX10_years 5 = .ok (.iaload, 1) := by decide +kernel
theorem dX10_years_6 : decode cX10_years 6 = .ok (.ireturn, 1) := by decide +kernel
theorem dX10_ranks_0 : decode cX10_ranks 0 = .ok (.aload_n 0, 1) := by decide +kernel
theorem dX10_ranks_1 : decode cX10_ranks 1 = .ok (.getfield 9, 3) := by decide +kernel
theorem dX10_ranks_4 : decode cX10_ranks 4 = .ok (.iconst 3, 1) := by decide +kernel
theorem dX10_ranks_5 : decode cX10_ranks 5 = .ok (.iaload, 1) := by decide +kernel
theorem dX10_ranks_6 : decode cX10_ranks 6 = .ok (.ireturn, 1) := by decide +kernel
theorem dX10_of_0 : decode cX10_of 0 = .ok (.aload_n 0, 1) := by decide +kernel
theorem dX10_of_1 : decode cX10_of 1 = .ok (.getfield 9, 3) := by decide +kernel
theorem dX10_of_4 : decode cX10_of 4 = .ok (.bipush 10, 2) := by decide +kernel
theorem dX10_of_6 : decode cX10_of 6 = .ok (.iconst 4, 1) := by decide +kernel
theorem dX10_of_7 : decode cX10_of 7 = .ok (.iload_n 1, 1) := by decide +kernel
theorem dX10_of_8 : decode cX10_of 8 = .ok (.imul, 1) := by decide +kernel
theorem dX10_of_9 : decode cX10_of 9 = .ok (.iadd, 1) := by decide +kernel
theorem dX10_of_10 : decode cX10_of 10 = .ok (.iload_n 2, 1) := by decide +kernel
theorem dX10_of_11 : decode cX10_of 11 = .ok (.iadd, 1) := by decide +kernel
theorem dX10_of_12 : decode cX10_of 12 = .ok (.iaload, 1) := by decide +kernel
theorem dX10_of_13 : decode cX10_of 13 = .ok (.ireturn, 1) := by decide +kernel
theorem dX10_inviteOf_0 : decode cX10_inviteOf 0 = .ok (.aload_n 0, 1) := by decide +kernel
theorem dX10_inviteOf_1 : decode cX10_inviteOf 1 = .ok (.getfield 9, 3) := by decide +kernel
theorem dX10_inviteOf_4 : decode cX10_inviteOf 4 = .ok (.bipush 58, 2) := by decide +kernel
theorem dX10_inviteOf_6 : decode cX10_inviteOf 6 = .ok (.iconst 3, 1) := by decide +kernel
theorem dX10_inviteOf_7 : decode cX10_inviteOf 7 = .ok (.iload_n 1, 1) := by decide +kernel
theorem dX10_inviteOf_8 : decode cX10_inviteOf 8 = .ok (.imul, 1) := by decide +kernel
theorem dX10_inviteOf_9 : decode cX10_inviteOf 9 = .ok (.iadd, 1) := by decide +kernel
theorem dX10_inviteOf_10 : decode cX10_inviteOf 10 = .ok (.iload_n 2, 1) := by decide +kernel
theorem dX10_inviteOf_11 : decode cX10_inviteOf 11 = .ok (.iadd, 1) := by decide +kernel
theorem dX10_inviteOf_12 : decode cX10_inviteOf 12 = .ok (.iaload, 1) := by decide +kernel
theorem dX10_inviteOf_13 : decode cX10_inviteOf 13 = .ok (.ireturn, 1) := by decide +kernel
theorem dX10_feed_0 : decode cX10_feed 0 = .ok (.aload_n 0, 1) := by decide +kernel
theorem dX10_feed_1 : decode cX10_feed 1 = .ok (.getfield 104, 3) := by decide +kernel
theorem dX10_feed_4 : decode cX10_feed 4 = .ok (.bipush 20, 2) := by decide +kernel
theorem dX10_feed_6 : decode cX10_feed 6 = .ok (.iadd, 1) := by decide +kernel
theorem dX10_feed_7 : decode cX10_feed 7 = .ok (.sipush 900, 3) := by decide +kernel
theorem dX10_feed_10 : decode cX10_feed 10 = .ok (.if_icmp .le 5, 3) := by decide +kernel
theorem dX10_feed_13 : decode cX10_feed 13 = .ok (.iconst (-1), 1) := by decide +kernel
theorem dX10_feed_14 : decode cX10_feed 14 = .ok (.ireturn, 1) := by decide +kernel
theorem dX10_feed_15 : decode cX10_feed 15 = .ok (.aload_n 0, 1) := by decide +kernel
theorem dX10_feed_16 : decode cX10_feed 16 = .ok (.getfield 24, 3) := by decide +kernel
theorem dX10_feed_19 : decode cX10_feed 19 = .ok (.iconst 0, 1) := by decide +kernel
theorem dX10_feed_20 : decode cX10_feed 20 = .ok (.iload_n 1, 1) := by decide +kernel
theorem dX10_feed_21 : decode cX10_feed 21 = .ok (.iastore, 1) := by decide +kernel
theorem dX10_feed_22 : decode cX10_feed 22 = .ok (.aload_n 0, 1) := by decide +kernel
theorem dX10_feed_23 : decode cX10_feed 23 = .ok (.getfield 24, 3) := by decide +kernel
theorem dX10_feed_26 : decode cX10_feed 26 = .ok (.iconst 1, 1) := by decide +kernel
theorem dX10_feed_27 : decode cX10_feed 27 = .ok (.iload_n 2, 1) := by decide +kernel
theorem dX10_feed_28 : decode cX10_feed 28 = .ok (.iastore, 1) := by decide +kernel
theorem dX10_feed_29 : decode cX10_feed 29 = .ok (.aload_n 0, 1) := by decide +kernel
theorem dX10_feed_30 : decode cX10_feed 30 = .ok (.getfield 24, 3) := by decide +kernel
theorem dX10_feed_33 : decode cX10_feed 33 = .ok (.iconst 2, 1) := by decide +kernel
theorem dX10_feed_34 : decode cX10_feed 34 = .ok (.iload_n 3, 1) := by decide +kernel
theorem dX10_feed_35 : decode cX10_feed 35 = .ok (.iastore, 1) := by decide +kernel
theorem dX10_feed_36 : decode cX10_feed 36 = .ok (.aload_n 0, 1) := by decide +kernel
theorem dX10_feed_37 : decode cX10_feed 37 = .ok (.getfield 24, 3) := by decide +kernel
theorem dX10_feed_40 : decode cX10_feed 40 = .ok (.iconst 3, 1) := by decide +kernel
theorem dX10_feed_41 : decode cX10_feed 41 = .ok (.iload 4, 2) := by decide +kernel
theorem dX10_feed_43 : decode cX10_feed 43 = .ok (.iastore, 1) := by decide +kernel
theorem dX10_feed_44 : decode cX10_feed 44 = .ok (.aload_n 0, 1) := by decide +kernel
theorem dX10_feed_45 : decode cX10_feed 45 = .ok (.getfield 24, 3) := by decide +kernel
theorem dX10_feed_48 : decode cX10_feed 48 = .ok (.iconst 4, 1) := by decide +kernel
theorem dX10_feed_49 : decode cX10_feed 49 = .ok (.iload 5, 2) := by decide +kernel
theorem dX10_feed_51 : decode cX10_feed 51 = .ok (.iastore, 1) := by decide +kernel
theorem dX10_feed_52 : decode cX10_feed 52 = .ok (.iconst 0, 1) := by decide +kernel
theorem dX10_feed_53 : decode cX10_feed 53 = .ok (.istore 6, 2) := by decide +kernel
theorem dX10_feed_55 : decode cX10_feed 55 = .ok (.iload 6, 2) := by decide +kernel
theorem dX10_feed_57 : decode cX10_feed 57 = .ok (.bipush 20, 2) := by decide +kernel
theorem dX10_feed_59 : decode cX10_feed 59 = .ok (.if_icmp .ge 42, 3) := by decide +kernel
theorem dX10_feed_62 : decode cX10_feed 62 = .ok (.aload_n 0, 1) := by decide +kernel
theorem dX10_feed_63 : decode cX10_feed 63 = .ok (.getfield 20, 3) := by decide +kernel
theorem dX10_feed_66 : decode cX10_feed 66 = .ok (.aload_n 0, 1) := by decide +kernel
theorem dX10_feed_67 : decode cX10_feed 67 = .ok (.getfield 104, 3) := by decide +kernel
theorem dX10_feed_70 : decode cX10_feed 70 = .ok (.iload 6, 2) := by decide +kernel
theorem dX10_feed_72 : decode cX10_feed 72 = .ok (.iadd, 1) := by decide +kernel
theorem dX10_feed_73 : decode cX10_feed 73 = .ok (.aload_n 0, 1) := by decide +kernel
theorem dX10_feed_74 : decode cX10_feed 74 = .ok (.getfield 24, 3) := by decide +kernel
theorem dX10_feed_77 : decode cX10_feed 77 = .ok (.iload 6, 2) := by decide +kernel
theorem dX10_feed_79 : decode cX10_feed 79 = .ok (.iconst 4, 1) := by decide +kernel
theorem dX10_feed_80 : decode cX10_feed 80 = .ok (.idiv, 1) := by decide +kernel
theorem dX10_feed_81 : decode cX10_feed 81 = .ok (.iaload, 1) := by decide +kernel
theorem dX10_feed_82 : decode cX10_feed 82 = .ok (.bipush 24, 2) := by decide +kernel
theorem dX10_feed_84 : decode cX10_feed 84 = .ok (.bipush 8, 2) := by decide +kernel
theorem dX10_feed_86 : decode cX10_feed 86 = .ok (.iload 6, 2) := by decide +kernel
theorem dX10_feed_88 : decode cX10_feed 88 = .ok (.iconst 4, 1) := by decide +kernel
theorem dX10_feed_89 : decode cX10_feed 89 = .ok (.irem, 1) := by decide +kernel
theorem dX10_feed_90 : decode cX10_feed 90 = .ok (.imul, 1) := by decide +kernel
theorem dX10_feed_91 : decode cX10_feed 91 = .ok (.isub, 1) := by decide +kernel
theorem dX10_feed_92 : decode cX10_feed 92 = .ok (.ishr, 1) := by decide +kernel
theorem dX10_feed_93 : decode cX10_feed 93 = .ok (.i2b, 1) := by decide +kernel
theorem dX10_feed_94 : decode cX10_feed 94 = .ok (.bastore, 1) := by decide +kernel
theorem dX10_feed_95 : decode cX10_feed 95 = .ok (.iinc 6 1, 3) := by decide +kernel
theorem dX10_feed_98 : decode cX10_feed 98 = .ok (.goto (-43), 3) := by decide +kernel
theorem dX10_feed_101 : decode cX10_feed 101 = .ok (.aload_n 0, 1) := by decide +kernel
theorem dX10_feed_102 : decode cX10_feed 102 = .ok (.dup, 1) := by decide +kernel
theorem dX10_feed_103 : decode cX10_feed 103 = .ok (.getfield 104, 3) := by decide +kernel
theorem dX10_feed_106 : decode cX10_feed 106 = .ok (.bipush 20, 2) := by decide +kernel
theorem dX10_feed_108 : decode cX10_feed 108 = .ok (.iadd, 1) := by decide +kernel
theorem dX10_feed_109 : decode cX10_feed 109 = .ok (.putfield 104, 3) := by decide +kernel
theorem dX10_feed_112 : decode cX10_feed 112 = .ok (.aload_n 0, 1) := by decide +kernel
theorem dX10_feed_113 : decode cX10_feed 113 = .ok (.getfield 104, 3) := by decide +kernel
theorem dX10_feed_116 : decode cX10_feed 116 = .ok (.ireturn, 1) := by decide +kernel
theorem dX10_end_0 : decode cX10_end 0 = .ok (.iload_n 1, 1) := by decide +kernel
theorem dX10_end_1 : decode cX10_end 1 = .ok (.i2l, 1) := by decide +kernel
theorem dX10_end_2 : decode cX10_end 2 = .ok (.lconst 0, 1) := by decide +kernel
theorem dX10_end_3 : decode cX10_end 3 = .ok (.aload_n 0, 1) := by decide +kernel
theorem dX10_end_4 : decode cX10_end 4 = .ok (.getfield 104, 3) := by decide +kernel
theorem dX10_end_7 : decode cX10_end 7 = .ok (.i2l, 1) := by decide +kernel
theorem dX10_end_8 : decode cX10_end 8 = .ok (.invokestatic 100, 3) := by decide +kernel
theorem dX10_end_11 : decode cX10_end 11 = .ok (.ifCond .ne 5, 3) := by decide +kernel
theorem dX10_end_14 : decode cX10_end 14 = .ok (.iconst (-1), 1) := by decide +kernel
theorem dX10_end_15 : decode cX10_end 15 = .ok (.ireturn, 1) := by decide +kernel
theorem dX10_end_16 : decode cX10_end 16 = .ok (.aload_n 0, 1) := by decide +kernel
theorem dX10_end_17 : decode cX10_end 17 = .ok (.iload_n 1, 1) := by decide +kernel
theorem dX10_end_18 : decode cX10_end 18 = .ok (.putfield 104, 3) := by decide +kernel
theorem dX10_end_21 : decode cX10_end 21 = .ok (.iload_n 1, 1) := by decide +kernel
theorem dX10_end_22 : decode cX10_end 22 = .ok (.ireturn, 1) := by decide +kernel
theorem dX10_see_0 : decode cX10_see 0 = .ok (.iload_n 1, 1) := by decide +kernel
theorem dX10_see_1 : decode cX10_see 1 = .ok (.aload_n 0, 1) := by decide +kernel
theorem dX10_see_2 : decode cX10_see 2 = .ok (.getfield 107, 3) := by decide +kernel
theorem dX10_see_5 : decode cX10_see 5 = .ok (.if_icmp .ge 16, 3) := by decide +kernel
theorem dX10_see_8 : decode cX10_see 8 = .ok (.aload_n 0, 1) := by decide +kernel
theorem dX10_see_9 : decode cX10_see 9 = .ok (.getfield 20, 3) := by decide +kernel
theorem dX10_see_12 : decode cX10_see 12 = .ok (.iload_n 1, 1) := by decide +kernel
theorem dX10_see_13 : decode cX10_see 13 = .ok (.baload, 1) := by decide +kernel
theorem dX10_see_14 : decode cX10_see 14 = .ok (.sipush 255, 3) := by decide +kernel
theorem dX10_see_17 : decode cX10_see 17 = .ok (.iand, 1) := by decide +kernel
theorem dX10_see_18 : decode cX10_see 18 = .ok (.goto 4, 3) := by decide +kernel
theorem dX10_see_21 : decode cX10_see 21 = .ok (.iconst (-1), 1) := by decide +kernel
theorem dX10_see_22 : decode cX10_see 22 = .ok (.ireturn, 1) := by decide +kernel
theorem dX10_advance_0 : decode cX10_advance 0 = .ok (.aload_n 0, 1) := by decide +kernel
theorem dX10_advance_1 : decode cX10_advance 1 = .ok (.aload_n 0, 1) := by decide +kernel
theorem dX10_advance_2 : decode cX10_advance 2 = .ok (.getfield 110, 3) := by decide +kernel
theorem dX10_advance_5 : decode cX10_advance 5 = .ok (.invokevirtual 113, 3) := by decide +kernel
theorem dX10_advance_8 : decode cX10_advance 8 = .ok (.bipush 32, 2) := by decide +kernel
theorem dX10_advance_10 : decode cX10_advance 10 = .ok (.if_icmp .eq 16, 3) := by decide +kernel
theorem dX10_advance_13 : decode cX10_advance 13 = .ok (.aload_n 0, 1) := by decide +kernel
theorem dX10_advance_14 : decode cX10_advance 14 = .ok (.aload_n 0, 1) := by decide +kernel
theorem dX10_advance_15 : decode cX10_advance 15 = .ok (.getfield 110, 3) := by decide +kernel
theorem dX10_advance_18 : decode cX10_advance 18 = .ok (.invokevirtual 113, 3) := by decide +kernel
theorem dX10_advance_21 : decode cX10_advance 21 = .ok (.bipush 10, 2) := by decide +kernel
theorem dX10_advance_23 : decode cX10_advance 23 = .ok (.if_icmp .ne 16, 3) := by decide +kernel
theorem dX10_advance_26 : decode cX10_advance 26 = .ok (.aload_n 0, 1) := by decide +kernel
theorem dX10_advance_27 : decode cX10_advance 27 = .ok (.dup, 1) := by decide +kernel
theorem dX10_advance_28 : decode cX10_advance 28 = .ok (.getfield 110, 3) := by decide +kernel
theorem dX10_advance_31 : decode cX10_advance 31 = .ok (.iconst 1, 1) := by decide +kernel
theorem dX10_advance_32 : decode cX10_advance 32 = .ok (.iadd, 1) := by decide +kernel
theorem dX10_advance_33 : decode cX10_advance 33 = .ok (.putfield 110, 3) := by decide +kernel
theorem dX10_advance_36 : decode cX10_advance 36 = .ok (.goto (-36), 3) := by decide +kernel
theorem dX10_advance_39 : decode cX10_advance 39 = .ok (.aload_n 0, 1) := by decide +kernel
theorem dX10_advance_40 : decode cX10_advance 40 = .ok (.aload_n 0, 1) := by decide +kernel
theorem dX10_advance_41 : decode cX10_advance 41 = .ok (.getfield 110, 3) := by decide +kernel
theorem dX10_advance_44 : decode cX10_advance 44 = .ok (.putfield 117, 3) := by decide +kernel
theorem dX10_advance_47 : decode cX10_advance 47 = .ok (.aload_n 0, 1) := by decide +kernel
theorem dX10_advance_48 : decode cX10_advance 48 = .ok (.aload_n 0, 1) := by decide +kernel
theorem dX10_advance_49 : decode cX10_advance 49 = .ok (.getfield 110, 3) := by decide +kernel
theorem dX10_advance_52 : decode cX10_advance 52 = .ok (.invokevirtual 113, 3) := by decide +kernel
theorem dX10_advance_55 : decode cX10_advance 55 = .ok (.istore_n 1, 1) := by decide +kernel
theorem dX10_advance_56 : decode cX10_advance 56 = .ok (.iload_n 1, 1) := by decide +kernel
theorem dX10_advance_57 : decode cX10_advance 57 = .ok (.iconst (-1), 1) := by decide +kernel
theorem dX10_advance_58 : decode cX10_advance 58 = .ok (.if_icmp .ne 11, 3) := by decide +kernel
theorem dX10_advance_61 : decode cX10_advance 61 = .ok (.aload_n 0, 1) := by decide +kernel
theorem dX10_advance_62 : decode cX10_advance 62 = .ok (.iconst 0, 1) := by decide +kernel
theorem dX10_advance_63 : decode cX10_advance 63 = .ok (.putfield 120, 3) := by decide +kernel
theorem dX10_advance_66 : decode cX10_advance 66 = .ok (.goto 173, 3) := by decide +kernel
theorem dX10_advance_69 : decode cX10_advance 69 = .ok (.iload_n 1, 1) := by decide +kernel
theorem dX10_advance_70 : decode cX10_advance 70 = .ok (.i2l, 1) := by decide +kernel
theorem dX10_advance_71 : decode cX10_advance 71 = .ok (.ldc2_w 123, 3) := by decide +kernel
theorem dX10_advance_74 : decode cX10_advance 74 = .ok (.ldc2_w 125, 3) := by decide +kernel
theorem dX10_advance_77 : decode cX10_advance 77 = .ok (.invokestatic 100, 3) := by decide +kernel
theorem dX10_advance_80 : decode cX10_advance 80 = .ok (.ifCond .eq 45, 3) := by decide +kernel
theorem dX10_advance_83 : decode cX10_advance 83 = .ok (.aload_n 0, 1) := by decide +kernel
theorem dX10_advance_84 : decode cX10_advance 84 = .ok (.aload_n 0, 1) := by decide +kernel
theorem dX10_advance_85 : decode cX10_advance 85 = .ok (.getfield 110, 3) := by decide +kernel
theorem dX10_advance_88 : decode cX10_advance 88 = .ok (.invokevirtual 113, 3) := by decide +kernel
theorem dX10_advance_91 : decode cX10_advance 91 = .ok (.i2l, 1) := by decide +kernel
theorem dX10_advance_92 : decode cX10_advance 92 = .ok (.ldc2_w 123, 3) := by decide +kernel
theorem dX10_advance_95 : decode cX10_advance 95 = .ok (.ldc2_w 125, 3) := by decide +kernel
theorem dX10_advance_98 : decode cX10_advance 98 = .ok (.invokestatic 100, 3) := by decide +kernel
theorem dX10_advance_101 : decode cX10_advance 101 = .ok (.ifCond .eq 16, 3) := by decide +kernel
theorem dX10_advance_104 : decode cX10_advance 104 = .ok (.aload_n 0, 1) := by decide +kernel
theorem dX10_advance_105 : decode cX10_advance 105 = .ok (.dup, 1) := by decide +kernel
theorem dX10_advance_106 : decode cX10_advance 106 = .ok (.getfield 110, 3) := by decide +kernel
theorem dX10_advance_109 : decode cX10_advance 109 = .ok (.iconst 1, 1) := by decide +kernel
theorem dX10_advance_110 : decode cX10_advance 110 = .ok (.iadd, 1) := by decide +kernel
theorem dX10_advance_111 : decode cX10_advance 111 = .ok (.putfield 110, 3) := by decide +kernel
theorem dX10_advance_114 : decode cX10_advance 114 = .ok (.goto (-31), 3) := by decide +kernel
theorem dX10_advance_117 : decode cX10_advance 117 = .ok (.aload_n 0, 1) := by decide +kernel
theorem dX10_advance_118 : decode cX10_advance 118 = .ok (.iconst 1, 1) := by decide +kernel
theorem dX10_advance_119 : decode cX10_advance 119 = .ok (.putfield 120, 3) := by decide +kernel
theorem dX10_advance_122 : decode cX10_advance 122 = .ok (.goto 117, 3) := by decide +kernel
theorem dX10_advance_125 : decode cX10_advance 125 = .ok (.iload_n 1, 1) := by decide +kernel
theorem dX10_advance_126 : decode cX10_advance 126 = .ok (.i2l, 1) := by decide +kernel
theorem dX10_advance_127 : decode cX10_advance 127 = .ok (.ldc2_w 127, 3) := by decide +kernel
theorem dX10_advance_130 : decode cX10_advance 130 = .ok (.ldc2_w 129, 3) := by decide +kernel
theorem dX10_advance_133 : decode cX10_advance 133 = .ok (.invokestatic 100, 3) := by decide +kernel
theorem dX10_advance_136 : decode cX10_advance 136 = .ok (.ifCond .eq 78, 3) := by decide +kernel
theorem dX10_advance_139 : decode cX10_advance 139 = .ok (.aload_n 0, 1) := by decide +kernel
theorem dX10_advance_140 : decode cX10_advance 140 = .ok (.iconst 0, 1) := by decide +kernel
theorem dX10_advance_141 : decode cX10_advance 141 = .ok (.putfield 131, 3) := by decide +kernel
theorem dX10_advance_144 : decode cX10_advance 144 = .ok (.aload_n 0, 1) := by decide +kernel
theorem dX10_advance_145 : decode cX10_advance 145 = .ok (.aload_n 0, 1) := by decide +kernel
theorem dX10_advance_146 : decode cX10_advance 146 = .ok (.getfield 110, 3) := by decide +kernel
theorem dX10_advance_149 : decode cX10_advance 149 = .ok (.invokevirtual 113, 3) := by decide +kernel
theorem dX10_advance_152 : decode cX10_advance 152 = .ok (.i2l, 1) := by decide +kernel
theorem dX10_advance_153 : decode cX10_advance 153 = .ok (.ldc2_w 127, 3) := by decide +kernel
theorem dX10_advance_156 : decode cX10_advance 156 = .ok (.ldc2_w 129, 3) := by decide +kernel
theorem dX10_advance_159 : decode cX10_advance 159 = .ok (.invokestatic 100, 3) := by decide +kernel
theorem dX10_advance_162 : decode cX10_advance 162 = .ok (.ifCond .eq 44, 3) := by decide +kernel
theorem dX10_advance_165 : decode cX10_advance 165 = .ok (.aload_n 0, 1) := by decide +kernel
theorem dX10_advance_166 : decode cX10_advance 166 = .ok (.ldc 134, 2) := by decide +kernel
theorem dX10_advance_168 : decode cX10_advance 168 = .ok (.bipush 10, 2) := by decide +kernel
theorem dX10_advance_170 : decode cX10_advance 170 = .ok (.aload_n 0, 1) := by decide +kernel
theorem dX10_advance_171 : decode cX10_advance 171 = .ok (.getfield 131, 3) := by decide +kernel
theorem dX10_advance_174 : decode cX10_advance 174 = .ok (.imul, 1) := by decide +kernel
theorem dX10_advance_175 : decode cX10_advance 175 = .ok (.aload_n 0, 1) := by decide +kernel
theorem dX10_advance_176 : decode cX10_advance 176 = .ok (.aload_n 0, 1) := by decide +kernel
theorem dX10_advance_177 : decode cX10_advance 177 = .ok (.getfield 110, 3) := by decide +kernel
theorem dX10_advance_180 : decode cX10_advance 180 = .ok (.invokevirtual 113, 3) := by decide +kernel
theorem dX10_advance_183 : decode cX10_advance 183 = .ok (.iadd, 1) := by decide +kernel
theorem dX10_advance_184 : decode cX10_advance 184 = .ok (.bipush 48, 2) := by decide +kernel
theorem dX10_advance_186 : decode cX10_advance 186 = .ok (.isub, 1) := by decide +kernel
theorem dX10_advance_187 : decode cX10_advance 187 = .ok (.invokestatic 135, 3) := by decide +kernel
theorem dX10_advance_190 : decode cX10_advance 190 = .ok (.putfield 131, 3) := by decide +kernel
theorem dX10_advance_193 : decode cX10_advance 193 = .ok (.aload_n 0, 1) := by decide +kernel
theorem dX10_advance_194 : decode cX10_advance 194 = .ok (.dup, 1) := by decide +kernel
theorem dX10_advance_195 : decode cX10_advance 195 = .ok (.getfield 110, 3) := by decide +kernel
theorem dX10_advance_198 : decode cX10_advance 198 = .ok (.iconst 1, 1) := by decide +kernel
theorem dX10_advance_199 : decode cX10_advance 199 = .ok (.iadd, 1) := by decide +kernel
theorem dX10_advance_200 : decode cX10_advance 200 = .ok (.putfield 110, 3) := by decide +kernel
theorem dX10_advance_203 : decode cX10_advance 203 = .ok (.goto (-59), 3) := by decide +kernel
theorem dX10_advance_206 : decode cX10_advance 206 = .ok (.aload_n 0, 1) := by decide +kernel
theorem dX10_advance_207 : decode cX10_advance 207 = .ok (.iconst 2, 1) := by decide +kernel
theorem dX10_advance_208 : decode cX10_advance 208 = .ok (.putfield 120, 3) := by decide +kernel
theorem dX10_advance_211 : decode cX10_advance 211 = .ok (.goto 28, 3) := by decide +kernel
theorem dX10_advance_214 : decode cX10_advance 214 = .ok (.aload_n 0, 1) := by decide +kernel
theorem dX10_advance_215 : decode cX10_advance 215 = .ok (.iload_n 1, 1) := by decide +kernel
theorem dX10_advance_216 : decode cX10_advance 216 = .ok (.bipush 59, 2) := by decide +kernel
theorem dX10_advance_218 : decode cX10_advance 218 = .ok (.if_icmp .ne 7, 3) := by decide +kernel
theorem dX10_advance_221 : decode cX10_advance 221 = .ok (.iconst 3, 1) := by decide +kernel
theorem dX10_advance_222 : decode cX10_advance 222 = .ok (.goto 4, 3) := by decide +kernel
theorem dX10_advance_225 : decode cX10_advance 225 = .ok (.iconst 4, 1) := by decide +kernel
theorem dX10_advance_226 : decode cX10_advance 226 = .ok (.putfield 120, 3) := by decide +kernel
theorem dX10_advance_229 : decode cX10_advance 229 = .ok (.aload_n 0, 1) := by decide +kernel
theorem dX10_advance_230 : decode cX10_advance 230 = .ok (.dup, 1) := by decide +kernel
theorem dX10_advance_231 : decode cX10_advance 231 = .ok (.getfield 110, 3) := by decide +kernel
theorem dX10_advance_234 : decode cX10_advance 234 = .ok (.iconst 1, 1) := by decide +kernel
theorem dX10_advance_235 : decode cX10_advance 235 = .ok (.iadd, 1) := by decide +kernel
theorem dX10_advance_236 : decode cX10_advance 236 = .ok (.putfield 110, 3) := by decide +kernel
theorem dX10_advance_239 : decode cX10_advance 239 = .ok (.return_, 1) := by decide +kernel
theorem dX10_good_0 : decode cX10_good 0 = .ok (.aload_n 0, 1) := by decide +kernel
theorem dX10_good_1 : decode cX10_good 1 = .ok (.getfield 141, 3) := by decide +kernel
theorem dX10_good_4 : decode cX10_good 4 = .ok (.ifCond .ne 7, 3) := by decide +kernel
theorem dX10_good_7 : decode cX10_good 7 = .ok (.iconst 1, 1) := by decide +kernel
theorem dX10_good_8 : decode cX10_good 8 = .ok (.goto 4, 3) := by decide +kernel
theorem dX10_good_11 : decode cX10_good 11 = .ok (.iconst 0, 1) := by decide +kernel
theorem dX10_good_12 : decode cX10_good 12 = .ok (.ireturn, 1) := by decide +kernel
theorem dX10_errs_0 : decode cX10_errs 0 = .ok (.aload_n 0, 1) := by decide +kernel
theorem dX10_errs_1 : decode cX10_errs 1 = .ok (.invokevirtual 144, 3) := by decide +kernel
theorem dX10_errs_4 : decode cX10_errs 4 = .ok (.ifCond .ne 4, 3) := by decide +kernel
theorem dX10_errs_7 : decode cX10_errs 7 = .ok (.return_, 1) := by decide +kernel
theorem dX10_errs_8 : decode cX10_errs 8 = .ok (.aload_n 0, 1) := by decide +kernel
theorem dX10_errs_9 : decode cX10_errs 9 = .ok (.iload_n 1, 1) := by decide +kernel
theorem dX10_errs_10 : decode cX10_errs 10 = .ok (.putfield 141, 3) := by decide +kernel
theorem dX10_errs_13 : decode cX10_errs 13 = .ok (.aload_n 0, 1) := by decide +kernel
theorem dX10_errs_14 : decode cX10_errs 14 = .ok (.aload_n 0, 1) := by decide +kernel
theorem dX10_errs_15 : decode cX10_errs 15 = .ok (.getfield 117, 3) := by decide +kernel
theorem dX10_errs_18 : decode cX10_errs 18 = .ok (.putfield 27, 3) := by decide +kernel
theorem dX10_errs_21 : decode cX10_errs 21 = .ok (.return_, 1) := by decide +kernel
theorem dX10_is_0 : decode cX10_is 0 = .ok (.aload_n 0, 1) := by decide +kernel
theorem dX10_is_1 : decode cX10_is 1 = .ok (.invokevirtual 144, 3) := by decide +kernel
theorem dX10_is_4 : decode cX10_is 4 = .ok (.ifCond .eq 31, 3) := by decide +kernel
theorem dX10_is_7 : decode cX10_is 7 = .ok (.aload_n 0, 1) := by decide +kernel
theorem dX10_is_8 : decode cX10_is 8 = .ok (.getfield 120, 3) := by decide +kernel
theorem dX10_is_11 : decode cX10_is 11 = .ok (.iconst 1, 1) := by decide +kernel
theorem dX10_is_12 : decode cX10_is 12 = .ok (.if_icmp .ne 23, 3) := by decide +kernel
theorem dX10_is_15 : decode cX10_is 15 = .ok (.aload_n 0, 1) := by decide +kernel
theorem dX10_is_16 : decode cX10_is 16 = .ok (.getfield 110, 3) := by decide +kernel
theorem dX10_is_19 : decode cX10_is 19 = .ok (.aload_n 0, 1) := by decide +kernel
theorem dX10_is_20 : decode cX10_is 20 = .ok (.getfield 117, 3) := by decide +kernel
theorem dX10_is_23 : decode cX10_is 23 = .ok (.isub, 1) := by decide +kernel
theorem dX10_is_24 : decode cX10_is 24 = .ok (.aload_n 1, 1) := by decide +kernel
theorem dX10_is_25 : decode cX10_is 25 = .ok (.invokevirtual 148, 3) := by decide +kernel
theorem dX10_is_28 : decode cX10_is 28 = .ok (.if_icmp .ne 7, 3) := by decide +kernel
theorem dX10_is_31 : decode cX10_is 31 = .ok (.iconst 1, 1) := by decide +kernel
theorem dX10_is_32 : decode cX10_is 32 = .ok (.goto 4, 3) := by decide +kernel
theorem dX10_is_35 : decode cX10_is 35 = .ok (.iconst 0, 1) := by decide +kernel
theorem dX10_is_36 : decode cX10_is 36 = .ok (.istore_n 2, 1) := by decide +kernel
theorem dX10_is_37 : decode cX10_is 37 = .ok (.iconst 0, 1) := by decide +kernel
theorem dX10_is_38 : decode cX10_is 38 = .ok (.istore_n 3, 1) := by decide +kernel
theorem dX10_is_39 : decode cX10_is 39 = .ok (.iload_n 3, 1) := by decide +kernel
theorem dX10_is_40 : decode cX10_is 40 = .ok (.aload_n 1, 1) := by decide +kernel
theorem dX10_is_41 : decode cX10_is 41 = .ok (.invokevirtual 148, 3) := by decide +kernel
theorem dX10_is_44 : decode cX10_is 44 = .ok (.if_icmp .ge 38, 3) := by decide +kernel
theorem dX10_is_47 : decode cX10_is 47 = .ok (.iload_n 2, 1) := by decide +kernel
theorem dX10_is_48 : decode cX10_is 48 = .ok (.ifCond .eq 34, 3) := by decide +kernel
theorem dX10_is_51 : decode cX10_is 51 = .ok (.aload_n 0, 1) := by decide +kernel
theorem dX10_is_52 : decode cX10_is 52 = .ok (.getfield 20, 3) := by decide +kernel
theorem dX10_is_55 : decode cX10_is 55 = .ok (.aload_n 0, 1) := by decide +kernel
theorem dX10_is_56 : decode cX10_is 56 = .ok (.getfield 117, 3) := by decide +kernel
theorem dX10_is_59 : decode cX10_is 59 = .ok (.iload_n 3, 1) := by decide +kernel
theorem dX10_is_60 : decode cX10_is 60 = .ok (.iadd, 1) := by decide +kernel
theorem dX10_is_61 : decode cX10_is 61 = .ok (.baload, 1) := by decide +kernel
theorem dX10_is_62 : decode cX10_is 62 = .ok (.aload_n 1, 1) := by decide +kernel
theorem dX10_is_63 : decode cX10_is 63 = .ok (.iload_n 3, 1) := by decide +kernel
theorem dX10_is_64 : decode cX10_is 64 = .ok (.invokevirtual 154, 3) := by decide +kernel
theorem dX10_is_67 : decode cX10_is 67 = .ok (.if_icmp .ne 7, 3) := by decide +kernel
theorem dX10_is_70 : decode cX10_is 70 = .ok (.iconst 1, 1) := by decide +kernel
theorem dX10_is_71 : decode cX10_is 71 = .ok (.goto 4, 3) := by decide +kernel
theorem dX10_is_74 : decode cX10_is 74 = .ok (.iconst 0, 1) := by decide +kernel
theorem dX10_is_75 : decode cX10_is 75 = .ok (.istore_n 2, 1) := by decide +kernel
theorem dX10_is_76 : decode cX10_is 76 = .ok (.iinc 3 1, 3) := by decide +kernel
theorem dX10_is_79 : decode cX10_is 79 = .ok (.goto (-40), 3) := by decide +kernel
theorem dX10_is_82 : decode cX10_is 82 = .ok (.iload_n 2, 1) := by decide +kernel
theorem dX10_is_83 : decode cX10_is 83 = .ok (.ireturn, 1) := by decide +kernel
theorem dX10_takes_0 : decode cX10_takes 0 = .ok (.aload_n 0, 1) := by decide +kernel
theorem dX10_takes_1 : decode cX10_takes 1 = .ok (.aload_n 1, 1) := by decide +kernel
theorem dX10_takes_2 : decode cX10_takes 2 = .ok (.invokevirtual 158, 3) := by decide +kernel
theorem dX10_takes_5 : decode cX10_takes 5 = .ok (.istore_n 2, 1) := by decide +kernel
theorem dX10_takes_6 : decode cX10_takes 6 = .ok (.iload_n 2, 1) := by decide +kernel
theorem dX10_takes_7 : decode cX10_takes 7 = .ok (.ifCond .eq 7, 3) := by decide +kernel
theorem dX10_takes_10 : decode cX10_takes 10 = .ok (.aload_n 0, 1) := by decide +kernel
theorem dX10_takes_11 : decode cX10_takes 11 = .ok (.invokevirtual 162, 3) := by decide +kernel
theorem dX10_takes_14 : decode cX10_takes 14 = .ok (.iload_n 2, 1) := by decide +kernel
theorem dX10_takes_15 : decode cX10_takes 15 = .ok (.ireturn, 1) := by decide +kernel
theorem dX10_needs_0 : decode cX10_needs 0 = .ok (.aload_n 0, 1) := by decide +kernel
theorem dX10_needs_1 : decode cX10_needs 1 = .ok (.aload_n 1, 1) := by decide +kernel
theorem dX10_needs_2 : decode cX10_needs 2 = .ok (.invokevirtual 165, 3) := by decide +kernel
theorem dX10_needs_5 : decode cX10_needs 5 = .ok (.ifCond .ne 8, 3) := by decide +kernel
theorem dX10_needs_8 : decode cX10_needs 8 = .ok (.aload_n 0, 1) := by decide +kernel
theorem dX10_needs_9 : decode cX10_needs 9 = .ok (.iconst 1, 1) := by decide +kernel
theorem dX10_needs_10 : decode cX10_needs 10 = .ok (.invokevirtual 168, 3) := by decide +kernel
theorem dX10_needs_13 : decode cX10_needs 13 = .ok (.return_, 1) := by decide +kernel
theorem dX10_number_0 : decode cX10_number 0 = .ok (.aload_n 0, 1) := by decide +kernel
theorem dX10_number_1 : decode cX10_number 1 = .ok (.invokevirtual 144, 3) := by decide +kernel
theorem dX10_number_4 : decode cX10_number 4 = .ok (.ifCond .eq 16, 3) := by decide +kernel
theorem dX10_number_7 : decode cX10_number 7 = .ok (.aload_n 0, 1) := by decide +kernel
theorem dX10_number_8 : decode cX10_number 8 = .ok (.getfield 120, 3) := by decide +kernel
theorem dX10_number_11 : decode cX10_number 11 = .ok (.iconst 2, 1) := by decide +kernel
theorem dX10_number_12 : decode cX10_number 12 = .ok (.if_icmp .eq 8, 3) := by decide +kernel
theorem dX10_number_15 : decode cX10_number 15 = .ok (.aload_n 0, 1) := by decide +kernel
theorem dX10_number_16 : decode cX10_number 16 = .ok (.iconst 1, 1) := by decide +kernel
theorem dX10_number_17 : decode cX10_number 17 = .ok (.invokevirtual 168, 3) := by decide +kernel
theorem dX10_number_20 : decode cX10_number 20 = .ok (.aload_n 0, 1) := by decide +kernel
theorem dX10_number_21 : decode cX10_number 21 = .ok (.invokevirtual 144, 3) := by decide +kernel
theorem dX10_number_24 : decode cX10_number 24 = .ok (.ifCond .eq 23, 3) := by decide +kernel
theorem dX10_number_27 : decode cX10_number 27 = .ok (.aload_n 0, 1) := by decide +kernel
theorem dX10_number_28 : decode cX10_number 28 = .ok (.getfield 131, 3) := by decide +kernel
theorem dX10_number_31 : decode cX10_number 31 = .ok (.i2l, 1) := by decide +kernel
theorem dX10_number_32 : decode cX10_number 32 = .ok (.iload_n 1, 1) := by decide +kernel
theorem dX10_number_33 : decode cX10_number 33 = .ok (.i2l, 1) := by decide +kernel
theorem dX10_number_34 : decode cX10_number 34 = .ok (.iload_n 2, 1) := by decide +kernel
theorem dX10_number_35 : decode cX10_number 35 = .ok (.i2l, 1) := by decide +kernel
theorem dX10_number_36 : decode cX10_number 36 = .ok (.invokestatic 100, 3) := by decide +kernel
theorem dX10_number_39 : decode cX10_number 39 = .ok (.ifCond .ne 8, 3) := by decide +kernel
theorem dX10_number_42 : decode cX10_number 42 = .ok (.aload_n 0, 1) := by decide +kernel
theorem dX10_number_43 : decode cX10_number 43 = .ok (.iconst 2, 1) := by decide +kernel
theorem dX10_number_44 : decode cX10_number 44 = .ok (.invokevirtual 168, 3) := by decide +kernel
theorem dX10_number_47 : decode cX10_number 47 = .ok (.aload_n 0, 1) := by decide +kernel
theorem dX10_number_48 : decode cX10_number 48 = .ok (.invokevirtual 144, 3) := by decide +kernel
theorem dX10_number_51 : decode cX10_number 51 = .ok (.ifCond .ne 5, 3) := by decide +kernel
theorem dX10_number_54 : decode cX10_number 54 = .ok (.iconst 0, 1) := by decide +kernel
theorem dX10_number_55 : decode cX10_number 55 = .ok (.ireturn, 1) := by decide +kernel
theorem dX10_number_56 : decode cX10_number 56 = .ok (.aload_n 0, 1) := by decide +kernel
theorem dX10_number_57 : decode cX10_number 57 = .ok (.getfield 131, 3) := by decide +kernel
theorem dX10_number_60 : decode cX10_number 60 = .ok (.istore_n 3, 1) := by decide +kernel
theorem dX10_number_61 : decode cX10_number 61 = .ok (.aload_n 0, 1) := by decide +kernel
theorem dX10_number_62 : decode cX10_number 62 = .ok (.invokevirtual 162, 3) := by decide +kernel
theorem dX10_number_65 : decode cX10_number 65 = .ok (.iload_n 3, 1) := by decide +kernel
theorem dX10_number_66 : decode cX10_number 66 = .ok (.ireturn, 1) := by decide +kernel
theorem dX10_told_0 : decode cX10_told 0 = .ok (.aload_n 0, 1) := by decide +kernel
theorem dX10_told_1 : decode cX10_told 1 = .ok (.aload_n 1, 1) := by decide +kernel
theorem dX10_told_2 : decode cX10_told 2 = .ok (.invokevirtual 172, 3) := by decide +kernel
theorem dX10_told_5 : decode cX10_told 5 = .ok (.aload_n 0, 1) := by decide +kernel
theorem dX10_told_6 : decode cX10_told 6 = .ok (.iload_n 2, 1) := by decide +kernel
theorem dX10_told_7 : decode cX10_told 7 = .ok (.iload_n 3, 1) := by decide +kernel
theorem dX10_told_8 : decode cX10_told 8 = .ok (.invokevirtual 176, 3) := by decide +kernel
theorem dX10_told_11 : decode cX10_told 11 = .ok (.ireturn, 1) := by decide +kernel
theorem dX10_fault_0 : decode cX10_fault 0 = .ok (.iload_n 1, 1) := by decide +kernel
theorem dX10_fault_1 : decode cX10_fault 1 = .ok (.ifCond .ne 10, 3) := by decide +kernel
theorem dX10_fault_4 : decode cX10_fault 4 = .ok (.aload_n 0, 1) := by decide +kernel
theorem dX10_fault_5 : decode cX10_fault 5 = .ok (.getfield 141, 3) := by decide +kernel
theorem dX10_fault_8 : decode cX10_fault 8 = .ok (.goto 16, 3) := by decide +kernel
theorem dX10_fault_11 : decode cX10_fault 11 = .ok (.iload_n 1, 1) := by decide +kernel
theorem dX10_fault_12 : decode cX10_fault 12 = .ok (.iconst 1, 1) := by decide +kernel
theorem dX10_fault_13 : decode cX10_fault 13 = .ok (.if_icmp .ne 10, 3) := by decide +kernel
theorem dX10_fault_16 : decode cX10_fault 16 = .ok (.aload_n 0, 1) := by decide +kernel
theorem dX10_fault_17 : decode cX10_fault 17 = .ok (.getfield 27, 3) := by decide +kernel
theorem dX10_fault_20 : decode cX10_fault 20 = .ok (.goto 4, 3) := by decide +kernel
theorem dX10_fault_23 : decode cX10_fault 23 = .ok (.iconst (-1), 1) := by decide +kernel
theorem dX10_fault_24 : decode cX10_fault 24 = .ok (.ireturn, 1) := by decide +kernel
theorem dX10_readFirst_0 : decode cX10_readFirst 0 = .ok (.aload_n 0, 1) := by decide +kernel
theorem dX10_readFirst_1 : decode cX10_readFirst 1 = .ok (.ldc 179, 2) := by decide +kernel
theorem dX10_readFirst_3 : decode cX10_readFirst 3 = .ok (.invokevirtual 172, 3) := by decide +kernel
theorem dX10_readFirst_6 : decode cX10_readFirst 6 = .ok (.aload_n 0, 1) := by decide +kernel
theorem dX10_readFirst_7 : decode cX10_readFirst 7 = .ok (.getfield 31, 3) := by decide +kernel
theorem dX10_readFirst_10 : decode cX10_readFirst 10 = .ok (.iconst 0, 1) := by decide +kernel
theorem dX10_readFirst_11 : decode cX10_readFirst 11 = .ok (.aload_n 0, 1) := by decide +kernel
theorem dX10_readFirst_12 : decode cX10_readFirst 12 = .ok (.ldc 181, 2) := by decide +kernel
theorem dX10_readFirst_14 : decode cX10_readFirst 14 = .ok (.iconst 1, 1) := by decide +kernel
theorem dX10_readFirst_15 : decode cX10_readFirst 15 = .ok (.bipush 16, 2) := by decide +kernel
theorem dX10_readFirst_17 : decode cX10_readFirst 17 = .ok (.invokevirtual 183, 3) := by decide +kernel
theorem dX10_readFirst_20 : decode cX10_readFirst 20 = .ok (.iastore, 1) := by decide +kernel
theorem dX10_readFirst_21 : decode cX10_readFirst 21 = .ok (.aload_n 0, 1) := by decide +kernel
theorem dX10_readFirst_22 : decode cX10_readFirst 22 = .ok (.getfield 31, 3) := by decide +kernel
theorem dX10_readFirst_25 : decode cX10_readFirst 25 = .ok (.iconst 1, 1) := by decide +kernel
theorem dX10_readFirst_26 : decode cX10_readFirst 26 = .ok (.aload_n 0, 1) := by decide +kernel
theorem dX10_readFirst_27 : decode cX10_readFirst 27 = .ok (.ldc 187, 2) := by decide +kernel
theorem dX10_readFirst_29 : decode cX10_readFirst 29 = .ok (.iconst 0, 1) := by decide +kernel
theorem dX10_readFirst_30 : decode cX10_readFirst 30 = .ok (.iconst 3, 1) := by decide +kernel
theorem dX10_readFirst_31 : decode cX10_readFirst 31 = .ok (.invokevirtual 183, 3) := by decide +kernel
theorem dX10_readFirst_34 : decode cX10_readFirst 34 = .ok (.iastore, 1) := by decide +kernel
theorem dX10_readFirst_35 : decode cX10_readFirst 35 = .ok (.aload_n 0, 1) := by decide +kernel
theorem dX10_readFirst_36 : decode cX10_readFirst 36 = .ok (.getfield 31, 3) := by decide +kernel
theorem dX10_readFirst_39 : decode cX10_readFirst 39 = .ok (.iconst 2, 1) := by decide +kernel
theorem dX10_readFirst_40 : decode cX10_readFirst 40 = .ok (.aload_n 0, 1) := by decide +kernel
theorem dX10_readFirst_41 : decode cX10_readFirst 41 = .ok (.ldc 189, 2) := by decide +kernel
theorem dX10_readFirst_43 : decode cX10_readFirst 43 = .ok (.iconst 0, 1) := by decide +kernel
theorem dX10_readFirst_44 : decode cX10_readFirst 44 = .ok (.bipush 10, 2) := by decide +kernel
theorem dX10_readFirst_46 : decode cX10_readFirst 46 = .ok (.invokevirtual 183, 3) := by decide +kernel
theorem dX10_readFirst_49 : decode cX10_readFirst 49 = .ok (.iastore, 1) := by decide +kernel
theorem dX10_readFirst_50 : decode cX10_readFirst 50 = .ok (.return_, 1) := by decide +kernel
theorem dX10_readRank_0 : decode cX10_readRank 0 = .ok (.bipush 10, 2) := by decide +kernel
theorem dX10_readRank_2 : decode cX10_readRank 2 = .ok (.iconst 4, 1) := by decide +kernel
theorem dX10_readRank_3 : decode cX10_readRank 3 = .ok (.aload_n 0, 1) := by decide +kernel
theorem dX10_readRank_4 : decode cX10_readRank 4 = .ok (.getfield 31, 3) := by decide +kernel
theorem dX10_readRank_7 : decode cX10_readRank 7 = .ok (.iconst 3, 1) := by decide +kernel
theorem dX10_readRank_8 : decode cX10_readRank 8 = .ok (.iaload, 1) := by decide +kernel
theorem dX10_readRank_9 : decode cX10_readRank 9 = .ok (.imul, 1) := by decide +kernel
theorem dX10_readRank_10 : decode cX10_readRank 10 = .ok (.iadd, 1) := by decide +kernel
theorem dX10_readRank_11 : decode cX10_readRank 11 = .ok (.istore_n 1, 1) := by decide +kernel
theorem dX10_readRank_12 : decode cX10_readRank 12 = .ok (.aload_n 0, 1) := by decide +kernel
theorem dX10_readRank_13 : decode cX10_readRank 13 = .ok (.getfield 31, 3) := by decide +kernel
theorem dX10_readRank_16 : decode cX10_readRank 16 = .ok (.iload_n 1, 1) := by decide +kernel
theorem dX10_readRank_17 : decode cX10_readRank 17 = .ok (.aload_n 0, 1) := by decide +kernel
theorem dX10_readRank_18 : decode cX10_readRank 18 = .ok (.ldc 191, 2) := by decide +kernel
theorem dX10_readRank_20 : decode cX10_readRank 20 = .ok (.iconst 1, 1) := by decide +kernel
theorem dX10_readRank_21 : decode cX10_readRank 21 = .ok (.bipush 9, 2) := by decide +kernel
theorem dX10_readRank_23 : decode cX10_readRank 23 = .ok (.invokevirtual 183, 3) := by decide +kernel
theorem dX10_readRank_26 : decode cX10_readRank 26 = .ok (.iastore, 1) := by decide +kernel
theorem dX10_readRank_27 : decode cX10_readRank 27 = .ok (.aload_n 0, 1) := by decide +kernel
theorem dX10_readRank_28 : decode cX10_readRank 28 = .ok (.getfield 31, 3) := by decide +kernel
theorem dX10_readRank_31 : decode cX10_readRank 31 = .ok (.iload_n 1, 1) := by decide +kernel
theorem dX10_readRank_32 : decode cX10_readRank 32 = .ok (.iconst 1, 1) := by decide +kernel
theorem dX10_readRank_33 : decode cX10_readRank 33 = .ok (.iadd, 1) := by decide +kernel
theorem dX10_readRank_34 : decode cX10_readRank 34 = .ok (.aload_n 0, 1) := by decide +kernel
theorem dX10_readRank_35 : decode cX10_readRank 35 = .ok (.ldc 193, 2) := by decide +kernel
theorem dX10_readRank_37 : decode cX10_readRank 37 = .ok (.iconst 0, 1) := by decide +kernel
theorem dX10_readRank_38 : decode cX10_readRank 38 = .ok (.bipush 99, 2) := by decide +kernel
theorem dX10_readRank_40 : decode cX10_readRank 40 = .ok (.invokevirtual 183, 3) := by decide +kernel
theorem dX10_readRank_43 : decode cX10_readRank 43 = .ok (.iastore, 1) := by decide +kernel
theorem dX10_readRank_44 : decode cX10_readRank 44 = .ok (.aload_n 0, 1) := by decide +kernel
theorem dX10_readRank_45 : decode cX10_readRank 45 = .ok (.getfield 31, 3) := by decide +kernel
theorem dX10_readRank_48 : decode cX10_readRank 48 = .ok (.iload_n 1, 1) := by decide +kernel
theorem dX10_readRank_49 : decode cX10_readRank 49 = .ok (.iconst 2, 1) := by decide +kernel
theorem dX10_readRank_50 : decode cX10_readRank 50 = .ok (.iadd, 1) := by decide +kernel
theorem dX10_readRank_51 : decode cX10_readRank 51 = .ok (.aload_n 0, 1) := by decide +kernel
theorem dX10_readRank_52 : decode cX10_readRank 52 = .ok (.ldc 195, 2) := by decide +kernel
theorem dX10_readRank_54 : decode cX10_readRank 54 = .ok (.iconst 0, 1) := by decide +kernel
theorem dX10_readRank_55 : decode cX10_readRank 55 = .ok (.bipush 20, 2) := by decide +kernel
theorem dX10_readRank_57 : decode cX10_readRank 57 = .ok (.invokevirtual 183, 3) := by decide +kernel
theorem dX10_readRank_60 : decode cX10_readRank 60 = .ok (.iastore, 1) := by decide +kernel
theorem dX10_readRank_61 : decode cX10_readRank 61 = .ok (.aload_n 0, 1) := by decide +kernel
theorem dX10_readRank_62 : decode cX10_readRank 62 = .ok (.getfield 31, 3) := by decide +kernel
theorem dX10_readRank_65 : decode cX10_readRank 65 = .ok (.iload_n 1, 1) := by decide +kernel
theorem dX10_readRank_66 : decode cX10_readRank 66 = .ok (.iconst 3, 1) := by decide +kernel
theorem dX10_readRank_67 : decode cX10_readRank 67 = .ok (.iadd, 1) := by decide +kernel
theorem dX10_readRank_68 : decode cX10_readRank 68 = .ok (.aload_n 0, 1) := by decide +kernel
theorem dX10_readRank_69 : decode cX10_readRank 69 = .ok (.ldc 197, 2) := by decide +kernel
theorem dX10_readRank_71 : decode cX10_readRank 71 = .ok (.iconst 0, 1) := by decide +kernel
theorem dX10_readRank_72 : decode cX10_readRank 72 = .ok (.bipush 30, 2) := by decide +kernel
theorem dX10_readRank_74 : decode cX10_readRank 74 = .ok (.invokevirtual 183, 3) := by decide +kernel
theorem dX10_readRank_77 : decode cX10_readRank 77 = .ok (.iastore, 1) := by decide +kernel
theorem dX10_readRank_78 : decode cX10_readRank 78 = .ok (.aload_n 0, 1) := by decide +kernel
theorem dX10_readRank_79 : decode cX10_readRank 79 = .ok (.getfield 31, 3) := by decide +kernel
theorem dX10_readRank_82 : decode cX10_readRank 82 = .ok (.iconst 3, 1) := by decide +kernel
theorem dX10_readRank_83 : decode cX10_readRank 83 = .ok (.dup2, 1) := by decide +kernel
theorem dX10_readRank_84 : decode cX10_readRank 84 = .ok (.iaload, 1) := by decide +kernel
theorem dX10_readRank_85 : decode cX10_readRank 85 = .ok (.iconst 1, 1) := by decide +kernel
theorem dX10_readRank_86 : decode cX10_readRank 86 = .ok (.iadd, 1) := by decide +kernel
theorem dX10_readRank_87 : decode cX10_readRank 87 = .ok (.iastore, 1) := by decide +kernel
theorem dX10_readRank_88 : decode cX10_readRank 88 = .ok (.return_, 1) := by decide +kernel
theorem dX10_readInvite_0 : decode cX10_readInvite 0 = .ok (.bipush 58, 2) := by decide +kernel
theorem dX10_readInvite_2 : decode cX10_readInvite 2 = .ok (.iconst 3, 1) := by decide +kernel
theorem dX10_readInvite_3 : decode cX10_readInvite 3 = .ok (.aload_n 0, 1) := by decide +kernel
theorem dX10_readInvite_4 : decode cX10_readInvite 4 = .ok (.getfield 31, 3) := by decide +kernel
theorem dX10_readInvite_7 : decode cX10_readInvite 7 = .ok (.bipush 7, 2) := by decide +kernel
theorem dX10_readInvite_9 : decode cX10_readInvite 9 = .ok (.iaload, 1) := by decide +kernel
theorem dX10_readInvite_10 : decode cX10_readInvite 10 = .ok (.imul, 1) := by decide +kernel
theorem dX10_readInvite_11 : decode cX10_readInvite 11 = .ok (.iadd, 1) := by decide +kernel
theorem dX10_readInvite_12 : decode cX10_readInvite 12 = .ok (.istore_n 1, 1) := by decide +kernel
theorem dX10_readInvite_13 : decode cX10_readInvite 13 = .ok (.aload_n 0, 1) := by decide +kernel
theorem dX10_readInvite_14 : decode cX10_readInvite 14 = .ok (.getfield 31, 3) := by decide +kernel
theorem dX10_readInvite_17 : decode cX10_readInvite 17 = .ok (.iload_n 1, 1) := by decide +kernel
theorem dX10_readInvite_18 : decode cX10_readInvite 18 = .ok (.aload_n 0, 1) := by decide +kernel
theorem dX10_readInvite_19 : decode cX10_readInvite 19 = .ok (.iconst 0, 1) := by decide +kernel
theorem dX10_readInvite_20 : decode cX10_readInvite 20 = .ok (.aload_n 0, 1) := by decide +kernel
theorem dX10_readInvite_21 : decode cX10_readInvite 21 = .ok (.getfield 31, 3) := by decide +kernel
theorem dX10_readInvite_24 : decode cX10_readInvite 24 = .ok (.iconst 3, 1) := by decide +kernel
theorem dX10_readInvite_25 : decode cX10_readInvite 25 = .ok (.iaload, 1) := by decide +kernel
theorem dX10_readInvite_26 : decode cX10_readInvite 26 = .ok (.iconst 1, 1) := by decide +kernel
theorem dX10_readInvite_27 : decode cX10_readInvite 27 = .ok (.isub, 1) := by decide +kernel
theorem dX10_readInvite_28 : decode cX10_readInvite 28 = .ok (.invokevirtual 176, 3) := by decide +kernel
theorem dX10_readInvite_31 : decode cX10_readInvite 31 = .ok (.iastore, 1) := by decide +kernel
theorem dX10_readInvite_32 : decode cX10_readInvite 32 = .ok (.aload_n 0, 1) := by decide +kernel
theorem dX10_readInvite_33 : decode cX10_readInvite 33 = .ok (.invokevirtual 144, 3) := by decide +kernel
theorem dX10_readInvite_36 : decode cX10_readInvite 36 = .ok (.ifCond .eq 29, 3) := by decide +kernel
theorem dX10_readInvite_39 : decode cX10_readInvite 39 = .ok (.aload_n 0, 1) := by decide +kernel
theorem dX10_readInvite_40 : decode cX10_readInvite 40 = .ok (.getfield 120, 3) := by decide +kernel
theorem dX10_readInvite_43 : decode cX10_readInvite 43 = .ok (.iconst 2, 1) := by decide +kernel
theorem dX10_readInvite_44 : decode cX10_readInvite 44 = .ok (.if_icmp .ne 21, 3) := by decide +kernel
theorem dX10_readInvite_47 : decode cX10_readInvite 47 = .ok (.aload_n 0, 1) := by decide +kernel
theorem dX10_readInvite_48 : decode cX10_readInvite 48 = .ok (.getfield 131, 3) := by decide +kernel
theorem dX10_readInvite_51 : decode cX10_readInvite 51 = .ok (.aload_n 0, 1) := by decide +kernel
theorem dX10_readInvite_52 : decode cX10_readInvite 52 = .ok (.getfield 31, 3) := by decide +kernel
theorem dX10_readInvite_55 : decode cX10_readInvite 55 = .ok (.iload_n 1, 1) := by decide +kernel
theorem dX10_readInvite_56 : decode cX10_readInvite 56 = .ok (.iaload, 1) := by decide +kernel
theorem dX10_readInvite_57 : decode cX10_readInvite 57 = .ok (.if_icmp .ne 8, 3) := by decide +kernel
theorem dX10_readInvite_60 : decode cX10_readInvite 60 = .ok (.aload_n 0, 1) := by decide +kernel
theorem dX10_readInvite_61 : decode cX10_readInvite 61 = .ok (.iconst 2, 1) := by decide +kernel
theorem dX10_readInvite_62 : decode cX10_readInvite 62 = .ok (.invokevirtual 168, 3) := by decide +kernel
theorem dX10_readInvite_65 : decode cX10_readInvite 65 = .ok (.aload_n 0, 1) := by decide +kernel
theorem dX10_readInvite_66 : decode cX10_readInvite 66 = .ok (.getfield 31, 3) := by decide +kernel
theorem dX10_readInvite_69 : decode cX10_readInvite 69 = .ok (.iload_n 1, 1) := by decide +kernel
theorem dX10_readInvite_70 : decode cX10_readInvite 70 = .ok (.iconst 1, 1) := by decide +kernel
theorem dX10_readInvite_71 : decode cX10_readInvite 71 = .ok (.iadd, 1) := by decide +kernel
theorem dX10_readInvite_72 : decode cX10_readInvite 72 = .ok (.aload_n 0, 1) := by decide +kernel
theorem dX10_readInvite_73 : decode cX10_readInvite 73 = .ok (.iconst 0, 1) := by decide +kernel
theorem dX10_readInvite_74 : decode cX10_readInvite 74 = .ok (.aload_n 0, 1) := by decide +kernel
theorem dX10_readInvite_75 : decode cX10_readInvite 75 = .ok (.getfield 31, 3) := by decide +kernel
theorem dX10_readInvite_78 : decode cX10_readInvite 78 = .ok (.iconst 3, 1) := by decide +kernel
theorem dX10_readInvite_79 : decode cX10_readInvite 79 = .ok (.iaload, 1) := by decide +kernel
theorem dX10_readInvite_80 : decode cX10_readInvite 80 = .ok (.iconst 1, 1) := by decide +kernel
theorem dX10_readInvite_81 : decode cX10_readInvite 81 = .ok (.isub, 1) := by decide +kernel
theorem dX10_readInvite_82 : decode cX10_readInvite 82 = .ok (.invokevirtual 176, 3) := by decide +kernel
theorem dX10_readInvite_85 : decode cX10_readInvite 85 = .ok (.iastore, 1) := by decide +kernel
theorem dX10_readInvite_86 : decode cX10_readInvite 86 = .ok (.aload_n 0, 1) := by decide +kernel
theorem dX10_readInvite_87 : decode cX10_readInvite 87 = .ok (.getfield 31, 3) := by decide +kernel
theorem dX10_readInvite_90 : decode cX10_readInvite 90 = .ok (.iload_n 1, 1) := by decide +kernel
theorem dX10_readInvite_91 : decode cX10_readInvite 91 = .ok (.iconst 2, 1) := by decide +kernel
theorem dX10_readInvite_92 : decode cX10_readInvite 92 = .ok (.iadd, 1) := by decide +kernel
theorem dX10_readInvite_93 : decode cX10_readInvite 93 = .ok (.aload_n 0, 1) := by decide +kernel
theorem dX10_readInvite_94 : decode cX10_readInvite 94 = .ok (.ldc 199, 2) := by decide +kernel
theorem dX10_readInvite_96 : decode cX10_readInvite 96 = .ok (.iconst 0, 1) := by decide +kernel
theorem dX10_readInvite_97 : decode cX10_readInvite 97 = .ok (.bipush 15, 2) := by decide +kernel
theorem dX10_readInvite_99 : decode cX10_readInvite 99 = .ok (.invokevirtual 183, 3) := by decide +kernel
theorem dX10_readInvite_102 : decode cX10_readInvite 102 = .ok (.iastore, 1) := by decide +kernel
theorem dX10_readInvite_103 : decode cX10_readInvite 103 = .ok (.aload_n 0, 1) := by decide +kernel
theorem dX10_readInvite_104 : decode cX10_readInvite 104 = .ok (.getfield 31, 3) := by decide +kernel
theorem dX10_readInvite_107 : decode cX10_readInvite 107 = .ok (.bipush 7, 2) := by decide +kernel
theorem dX10_readInvite_109 : decode cX10_readInvite 109 = .ok (.dup2, 1) := by decide +kernel
theorem dX10_readInvite_110 : decode cX10_readInvite 110 = .ok (.iaload, 1) := by decide +kernel
theorem dX10_readInvite_111 : decode cX10_readInvite 111 = .ok (.iconst 1, 1) := by decide +kernel
theorem dX10_readInvite_112 : decode cX10_readInvite 112 = .ok (.iadd, 1) := by decide +kernel
theorem dX10_readInvite_113 : decode cX10_readInvite 113 = .ok (.iastore, 1) := by decide +kernel
theorem dX10_readInvite_114 : decode cX10_readInvite 114 = .ok (.return_, 1) := by decide +kernel
theorem dX10_isFull_0 : decode cX10_isFull 0 = .ok (.aload_n 0, 1) := by decide +kernel
theorem dX10_isFull_1 : decode cX10_isFull 1 = .ok (.ldc 200, 2) := by decide +kernel
theorem dX10_isFull_3 : decode cX10_isFull 3 = .ok (.invokevirtual 158, 3) := by decide +kernel
theorem dX10_isFull_6 : decode cX10_isFull 6 = .ok (.ifCond .eq 14, 3) := by decide +kernel
theorem dX10_isFull_9 : decode cX10_isFull 9 = .ok (.aload_n 0, 1) := by decide +kernel
theorem dX10_isFull_10 : decode cX10_isFull 10 = .ok (.getfield 31, 3) := by decide +kernel
theorem dX10_isFull_13 : decode cX10_isFull 13 = .ok (.iconst 3, 1) := by decide +kernel
theorem dX10_isFull_14 : decode cX10_isFull 14 = .ok (.iaload, 1) := by decide +kernel
theorem dX10_isFull_15 : decode cX10_isFull 15 = .ok (.bipush 6, 2) := by decide +kernel
theorem dX10_isFull_17 : decode cX10_isFull 17 = .ok (.if_icmp .eq 41, 3) := by decide +kernel
theorem dX10_isFull_20 : decode cX10_isFull 20 = .ok (.aload_n 0, 1) := by decide +kernel
theorem dX10_isFull_21 : decode cX10_isFull 21 = .ok (.ldc 202, 2) := by decide +kernel
theorem dX10_isFull_23 : decode cX10_isFull 23 = .ok (.invokevirtual 158, 3) := by decide +kernel
theorem dX10_isFull_26 : decode cX10_isFull 26 = .ok (.ifCond .eq 13, 3) := by decide +kernel
theorem dX10_isFull_29 : decode cX10_isFull 29 = .ok (.aload_n 0, 1) := by decide +kernel
theorem dX10_isFull_30 : decode cX10_isFull 30 = .ok (.getfield 31, 3) := by decide +kernel
theorem dX10_isFull_33 : decode cX10_isFull 33 = .ok (.iconst 4, 1) := by decide +kernel
theorem dX10_isFull_34 : decode cX10_isFull 34 = .ok (.iaload, 1) := by decide +kernel
theorem dX10_isFull_35 : decode cX10_isFull 35 = .ok (.iconst 5, 1) := by decide +kernel
theorem dX10_isFull_36 : decode cX10_isFull 36 = .ok (.if_icmp .eq 22, 3) := by decide +kernel
theorem dX10_isFull_39 : decode cX10_isFull 39 = .ok (.aload_n 0, 1) := by decide +kernel
theorem dX10_isFull_40 : decode cX10_isFull 40 = .ok (.ldc 204, 2) := by decide +kernel
theorem dX10_isFull_42 : decode cX10_isFull 42 = .ok (.invokevirtual 158, 3) := by decide +kernel
theorem dX10_isFull_45 : decode cX10_isFull 45 = .ok (.ifCond .eq 15, 3) := by decide +kernel
theorem dX10_isFull_48 : decode cX10_isFull 48 = .ok (.aload_n 0, 1) := by decide +kernel
theorem dX10_isFull_49 : decode cX10_isFull 49 = .ok (.getfield 31, 3) := by decide +kernel
theorem dX10_isFull_52 : decode cX10_isFull 52 = .ok (.iconst 5, 1) := by decide +kernel
theorem dX10_isFull_53 : decode cX10_isFull 53 = .ok (.iaload, 1) := by decide +kernel
theorem dX10_isFull_54 : decode cX10_isFull 54 = .ok (.iconst 5, 1) := by decide +kernel
theorem dX10_isFull_55 : decode cX10_isFull 55 = .ok (.if_icmp .ne 5, 3) := by decide +kernel
theorem dX10_isFull_58 : decode cX10_isFull 58 = .ok (.iconst 1, 1) := by decide +kernel
theorem dX10_isFull_59 : decode cX10_isFull 59 = .ok (.ireturn, 1) := by decide +kernel
theorem dX10_isFull_60 : decode cX10_isFull 60 = .ok (.aload_n 0, 1) := by decide +kernel
theorem dX10_isFull_61 : decode cX10_isFull 61 = .ok (.ldc 206, 2) := by decide +kernel
theorem dX10_isFull_63 : decode cX10_isFull 63 = .ok (.invokevirtual 158, 3) := by decide +kernel
theorem dX10_isFull_66 : decode cX10_isFull 66 = .ok (.ifCond .eq 14, 3) := by decide +kernel
theorem dX10_isFull_69 : decode cX10_isFull 69 = .ok (.aload_n 0, 1) := by decide +kernel
theorem dX10_isFull_70 : decode cX10_isFull 70 = .ok (.getfield 31, 3) := by decide +kernel
theorem dX10_isFull_73 : decode cX10_isFull 73 = .ok (.bipush 6, 2) := by decide +kernel
theorem dX10_isFull_75 : decode cX10_isFull 75 = .ok (.iaload, 1) := by decide +kernel
theorem dX10_isFull_76 : decode cX10_isFull 76 = .ok (.iconst 4, 1) := by decide +kernel
theorem dX10_isFull_77 : decode cX10_isFull 77 = .ok (.if_icmp .eq 24, 3) := by decide +kernel
theorem dX10_isFull_80 : decode cX10_isFull 80 = .ok (.aload_n 0, 1) := by decide +kernel
theorem dX10_isFull_81 : decode cX10_isFull 81 = .ok (.ldc 208, 2) := by decide +kernel
theorem dX10_isFull_83 : decode cX10_isFull 83 = .ok (.invokevirtual 158, 3) := by decide +kernel
theorem dX10_isFull_86 : decode cX10_isFull 86 = .ok (.ifCond .eq 19, 3) := by decide +kernel
theorem dX10_isFull_89 : decode cX10_isFull 89 = .ok (.aload_n 0, 1) := by decide +kernel
theorem dX10_isFull_90 : decode cX10_isFull 90 = .ok (.getfield 31, 3) := by decide +kernel
theorem dX10_isFull_93 : decode cX10_isFull 93 = .ok (.bipush 7, 2) := by decide +kernel
theorem dX10_isFull_95 : decode cX10_isFull 95 = .ok (.iaload, 1) := by decide +kernel
theorem dX10_isFull_96 : decode cX10_isFull 96 = .ok (.bipush 8, 2) := by decide +kernel
theorem dX10_isFull_98 : decode cX10_isFull 98 = .ok (.if_icmp .ne 7, 3) := by decide +kernel
theorem dX10_isFull_101 : decode cX10_isFull 101 = .ok (.iconst 1, 1) := by decide +kernel
theorem dX10_isFull_102 : decode cX10_isFull 102 = .ok (.goto 4, 3) := by decide +kernel
theorem dX10_isFull_105 : decode cX10_isFull 105 = .ok (.iconst 0, 1) := by decide +kernel
theorem dX10_isFull_106 : decode cX10_isFull 106 = .ok (.ireturn, 1) := by decide +kernel
theorem dX10_readNext_0 : decode cX10_readNext 0 = .ok (.aload_n 0, 1) := by decide +kernel
theorem dX10_readNext_1 : decode cX10_readNext 1 = .ok (.ldc 200, 2) := by decide +kernel
theorem dX10_readNext_3 : decode cX10_readNext 3 = .ok (.invokevirtual 158, 3) := by decide +kernel
theorem dX10_readNext_6 : decode cX10_readNext 6 = .ok (.ifCond .ne 39, 3) := by decide +kernel
theorem dX10_readNext_9 : decode cX10_readNext 9 = .ok (.aload_n 0, 1) := by decide +kernel
theorem dX10_readNext_10 : decode cX10_readNext 10 = .ok (.ldc 202, 2) := by decide +kernel
theorem dX10_readNext_12 : decode cX10_readNext 12 = .ok (.invokevirtual 158, 3) := by decide +kernel
theorem dX10_readNext_15 : decode cX10_readNext 15 = .ok (.ifCond .ne 30, 3) := by decide +kernel
theorem dX10_readNext_18 : decode cX10_readNext 18 = .ok (.aload_n 0, 1) := by decide +kernel
theorem dX10_readNext_19 : decode cX10_readNext 19 = .ok (.ldc 204, 2) := by decide +kernel
theorem dX10_readNext_21 : decode cX10_readNext 21 = .ok (.invokevirtual 158, 3) := by decide +kernel
theorem dX10_readNext_24 : decode cX10_readNext 24 = .ok (.ifCond .ne 21, 3) := by decide +kernel
theorem dX10_readNext_27 : decode cX10_readNext 27 = .ok (.aload_n 0, 1) := by decide +kernel
theorem dX10_readNext_28 : decode cX10_readNext 28 = .ok (.ldc 206, 2) := by decide +kernel
theorem dX10_readNext_30 : decode cX10_readNext 30 = .ok (.invokevirtual 158, 3) := by decide +kernel
theorem dX10_readNext_33 : decode cX10_readNext 33 = .ok (.ifCond .ne 12, 3) := by decide +kernel
theorem dX10_readNext_36 : decode cX10_readNext 36 = .ok (.aload_n 0, 1) := by decide +kernel
theorem dX10_readNext_37 : decode cX10_readNext 37 = .ok (.ldc 208, 2) := by decide +kernel
theorem dX10_readNext_39 : decode cX10_readNext 39 = .ok (.invokevirtual 158, 3) := by decide +kernel
theorem dX10_readNext_42 : decode cX10_readNext 42 = .ok (.ifCond .eq 7, 3) := by decide +kernel
theorem dX10_readNext_45 : decode cX10_readNext 45 = .ok (.iconst 1, 1) := by decide +kernel
theorem dX10_readNext_46 : decode cX10_readNext 46 = .ok (.goto 4, 3) := by decide +kernel
theorem dX10_readNext_49 : decode cX10_readNext 49 = .ok (.iconst 0, 1) := by decide +kernel
theorem dX10_readNext_50 : decode cX10_readNext 50 = .ok (.istore_n 1, 1) := by decide +kernel
theorem dX10_readNext_51 : decode cX10_readNext 51 = .ok (.iload_n 1, 1) := by decide +kernel
theorem dX10_readNext_52 : decode cX10_readNext 52 = .ok (.ifCond .ne 8, 3) := by decide +kernel
theorem dX10_readNext_55 : decode cX10_readNext 55 = .ok (.aload_n 0, 1) := by decide +kernel
theorem dX10_readNext_56 : decode cX10_readNext 56 = .ok (.iconst 1, 1) := by decide +kernel
theorem dX10_readNext_57 : decode cX10_readNext 57 = .ok (.invokevirtual 168, 3) := by decide +kernel
theorem dX10_readNext_60 : decode cX10_readNext 60 = .ok (.aload_n 0, 1) := by decide +kernel
theorem dX10_readNext_61 : decode cX10_readNext 61 = .ok (.invokevirtual 210, 3) := by decide +kernel
theorem dX10_readNext_64 : decode cX10_readNext 64 = .ok (.ifCond .eq 8, 3) := by decide +kernel
theorem dX10_readNext_67 : decode cX10_readNext 67 = .ok (.aload_n 0, 1) := by decide +kernel
theorem dX10_readNext_68 : decode cX10_readNext 68 = .ok (.iconst 3, 1) := by decide +kernel
theorem dX10_readNext_69 : decode cX10_readNext 69 = .ok (.invokevirtual 168, 3) := by decide +kernel
theorem dX10_readNext_72 : decode cX10_readNext 72 = .ok (.aload_n 0, 1) := by decide +kernel
theorem dX10_readNext_73 : decode cX10_readNext 73 = .ok (.invokevirtual 144, 3) := by decide +kernel
theorem dX10_readNext_76 : decode cX10_readNext 76 = .ok (.ifCond .ne 4, 3) := by decide +kernel
theorem dX10_readNext_79 : decode cX10_readNext 79 = .ok (.return_, 1) := by decide +kernel
theorem dX10_readNext_80 : decode cX10_readNext 80 = .ok (.aload_n 0, 1) := by decide +kernel
theorem dX10_readNext_81 : decode cX10_readNext 81 = .ok (.ldc 200, 2) := by decide +kernel
theorem dX10_readNext_83 : decode cX10_readNext 83 = .ok (.invokevirtual 165, 3) := by decide +kernel
theorem dX10_readNext_86 : decode cX10_readNext 86 = .ok (.ifCond .eq 10, 3) := by decide +kernel
theorem dX10_readNext_89 : decode cX10_readNext 89 = .ok (.aload_n 0, 1) := by decide +kernel
theorem dX10_readNext_90 : decode cX10_readNext 90 = .ok (.invokevirtual 213, 3) := by decide +kernel
theorem dX10_readNext_93 : decode cX10_readNext 93 = .ok (.goto 192, 3) := by decide +kernel
theorem dX10_readNext_96 : decode cX10_readNext 96 = .ok (.aload_n 0, 1) := by decide +kernel
theorem dX10_readNext_97 : decode cX10_readNext 97 = .ok (.ldc 202, 2) := by decide +kernel
theorem dX10_readNext_99 : decode cX10_readNext 99 = .ok (.invokevirtual 165, 3) := by decide +kernel
theorem dX10_readNext_102 : decode cX10_readNext 102 = .ok (.ifCond .eq 64, 3) := by decide +kernel
theorem dX10_readNext_105 : decode cX10_readNext 105 = .ok (.bipush 34, 2) := by decide +kernel
theorem dX10_readNext_107 : decode cX10_readNext 107 = .ok (.iconst 2, 1) := by decide +kernel
theorem dX10_readNext_108 : decode cX10_readNext 108 = .ok (.aload_n 0, 1) := by decide +kernel
theorem dX10_readNext_109 : decode cX10_readNext 109 = .ok (.getfield 31, 3) := by decide +kernel
theorem dX10_readNext_112 : decode cX10_readNext 112 = .ok (.iconst 4, 1) := by decide +kernel
theorem dX10_readNext_113 : decode cX10_readNext 113 = .ok (.iaload, 1) := by decide +kernel
theorem dX10_readNext_114 : decode cX10_readNext 114 = .ok (.imul, 1) := by decide +kernel
theorem dX10_readNext_115 : decode cX10_readNext 115 = .ok (.iadd, 1) := by decide +kernel
theorem dX10_readNext_116 : decode cX10_readNext 116 = .ok (.istore_n 2, 1) := by decide +kernel
theorem dX10_readNext_117 : decode cX10_readNext 117 = .ok (.aload_n 0, 1) := by decide +kernel
theorem dX10_readNext_118 : decode cX10_readNext 118 = .ok (.getfield 31, 3) := by decide +kernel
theorem dX10_readNext_121 : decode cX10_readNext 121 = .ok (.iload_n 2, 1) := by decide +kernel
theorem dX10_readNext_122 : decode cX10_readNext 122 = .ok (.aload_n 0, 1) := by decide +kernel
theorem dX10_readNext_123 : decode cX10_readNext 123 = .ok (.iconst 1, 1) := by decide +kernel
theorem dX10_readNext_124 : decode cX10_readNext 124 = .ok (.bipush 9, 2) := by decide +kernel
theorem dX10_readNext_126 : decode cX10_readNext 126 = .ok (.invokevirtual 176, 3) := by decide +kernel
theorem dX10_readNext_129 : decode cX10_readNext 129 = .ok (.iastore, 1) := by decide +kernel
theorem dX10_readNext_130 : decode cX10_readNext 130 = .ok (.aload_n 0, 1) := by decide +kernel
theorem dX10_readNext_131 : decode cX10_readNext 131 = .ok (.getfield 31, 3) := by decide +kernel
theorem dX10_readNext_134 : decode cX10_readNext 134 = .ok (.iload_n 2, 1) := by decide +kernel
theorem dX10_readNext_135 : decode cX10_readNext 135 = .ok (.iconst 1, 1) := by decide +kernel
theorem dX10_readNext_136 : decode cX10_readNext 136 = .ok (.iadd, 1) := by decide +kernel
theorem dX10_readNext_137 : decode cX10_readNext 137 = .ok (.aload_n 0, 1) := by decide +kernel
theorem dX10_readNext_138 : decode cX10_readNext 138 = .ok (.ldc 216, 2) := by decide +kernel
theorem dX10_readNext_140 : decode cX10_readNext 140 = .ok (.iconst 0, 1) := by decide +kernel
theorem dX10_readNext_141 : decode cX10_readNext 141 = .ok (.aload_n 0, 1) := by decide +kernel
theorem dX10_readNext_142 : decode cX10_readNext 142 = .ok (.getfield 31, 3) := by decide +kernel
theorem dX10_readNext_145 : decode cX10_readNext 145 = .ok (.iconst 3, 1) := by decide +kernel
theorem dX10_readNext_146 : decode cX10_readNext 146 = .ok (.iaload, 1) := by decide +kernel
theorem dX10_readNext_147 : decode cX10_readNext 147 = .ok (.iconst 1, 1) := by decide +kernel
theorem dX10_readNext_148 : decode cX10_readNext 148 = .ok (.isub, 1) := by decide +kernel
theorem dX10_readNext_149 : decode cX10_readNext 149 = .ok (.invokevirtual 183, 3) := by decide +kernel
theorem dX10_readNext_152 : decode cX10_readNext 152 = .ok (.iastore, 1) := by decide +kernel
theorem dX10_readNext_153 : decode cX10_readNext 153 = .ok (.aload_n 0, 1) := by decide +kernel
theorem dX10_readNext_154 : decode cX10_readNext 154 = .ok (.getfield 31, 3) := by decide +kernel
theorem dX10_readNext_157 : decode cX10_readNext 157 = .ok (.iconst 4, 1) := by decide +kernel
theorem dX10_readNext_158 : decode cX10_readNext 158 = .ok (.dup2, 1) := by decide +kernel
theorem dX10_readNext_159 : decode cX10_readNext 159 = .ok (.iaload, 1) := by decide +kernel
theorem dX10_readNext_160 : decode cX10_readNext 160 = .ok (.iconst 1, 1) := by decide +kernel
theorem dX10_readNext_161 : decode cX10_readNext 161 = .ok (.iadd, 1) := by decide +kernel
theorem dX10_readNext_162 : decode cX10_readNext 162 = .ok (.iastore, 1) := by decide +kernel
theorem dX10_readNext_163 : decode cX10_readNext 163 = .ok (.goto 122, 3) := by decide +kernel
theorem dX10_readNext_166 : decode cX10_readNext 166 = .ok (.aload_n 0, 1) := by decide +kernel
theorem dX10_readNext_167 : decode cX10_readNext 167 = .ok (.ldc 204, 2) := by decide +kernel
theorem dX10_readNext_169 : decode cX10_readNext 169 = .ok (.invokevirtual 165, 3) := by decide +kernel
theorem dX10_readNext_172 : decode cX10_readNext 172 = .ok (.ifCond .eq 58, 3) := by decide +kernel
theorem dX10_readNext_175 : decode cX10_readNext 175 = .ok (.bipush 44, 2) := by decide +kernel
theorem dX10_readNext_177 : decode cX10_readNext 177 = .ok (.iconst 2, 1) := by decide +kernel
theorem dX10_readNext_178 : decode cX10_readNext 178 = .ok (.aload_n 0, 1) := by decide +kernel
theorem dX10_readNext_179 : decode cX10_readNext 179 = .ok (.getfield 31, 3) := by decide +kernel
theorem dX10_readNext_182 : decode cX10_readNext 182 = .ok (.iconst 5, 1) := by decide +kernel
theorem dX10_readNext_183 : decode cX10_readNext 183 = .ok (.iaload, 1) := by decide +kernel
theorem dX10_readNext_184 : decode cX10_readNext 184 = .ok (.imul, 1) := by decide +kernel
theorem dX10_readNext_185 : decode cX10_readNext 185 = .ok (.iadd, 1) := by decide +kernel
theorem dX10_readNext_186 : decode cX10_readNext 186 = .ok (.istore_n 2, 1) := by decide +kernel
theorem dX10_readNext_187 : decode cX10_readNext 187 = .ok (.aload_n 0, 1) := by decide +kernel
theorem dX10_readNext_188 : decode cX10_readNext 188 = .ok (.getfield 31, 3) := by decide +kernel
theorem dX10_readNext_191 : decode cX10_readNext 191 = .ok (.iload_n 2, 1) := by decide +kernel
theorem dX10_readNext_192 : decode cX10_readNext 192 = .ok (.aload_n 0, 1) := by decide +kernel
theorem dX10_readNext_193 : decode cX10_readNext 193 = .ok (.iconst 1, 1) := by decide +kernel
theorem dX10_readNext_194 : decode cX10_readNext 194 = .ok (.bipush 40, 2) := by decide +kernel
theorem dX10_readNext_196 : decode cX10_readNext 196 = .ok (.invokevirtual 176, 3) := by decide +kernel
theorem dX10_readNext_199 : decode cX10_readNext 199 = .ok (.iastore, 1) := by decide +kernel
theorem dX10_readNext_200 : decode cX10_readNext 200 = .ok (.aload_n 0, 1) := by decide +kernel
theorem dX10_readNext_201 : decode cX10_readNext 201 = .ok (.getfield 31, 3) := by decide +kernel
theorem dX10_readNext_204 : decode cX10_readNext 204 = .ok (.iload_n 2, 1) := by decide +kernel
theorem dX10_readNext_205 : decode cX10_readNext 205 = .ok (.iconst 1, 1) := by decide +kernel
theorem dX10_readNext_206 : decode cX10_readNext 206 = .ok (.iadd, 1) := by decide +kernel
theorem dX10_readNext_207 : decode cX10_readNext 207 = .ok (.aload_n 0, 1) := by decide +kernel
theorem dX10_readNext_208 : decode cX10_readNext 208 = .ok (.ldc 199, 2) := by decide +kernel
theorem dX10_readNext_210 : decode cX10_readNext 210 = .ok (.iconst 0, 1) := by decide +kernel
theorem dX10_readNext_211 : decode cX10_readNext 211 = .ok (.bipush 15, 2) := by decide +kernel
theorem dX10_readNext_213 : decode cX10_readNext 213 = .ok (.invokevirtual 183, 3) := by decide +kernel
theorem dX10_readNext_216 : decode cX10_readNext 216 = .ok (.iastore, 1) := by decide +kernel
theorem dX10_readNext_217 : decode cX10_readNext 217 = .ok (.aload_n 0, 1) := by decide +kernel
theorem dX10_readNext_218 : decode cX10_readNext 218 = .ok (.getfield 31, 3) := by decide +kernel
theorem dX10_readNext_221 : decode cX10_readNext 221 = .ok (.iconst 5, 1) := by decide +kernel
theorem dX10_readNext_222 : decode cX10_readNext 222 = .ok (.dup2, 1) := by decide +kernel
theorem dX10_readNext_223 : decode cX10_readNext 223 = .ok (.iaload, 1) := by decide +kernel
theorem dX10_readNext_224 : decode cX10_readNext 224 = .ok (.iconst 1, 1) := by decide +kernel
theorem dX10_readNext_225 : decode cX10_readNext 225 = .ok (.iadd, 1) := by decide +kernel
theorem dX10_readNext_226 : decode cX10_readNext 226 = .ok (.iastore, 1) := by decide +kernel
theorem dX10_readNext_227 : decode cX10_readNext 227 = .ok (.goto 58, 3) := by decide +kernel
theorem dX10_readNext_230 : decode cX10_readNext 230 = .ok (.aload_n 0, 1) := by decide +kernel
theorem dX10_readNext_231 : decode cX10_readNext 231 = .ok (.ldc 206, 2) := by decide +kernel
theorem dX10_readNext_233 : decode cX10_readNext 233 = .ok (.invokevirtual 165, 3) := by decide +kernel
theorem dX10_readNext_236 : decode cX10_readNext 236 = .ok (.ifCond .eq 41, 3) := by decide +kernel
theorem dX10_readNext_239 : decode cX10_readNext 239 = .ok (.aload_n 0, 1) := by decide +kernel
theorem dX10_readNext_240 : decode cX10_readNext 240 = .ok (.getfield 31, 3) := by decide +kernel
theorem dX10_readNext_243 : decode cX10_readNext 243 = .ok (.bipush 54, 2) := by decide +kernel
theorem dX10_readNext_245 : decode cX10_readNext 245 = .ok (.aload_n 0, 1) := by decide +kernel
theorem dX10_readNext_246 : decode cX10_readNext 246 = .ok (.getfield 31, 3) := by decide +kernel
theorem dX10_readNext_249 : decode cX10_readNext 249 = .ok (.bipush 6, 2) := by decide +kernel
theorem dX10_readNext_251 : decode cX10_readNext 251 = .ok (.iaload, 1) := by decide +kernel
theorem dX10_readNext_252 : decode cX10_readNext 252 = .ok (.iadd, 1) := by decide +kernel
theorem dX10_readNext_253 : decode cX10_readNext 253 = .ok (.aload_n 0, 1) := by decide +kernel
theorem dX10_readNext_254 : decode cX10_readNext 254 = .ok (.ldc 199, 2) := by decide +kernel
theorem dX10_readNext_256 : decode cX10_readNext 256 = .ok (.iconst 0, 1) := by decide +kernel
theorem dX10_readNext_257 : decode cX10_readNext 257 = .ok (.bipush 15, 2) := by decide +kernel
theorem dX10_readNext_259 : decode cX10_readNext 259 = .ok (.invokevirtual 183, 3) := by decide +kernel
theorem dX10_readNext_262 : decode cX10_readNext 262 = .ok (.iastore, 1) := by decide +kernel
theorem dX10_readNext_263 : decode cX10_readNext 263 = .ok (.aload_n 0, 1) := by decide +kernel
theorem dX10_readNext_264 : decode cX10_readNext 264 = .ok (.getfield 31, 3) := by decide +kernel
theorem dX10_readNext_267 : decode cX10_readNext 267 = .ok (.bipush 6, 2) := by decide +kernel
theorem dX10_readNext_269 : decode cX10_readNext 269 = .ok (.dup2, 1) := by decide +kernel
theorem dX10_readNext_270 : decode cX10_readNext 270 = .ok (.iaload, 1) := by decide +kernel
theorem dX10_readNext_271 : decode cX10_readNext 271 = .ok (.iconst 1, 1) := by decide +kernel
theorem dX10_readNext_272 : decode cX10_readNext 272 = .ok (.iadd, 1) := by decide +kernel
theorem dX10_readNext_273 : decode cX10_readNext 273 = .ok (.iastore, 1) := by decide +kernel
theorem dX10_readNext_274 : decode cX10_readNext 274 = .ok (.goto 11, 3) := by decide +kernel
theorem dX10_readNext_277 : decode cX10_readNext 277 = .ok (.aload_n 0, 1) := by decide +kernel
theorem dX10_readNext_278 : decode cX10_readNext 278 = .ok (.invokevirtual 162, 3) := by decide +kernel
theorem dX10_readNext_281 : decode cX10_readNext 281 = .ok (.aload_n 0, 1) := by decide +kernel
theorem dX10_readNext_282 : decode cX10_readNext 282 = .ok (.invokevirtual 218, 3) := by decide +kernel
theorem dX10_readNext_285 : decode cX10_readNext 285 = .ok (.return_, 1) := by decide +kernel
theorem dX10_readLine_0 : decode cX10_readLine 0 = .ok (.aload_n 0, 1) := by decide +kernel
theorem dX10_readLine_1 : decode cX10_readLine 1 = .ok (.getfield 31, 3) := by decide +kernel
theorem dX10_readLine_4 : decode cX10_readLine 4 = .ok (.bipush 9, 2) := by decide +kernel
theorem dX10_readLine_6 : decode cX10_readLine 6 = .ok (.iaload, 1) := by decide +kernel
theorem dX10_readLine_7 : decode cX10_readLine 7 = .ok (.ifCond .ne 10, 3) := by decide +kernel
theorem dX10_readLine_10 : decode cX10_readLine 10 = .ok (.aload_n 0, 1) := by decide +kernel
theorem dX10_readLine_11 : decode cX10_readLine 11 = .ok (.invokevirtual 221, 3) := by decide +kernel
theorem dX10_readLine_14 : decode cX10_readLine 14 = .ok (.goto 7, 3) := by decide +kernel
theorem dX10_readLine_17 : decode cX10_readLine 17 = .ok (.aload_n 0, 1) := by decide +kernel
theorem dX10_readLine_18 : decode cX10_readLine 18 = .ok (.invokevirtual 224, 3) := by decide +kernel
theorem dX10_readLine_21 : decode cX10_readLine 21 = .ok (.aload_n 0, 1) := by decide +kernel
theorem dX10_readLine_22 : decode cX10_readLine 22 = .ok (.invokevirtual 144, 3) := by decide +kernel
theorem dX10_readLine_25 : decode cX10_readLine 25 = .ok (.ifCond .eq 16, 3) := by decide +kernel
theorem dX10_readLine_28 : decode cX10_readLine 28 = .ok (.aload_n 0, 1) := by decide +kernel
theorem dX10_readLine_29 : decode cX10_readLine 29 = .ok (.getfield 120, 3) := by decide +kernel
theorem dX10_readLine_32 : decode cX10_readLine 32 = .ok (.iconst 3, 1) := by decide +kernel
theorem dX10_readLine_33 : decode cX10_readLine 33 = .ok (.if_icmp .eq 8, 3) := by decide +kernel
theorem dX10_readLine_36 : decode cX10_readLine 36 = .ok (.aload_n 0, 1) := by decide +kernel
theorem dX10_readLine_37 : decode cX10_readLine 37 = .ok (.iconst 1, 1) := by decide +kernel
theorem dX10_readLine_38 : decode cX10_readLine 38 = .ok (.invokevirtual 168, 3) := by decide +kernel
theorem dX10_readLine_41 : decode cX10_readLine 41 = .ok (.aload_n 0, 1) := by decide +kernel
theorem dX10_readLine_42 : decode cX10_readLine 42 = .ok (.invokevirtual 144, 3) := by decide +kernel
theorem dX10_readLine_45 : decode cX10_readLine 45 = .ok (.ifCond .eq 7, 3) := by decide +kernel
theorem dX10_readLine_48 : decode cX10_readLine 48 = .ok (.aload_n 0, 1) := by decide +kernel
theorem dX10_readLine_49 : decode cX10_readLine 49 = .ok (.invokevirtual 162, 3) := by decide +kernel
theorem dX10_readLine_52 : decode cX10_readLine 52 = .ok (.aload_n 0, 1) := by decide +kernel
theorem dX10_readLine_53 : decode cX10_readLine 53 = .ok (.getfield 31, 3) := by decide +kernel
theorem dX10_readLine_56 : decode cX10_readLine 56 = .ok (.bipush 9, 2) := by decide +kernel
theorem dX10_readLine_58 : decode cX10_readLine 58 = .ok (.dup2, 1) := by decide +kernel
theorem dX10_readLine_59 : decode cX10_readLine 59 = .ok (.iaload, 1) := by decide +kernel
theorem dX10_readLine_60 : decode cX10_readLine 60 = .ok (.iconst 1, 1) := by decide +kernel
theorem dX10_readLine_61 : decode cX10_readLine 61 = .ok (.iadd, 1) := by decide +kernel
theorem dX10_readLine_62 : decode cX10_readLine 62 = .ok (.iastore, 1) := by decide +kernel
theorem dX10_readLine_63 : decode cX10_readLine 63 = .ok (.return_, 1) := by decide +kernel
theorem dX10_dukedom_0 : decode cX10_dukedom 0 = .ok (.aload_n 0, 1) := by decide +kernel
theorem dX10_dukedom_1 : decode cX10_dukedom 1 = .ok (.aload_n 0, 1) := by decide +kernel
theorem dX10_dukedom_2 : decode cX10_dukedom 2 = .ok (.getfield 104, 3) := by decide +kernel
theorem dX10_dukedom_5 : decode cX10_dukedom 5 = .ok (.putfield 107, 3) := by decide +kernel
theorem dX10_dukedom_8 : decode cX10_dukedom 8 = .ok (.aload_n 0, 1) := by decide +kernel
theorem dX10_dukedom_9 : decode cX10_dukedom 9 = .ok (.iconst 0, 1) := by decide +kernel
theorem dX10_dukedom_10 : decode cX10_dukedom 10 = .ok (.putfield 104, 3) := by decide +kernel
theorem dX10_dukedom_13 : decode cX10_dukedom 13 = .ok (.aload_n 0, 1) := by decide +kernel
theorem dX10_dukedom_14 : decode cX10_dukedom 14 = .ok (.iconst 0, 1) := by decide +kernel
theorem dX10_dukedom_15 : decode cX10_dukedom 15 = .ok (.putfield 110, 3) := by decide +kernel
theorem dX10_dukedom_18 : decode cX10_dukedom 18 = .ok (.aload_n 0, 1) := by decide +kernel
theorem dX10_dukedom_19 : decode cX10_dukedom 19 = .ok (.iconst 0, 1) := by decide +kernel
theorem dX10_dukedom_20 : decode cX10_dukedom 20 = .ok (.putfield 141, 3) := by decide +kernel
theorem dX10_dukedom_23 : decode cX10_dukedom 23 = .ok (.aload_n 0, 1) := by decide +kernel
theorem dX10_dukedom_24 : decode cX10_dukedom 24 = .ok (.iconst (-1), 1) := by decide +kernel
theorem dX10_dukedom_25 : decode cX10_dukedom 25 = .ok (.putfield 27, 3) := by decide +kernel
theorem dX10_dukedom_28 : decode cX10_dukedom 28 = .ok (.iconst 0, 1) := by decide +kernel
theorem dX10_dukedom_29 : decode cX10_dukedom 29 = .ok (.istore_n 1, 1) := by decide +kernel
theorem dX10_dukedom_30 : decode cX10_dukedom 30 = .ok (.iload_n 1, 1) := by decide +kernel
theorem dX10_dukedom_31 : decode cX10_dukedom 31 = .ok (.bipush 112, 2) := by decide +kernel
theorem dX10_dukedom_33 : decode cX10_dukedom 33 = .ok (.if_icmp .ge 16, 3) := by decide +kernel
theorem dX10_dukedom_36 : decode cX10_dukedom 36 = .ok (.aload_n 0, 1) := by decide +kernel
theorem dX10_dukedom_37 : decode cX10_dukedom 37 = .ok (.getfield 31, 3) := by decide +kernel
theorem dX10_dukedom_40 : decode cX10_dukedom 40 = .ok (.iload_n 1, 1) := by decide +kernel
theorem dX10_dukedom_41 : decode cX10_dukedom 41 = .ok (.iconst 0, 1) := by decide +kernel
theorem dX10_dukedom_42 : decode cX10_dukedom 42 = .ok (.iastore, 1) := by decide +kernel
theorem dX10_dukedom_43 : decode cX10_dukedom 43 = .ok (.iinc 1 1, 3) := by decide +kernel
theorem dX10_dukedom_46 : decode cX10_dukedom 46 = .ok (.goto (-16), 3) := by decide +kernel
theorem dX10_dukedom_49 : decode cX10_dukedom 49 = .ok (.aload_n 0, 1) := by decide +kernel
theorem dX10_dukedom_50 : decode cX10_dukedom 50 = .ok (.invokevirtual 162, 3) := by decide +kernel
theorem dX10_dukedom_53 : decode cX10_dukedom 53 = .ok (.aload_n 0, 1) := by decide +kernel
theorem dX10_dukedom_54 : decode cX10_dukedom 54 = .ok (.invokevirtual 144, 3) := by decide +kernel
theorem dX10_dukedom_57 : decode cX10_dukedom 57 = .ok (.ifCond .eq 17, 3) := by decide +kernel
theorem dX10_dukedom_60 : decode cX10_dukedom 60 = .ok (.aload_n 0, 1) := by decide +kernel
theorem dX10_dukedom_61 : decode cX10_dukedom 61 = .ok (.getfield 120, 3) := by decide +kernel
theorem dX10_dukedom_64 : decode cX10_dukedom 64 = .ok (.ifCond .eq 10, 3) := by decide +kernel
theorem dX10_dukedom_67 : decode cX10_dukedom 67 = .ok (.aload_n 0, 1) := by decide +kernel
theorem dX10_dukedom_68 : decode cX10_dukedom 68 = .ok (.invokevirtual 227, 3) := by decide +kernel
theorem dX10_dukedom_71 : decode cX10_dukedom 71 = .ok (.goto (-18), 3) := by decide +kernel
theorem dX10_dukedom_74 : decode cX10_dukedom 74 = .ok (.aload_n 0, 1) := by decide +kernel
theorem dX10_dukedom_75 : decode cX10_dukedom 75 = .ok (.invokevirtual 144, 3) := by decide +kernel
theorem dX10_dukedom_78 : decode cX10_dukedom 78 = .ok (.ifCond .ne 6, 3) := by decide +kernel
theorem dX10_dukedom_81 : decode cX10_dukedom 81 = .ok (.bipush (-4), 2) := by decide +kernel
theorem dX10_dukedom_83 : decode cX10_dukedom 83 = .ok (.ireturn, 1) := by decide +kernel
theorem dX10_dukedom_84 : decode cX10_dukedom 84 = .ok (.iconst 0, 1) := by decide +kernel
theorem dX10_dukedom_85 : decode cX10_dukedom 85 = .ok (.istore_n 1, 1) := by decide +kernel
theorem dX10_dukedom_86 : decode cX10_dukedom 86 = .ok (.iload_n 1, 1) := by decide +kernel
theorem dX10_dukedom_87 : decode cX10_dukedom 87 = .ok (.bipush 112, 2) := by decide +kernel
theorem dX10_dukedom_89 : decode cX10_dukedom 89 = .ok (.if_icmp .ge 21, 3) := by decide +kernel
theorem dX10_dukedom_92 : decode cX10_dukedom 92 = .ok (.aload_n 0, 1) := by decide +kernel
theorem dX10_dukedom_93 : decode cX10_dukedom 93 = .ok (.getfield 9, 3) := by decide +kernel
theorem dX10_dukedom_96 : decode cX10_dukedom 96 = .ok (.iload_n 1, 1) := by decide +kernel
theorem dX10_dukedom_97 : decode cX10_dukedom 97 = .ok (.aload_n 0, 1) := by decide +kernel
theorem dX10_dukedom_98 : decode cX10_dukedom 98 = .ok (.getfield 31, 3) := by decide +kernel
theorem dX10_dukedom_101 : decode cX10_dukedom 101 = .ok (.iload_n 1, 1) := by decide +kernel
theorem dX10_dukedom_102 : decode cX10_dukedom 102 = .ok (.iaload, 1) := by decide +kernel
theorem dX10_dukedom_103 : decode cX10_dukedom 103 = .ok (.iastore, 1) := by decide +kernel
theorem dX10_dukedom_104 : decode cX10_dukedom 104 = .ok (.iinc 1 1, 3) := by decide +kernel
theorem dX10_dukedom_107 : decode cX10_dukedom 107 = .ok (.goto (-21), 3) := by decide +kernel
theorem dX10_dukedom_110 : decode cX10_dukedom 110 = .ok (.aload_n 0, 1) := by decide +kernel
theorem dX10_dukedom_111 : decode cX10_dukedom 111 = .ok (.getfield 9, 3) := by decide +kernel
theorem dX10_dukedom_114 : decode cX10_dukedom 114 = .ok (.bipush 9, 2) := by decide +kernel
theorem dX10_dukedom_116 : decode cX10_dukedom 116 = .ok (.iaload, 1) := by decide +kernel
theorem dX10_dukedom_117 : decode cX10_dukedom 117 = .ok (.ireturn, 1) := by decide +kernel
theorem dX10_rank_0 : decode cX10_rank 0 = .ok (.aload_n 0, 1) := by decide +kernel
theorem dX10_rank_1 : decode cX10_rank 1 = .ok (.iload_n 1, 1) := by decide +kernel
theorem dX10_rank_2 : decode cX10_rank 2 = .ok (.i2l, 1) := by decide +kernel
theorem dX10_rank_3 : decode cX10_rank 3 = .ok (.invokevirtual 230, 3) := by decide +kernel
theorem dX10_rank_6 : decode cX10_rank 6 = .ok (.ifCond .eq 24, 3) := by decide +kernel
theorem dX10_rank_9 : decode cX10_rank 9 = .ok (.iload_n 2, 1) := by decide +kernel
theorem dX10_rank_10 : decode cX10_rank 10 = .ok (.i2l, 1) := by decide +kernel
theorem dX10_rank_11 : decode cX10_rank 11 = .ok (.lconst 0, 1) := by decide +kernel
theorem dX10_rank_12 : decode cX10_rank 12 = .ok (.ldc2_w 234, 3) := by decide +kernel
theorem dX10_rank_15 : decode cX10_rank 15 = .ok (.invokestatic 100, 3) := by decide +kernel
theorem dX10_rank_18 : decode cX10_rank 18 = .ok (.ifCond .eq 12, 3) := by decide +kernel
theorem dX10_rank_21 : decode cX10_rank 21 = .ok (.aload_n 0, 1) := by decide +kernel
theorem dX10_rank_22 : decode cX10_rank 22 = .ok (.iload_n 1, 1) := by decide +kernel
theorem dX10_rank_23 : decode cX10_rank 23 = .ok (.iload_n 2, 1) := by decide +kernel
theorem dX10_rank_24 : decode cX10_rank 24 = .ok (.invokevirtual 236, 3) := by decide +kernel
theorem dX10_rank_27 : decode cX10_rank 27 = .ok (.goto 5, 3) := by decide +kernel
theorem dX10_rank_30 : decode cX10_rank 30 = .ok (.bipush (-2), 2) := by decide +kernel
theorem dX10_rank_32 : decode cX10_rank 32 = .ok (.ireturn, 1) := by decide +kernel
theorem dX10_plank_0 : decode cX10_plank 0 = .ok (.iload_n 1, 1) := by decide +kernel
theorem dX10_plank_1 : decode cX10_plank 1 = .ok (.i2l, 1) := by decide +kernel
theorem dX10_plank_2 : decode cX10_plank 2 = .ok (.lconst 0, 1) := by decide +kernel
theorem dX10_plank_3 : decode cX10_plank 3 = .ok (.aload_n 0, 1) := by decide +kernel
theorem dX10_plank_4 : decode cX10_plank 4 = .ok (.getfield 9, 3) := by decide +kernel
theorem dX10_plank_7 : decode cX10_plank 7 = .ok (.iconst 4, 1) := by decide +kernel
theorem dX10_plank_8 : decode cX10_plank 8 = .ok (.iaload, 1) := by decide +kernel
theorem dX10_plank_9 : decode cX10_plank 9 = .ok (.iconst 1, 1) := by decide +kernel
theorem dX10_plank_10 : decode cX10_plank 10 = .ok (.isub, 1) := by decide +kernel
theorem dX10_plank_11 : decode cX10_plank 11 = .ok (.i2l, 1) := by decide +kernel
theorem dX10_plank_12 : decode cX10_plank 12 = .ok (.invokestatic 100, 3) := by decide +kernel
theorem dX10_plank_15 : decode cX10_plank 15 = .ok (.ifCond .eq 29, 3) := by decide +kernel
theorem dX10_plank_18 : decode cX10_plank 18 = .ok (.iload_n 2, 1) := by decide +kernel
theorem dX10_plank_19 : decode cX10_plank 19 = .ok (.i2l, 1) := by decide +kernel
theorem dX10_plank_20 : decode cX10_plank 20 = .ok (.lconst 0, 1) := by decide +kernel
theorem dX10_plank_21 : decode cX10_plank 21 = .ok (.lconst 1, 1) := by decide +kernel
theorem dX10_plank_22 : decode cX10_plank 22 = .ok (.invokestatic 100, 3) := by decide +kernel
theorem dX10_plank_25 : decode cX10_plank 25 = .ok (.ifCond .eq 19, 3) := by decide +kernel
theorem dX10_plank_28 : decode cX10_plank 28 = .ok (.aload_n 0, 1) := by decide +kernel
theorem dX10_plank_29 : decode cX10_plank 29 = .ok (.getfield 9, 3) := by decide +kernel
theorem dX10_plank_32 : decode cX10_plank 32 = .ok (.bipush 34, 2) := by decide +kernel
theorem dX10_plank_34 : decode cX10_plank 34 = .ok (.iconst 2, 1) := by decide +kernel
theorem dX10_plank_35 : decode cX10_plank 35 = .ok (.iload_n 1, 1) := by decide +kernel
theorem dX10_plank_36 : decode cX10_plank 36 = .ok (.imul, 1) := by decide +kernel
theorem dX10_plank_37 : decode cX10_plank 37 = .ok (.iadd, 1) := by decide +kernel
theorem dX10_plank_38 : decode cX10_plank 38 = .ok (.iload_n 2, 1) := by decide +kernel
theorem dX10_plank_39 : decode cX10_plank 39 = .ok (.iadd, 1) := by decide +kernel
theorem dX10_plank_40 : decode cX10_plank 40 = .ok (.iaload, 1) := by decide +kernel
theorem dX10_plank_41 : decode cX10_plank 41 = .ok (.goto 5, 3) := by decide +kernel
theorem dX10_plank_44 : decode cX10_plank 44 = .ok (.bipush (-2), 2) := by decide +kernel
theorem dX10_plank_46 : decode cX10_plank 46 = .ok (.ireturn, 1) := by decide +kernel
theorem dX10_invite_0 : decode cX10_invite 0 = .ok (.aload_n 0, 1) := by decide +kernel
theorem dX10_invite_1 : decode cX10_invite 1 = .ok (.iload_n 1, 1) := by decide +kernel
theorem dX10_invite_2 : decode cX10_invite 2 = .ok (.invokevirtual 239, 3) := by decide +kernel
theorem dX10_invite_5 : decode cX10_invite 5 = .ok (.ifCond .eq 24, 3) := by decide +kernel
theorem dX10_invite_8 : decode cX10_invite 8 = .ok (.iload_n 2, 1) := by decide +kernel
theorem dX10_invite_9 : decode cX10_invite 9 = .ok (.i2l, 1) := by decide +kernel
theorem dX10_invite_10 : decode cX10_invite 10 = .ok (.lconst 0, 1) := by decide +kernel
theorem dX10_invite_11 : decode cX10_invite 11 = .ok (.ldc2_w 98, 3) := by decide +kernel
theorem dX10_invite_14 : decode cX10_invite 14 = .ok (.invokestatic 100, 3) := by decide +kernel
theorem dX10_invite_17 : decode cX10_invite 17 = .ok (.ifCond .eq 12, 3) := by decide +kernel
theorem dX10_invite_20 : decode cX10_invite 20 = .ok (.aload_n 0, 1) := by decide +kernel
theorem dX10_invite_21 : decode cX10_invite 21 = .ok (.iload_n 1, 1) := by decide +kernel
theorem dX10_invite_22 : decode cX10_invite 22 = .ok (.iload_n 2, 1) := by decide +kernel
theorem dX10_invite_23 : decode cX10_invite 23 = .ok (.invokevirtual 243, 3) := by decide +kernel
theorem dX10_invite_26 : decode cX10_invite 26 = .ok (.goto 5, 3) := by decide +kernel
theorem dX10_invite_29 : decode cX10_invite 29 = .ok (.bipush (-2), 2) := by decide +kernel
theorem dX10_invite_31 : decode cX10_invite 31 = .ok (.ireturn, 1) := by decide +kernel
theorem dX10_asItIs_0 : decode cX10_asItIs 0 = .ok (.aload_n 0, 1) := by decide +kernel
theorem dX10_asItIs_1 : decode cX10_asItIs 1 = .ok (.aload_n 0, 1) := by decide +kernel
theorem dX10_asItIs_2 : decode cX10_asItIs 2 = .ok (.getfield 9, 3) := by decide +kernel
theorem dX10_asItIs_5 : decode cX10_asItIs 5 = .ok (.iconst 1, 1) := by decide +kernel
theorem dX10_asItIs_6 : decode cX10_asItIs 6 = .ok (.iaload, 1) := by decide +kernel
theorem dX10_asItIs_7 : decode cX10_asItIs 7 = .ok (.putfield 246, 3) := by decide +kernel
theorem dX10_asItIs_10 : decode cX10_asItIs 10 = .ok (.aload_n 0, 1) := by decide +kernel
theorem dX10_asItIs_11 : decode cX10_asItIs 11 = .ok (.iconst 0, 1) := by decide +kernel
theorem dX10_asItIs_12 : decode cX10_asItIs 12 = .ok (.putfield 249, 3) := by decide +kernel
theorem dX10_asItIs_15 : decode cX10_asItIs 15 = .ok (.aload_n 0, 1) := by decide +kernel
theorem dX10_asItIs_16 : decode cX10_asItIs 16 = .ok (.iconst 0, 1) := by decide +kernel
theorem dX10_asItIs_17 : decode cX10_asItIs 17 = .ok (.putfield 252, 3) := by decide +kernel
theorem dX10_asItIs_20 : decode cX10_asItIs 20 = .ok (.iconst 0, 1) := by decide +kernel
theorem dX10_asItIs_21 : decode cX10_asItIs 21 = .ok (.istore_n 1, 1) := by decide +kernel
theorem dX10_asItIs_22 : decode cX10_asItIs 22 = .ok (.iload_n 1, 1) := by decide +kernel
theorem dX10_asItIs_23 : decode cX10_asItIs 23 = .ok (.bipush 6, 2) := by decide +kernel
theorem dX10_asItIs_25 : decode cX10_asItIs 25 = .ok (.if_icmp .ge 52, 3) := by decide +kernel
theorem dX10_asItIs_28 : decode cX10_asItIs 28 = .ok (.aload_n 0, 1) := by decide +kernel
theorem dX10_asItIs_29 : decode cX10_asItIs 29 = .ok (.getfield 34, 3) := by decide +kernel
theorem dX10_asItIs_32 : decode cX10_asItIs 32 = .ok (.iload_n 1, 1) := by decide +kernel
theorem dX10_asItIs_33 : decode cX10_asItIs 33 = .ok (.aload_n 0, 1) := by decide +kernel
theorem dX10_asItIs_34 : decode cX10_asItIs 34 = .ok (.iload_n 1, 1) := by decide +kernel
theorem dX10_asItIs_35 : decode cX10_asItIs 35 = .ok (.iconst 1, 1) := by decide +kernel
theorem dX10_asItIs_36 : decode cX10_asItIs 36 = .ok (.invokevirtual 236, 3) := by decide +kernel
theorem dX10_asItIs_39 : decode cX10_asItIs 39 = .ok (.iastore, 1) := by decide +kernel
theorem dX10_asItIs_40 : decode cX10_asItIs 40 = .ok (.aload_n 0, 1) := by decide +kernel
theorem dX10_asItIs_41 : decode cX10_asItIs 41 = .ok (.getfield 37, 3) := by decide +kernel
theorem dX10_asItIs_44 : decode cX10_asItIs 44 = .ok (.iload_n 1, 1) := by decide +kernel
theorem dX10_asItIs_45 : decode cX10_asItIs 45 = .ok (.aload_n 0, 1) := by decide +kernel
theorem dX10_asItIs_46 : decode cX10_asItIs 46 = .ok (.iload_n 1, 1) := by decide +kernel
theorem dX10_asItIs_47 : decode cX10_asItIs 47 = .ok (.iconst 2, 1) := by decide +kernel
theorem dX10_asItIs_48 : decode cX10_asItIs 48 = .ok (.invokevirtual 236, 3) := by decide +kernel
theorem dX10_asItIs_51 : decode cX10_asItIs 51 = .ok (.iastore, 1) := by decide +kernel
theorem dX10_asItIs_52 : decode cX10_asItIs 52 = .ok (.aload_n 0, 1) := by decide +kernel
theorem dX10_asItIs_53 : decode cX10_asItIs 53 = .ok (.getfield 40, 3) := by decide +kernel
theorem dX10_asItIs_56 : decode cX10_asItIs 56 = .ok (.iload_n 1, 1) := by decide +kernel
theorem dX10_asItIs_57 : decode cX10_asItIs 57 = .ok (.aload_n 0, 1) := by decide +kernel
theorem dX10_asItIs_58 : decode cX10_asItIs 58 = .ok (.iload_n 1, 1) := by decide +kernel
theorem dX10_asItIs_59 : decode cX10_asItIs 59 = .ok (.iconst 3, 1) := by decide +kernel
theorem dX10_asItIs_60 : decode cX10_asItIs 60 = .ok (.invokevirtual 236, 3) := by decide +kernel
theorem dX10_asItIs_63 : decode cX10_asItIs 63 = .ok (.iastore, 1) := by decide +kernel
theorem dX10_asItIs_64 : decode cX10_asItIs 64 = .ok (.aload_n 0, 1) := by decide +kernel
theorem dX10_asItIs_65 : decode cX10_asItIs 65 = .ok (.getfield 46, 3) := by decide +kernel
theorem dX10_asItIs_68 : decode cX10_asItIs 68 = .ok (.iload_n 1, 1) := by decide +kernel
theorem dX10_asItIs_69 : decode cX10_asItIs 69 = .ok (.iconst 0, 1) := by decide +kernel
theorem dX10_asItIs_70 : decode cX10_asItIs 70 = .ok (.iastore, 1) := by decide +kernel
theorem dX10_asItIs_71 : decode cX10_asItIs 71 = .ok (.iinc 1 1, 3) := by decide +kernel
theorem dX10_asItIs_74 : decode cX10_asItIs 74 = .ok (.goto (-52), 3) := by decide +kernel
theorem dX10_asItIs_77 : decode cX10_asItIs 77 = .ok (.iconst 0, 1) := by decide +kernel
theorem dX10_asItIs_78 : decode cX10_asItIs 78 = .ok (.istore_n 1, 1) := by decide +kernel
theorem dX10_asItIs_79 : decode cX10_asItIs 79 = .ok (.iload_n 1, 1) := by decide +kernel
theorem dX10_asItIs_80 : decode cX10_asItIs 80 = .ok (.iconst 5, 1) := by decide +kernel
theorem dX10_asItIs_81 : decode cX10_asItIs 81 = .ok (.if_icmp .ge 28, 3) := by decide +kernel
theorem dX10_asItIs_84 : decode cX10_asItIs 84 = .ok (.aload_n 0, 1) := by decide +kernel
theorem dX10_asItIs_85 : decode cX10_asItIs 85 = .ok (.getfield 43, 3) := by decide +kernel
theorem dX10_asItIs_88 : decode cX10_asItIs 88 = .ok (.iload_n 1, 1) := by decide +kernel
theorem dX10_asItIs_89 : decode cX10_asItIs 89 = .ok (.aload_n 0, 1) := by decide +kernel
theorem dX10_asItIs_90 : decode cX10_asItIs 90 = .ok (.getfield 9, 3) := by decide +kernel
theorem dX10_asItIs_93 : decode cX10_asItIs 93 = .ok (.bipush 34, 2) := by decide +kernel
theorem dX10_asItIs_95 : decode cX10_asItIs 95 = .ok (.iconst 2, 1) := by decide +kernel
theorem dX10_asItIs_96 : decode cX10_asItIs 96 = .ok (.iload_n 1, 1) := by decide +kernel
theorem dX10_asItIs_97 : decode cX10_asItIs 97 = .ok (.imul, 1) := by decide +kernel
theorem dX10_asItIs_98 : decode cX10_asItIs 98 = .ok (.iadd, 1) := by decide +kernel
theorem dX10_asItIs_99 : decode cX10_asItIs 99 = .ok (.iconst 1, 1) := by decide +kernel
theorem dX10_asItIs_100 : decode cX10_asItIs 100 = .ok (.iadd, 1) := by decide +kernel
theorem dX10_asItIs_101 : decode cX10_asItIs 101 = .ok (.iaload, 1) := by decide +kernel
theorem dX10_asItIs_102 : decode cX10_asItIs 102 = .ok (.iastore, 1) := by decide +kernel
theorem dX10_asItIs_103 : decode cX10_asItIs 103 = .ok (.iinc 1 1, 3) := by decide +kernel
theorem dX10_asItIs_106 : decode cX10_asItIs 106 = .ok (.goto (-27), 3) := by decide +kernel
theorem dX10_asItIs_109 : decode cX10_asItIs 109 = .ok (.iconst 0, 1) := by decide +kernel
theorem dX10_asItIs_110 : decode cX10_asItIs 110 = .ok (.istore_n 1, 1) := by decide +kernel
theorem dX10_asItIs_111 : decode cX10_asItIs 111 = .ok (.iload_n 1, 1) := by decide +kernel
theorem dX10_asItIs_112 : decode cX10_asItIs 112 = .ok (.bipush 16, 2) := by decide +kernel
theorem dX10_asItIs_114 : decode cX10_asItIs 114 = .ok (.if_icmp .ge 23, 3) := by decide +kernel
theorem dX10_asItIs_117 : decode cX10_asItIs 117 = .ok (.aload_n 0, 1) := by decide +kernel
theorem dX10_asItIs_118 : decode cX10_asItIs 118 = .ok (.getfield 49, 3) := by decide +kernel
theorem dX10_asItIs_121 : decode cX10_asItIs 121 = .ok (.iload_n 1, 1) := by decide +kernel
theorem dX10_asItIs_122 : decode cX10_asItIs 122 = .ok (.iconst 0, 1) := by decide +kernel
theorem dX10_asItIs_123 : decode cX10_asItIs 123 = .ok (.iastore, 1) := by decide +kernel
theorem dX10_asItIs_124 : decode cX10_asItIs 124 = .ok (.aload_n 0, 1) := by decide +kernel
theorem dX10_asItIs_125 : decode cX10_asItIs 125 = .ok (.getfield 52, 3) := by decide +kernel
theorem dX10_asItIs_128 : decode cX10_asItIs 128 = .ok (.iload_n 1, 1) := by decide +kernel
theorem dX10_asItIs_129 : decode cX10_asItIs 129 = .ok (.iconst 0, 1) := by decide +kernel
theorem dX10_asItIs_130 : decode cX10_asItIs 130 = .ok (.iastore, 1) := by decide +kernel
theorem dX10_asItIs_131 : decode cX10_asItIs 131 = .ok (.iinc 1 1, 3) := by decide +kernel
theorem dX10_asItIs_134 : decode cX10_asItIs 134 = .ok (.goto (-23), 3) := by decide +kernel
theorem dX10_asItIs_137 : decode cX10_asItIs 137 = .ok (.iconst 0, 1) := by decide +kernel
theorem dX10_asItIs_138 : decode cX10_asItIs 138 = .ok (.istore_n 1, 1) := by decide +kernel
theorem dX10_asItIs_139 : decode cX10_asItIs 139 = .ok (.iload_n 1, 1) := by decide +kernel
theorem dX10_asItIs_140 : decode cX10_asItIs 140 = .ok (.aload_n 0, 1) := by decide +kernel
theorem dX10_asItIs_141 : decode cX10_asItIs 141 = .ok (.getfield 9, 3) := by decide +kernel
theorem dX10_asItIs_144 : decode cX10_asItIs 144 = .ok (.iconst 5, 1) := by decide +kernel
theorem dX10_asItIs_145 : decode cX10_asItIs 145 = .ok (.iaload, 1) := by decide +kernel
theorem dX10_asItIs_146 : decode cX10_asItIs 146 = .ok (.if_icmp .ge 41, 3) := by decide +kernel
theorem dX10_asItIs_149 : decode cX10_asItIs 149 = .ok (.aload_n 0, 1) := by decide +kernel
theorem dX10_asItIs_150 : decode cX10_asItIs 150 = .ok (.getfield 49, 3) := by decide +kernel
theorem dX10_asItIs_153 : decode cX10_asItIs 153 = .ok (.aload_n 0, 1) := by decide +kernel
theorem dX10_asItIs_154 : decode cX10_asItIs 154 = .ok (.getfield 9, 3) := by decide +kernel
theorem dX10_asItIs_157 : decode cX10_asItIs 157 = .ok (.bipush 44, 2) := by decide +kernel
theorem dX10_asItIs_159 : decode cX10_asItIs 159 = .ok (.iconst 2, 1) := by decide +kernel
theorem dX10_asItIs_160 : decode cX10_asItIs 160 = .ok (.iload_n 1, 1) := by decide +kernel
theorem dX10_asItIs_161 : decode cX10_asItIs 161 = .ok (.imul, 1) := by decide +kernel
theorem dX10_asItIs_162 : decode cX10_asItIs 162 = .ok (.iadd, 1) := by decide +kernel
theorem dX10_asItIs_163 : decode cX10_asItIs 163 = .ok (.iconst 1, 1) := by decide +kernel
theorem dX10_asItIs_164 : decode cX10_asItIs 164 = .ok (.iadd, 1) := by decide +kernel
theorem dX10_asItIs_165 : decode cX10_asItIs 165 = .ok (.iaload, 1) := by decide +kernel
theorem dX10_asItIs_166 : decode cX10_asItIs 166 = .ok (.dup2, 1) := by decide +kernel
theorem dX10_asItIs_167 : decode cX10_asItIs 167 = .ok (.iaload, 1) := by decide +kernel
theorem dX10_asItIs_168 : decode cX10_asItIs 168 = .ok (.aload_n 0, 1) := by decide +kernel
theorem dX10_asItIs_169 : decode cX10_asItIs 169 = .ok (.getfield 9, 3) := by decide +kernel
theorem dX10_asItIs_172 : decode cX10_asItIs 172 = .ok (.bipush 44, 2) := by decide +kernel
theorem dX10_asItIs_174 : decode cX10_asItIs 174 = .ok (.iconst 2, 1) := by decide +kernel
theorem dX10_asItIs_175 : decode cX10_asItIs 175 = .ok (.iload_n 1, 1) := by decide +kernel
theorem dX10_asItIs_176 : decode cX10_asItIs 176 = .ok (.imul, 1) := by decide +kernel
theorem dX10_asItIs_177 : decode cX10_asItIs 177 = .ok (.iadd, 1) := by decide +kernel
theorem dX10_asItIs_178 : decode cX10_asItIs 178 = .ok (.iaload, 1) := by decide +kernel
theorem dX10_asItIs_179 : decode cX10_asItIs 179 = .ok (.iadd, 1) := by decide +kernel
theorem dX10_asItIs_180 : decode cX10_asItIs 180 = .ok (.iastore, 1) := by decide +kernel
theorem dX10_asItIs_181 : decode cX10_asItIs 181 = .ok (.iinc 1 1, 3) := by decide +kernel
theorem dX10_asItIs_184 : decode cX10_asItIs 184 = .ok (.goto (-45), 3) := by decide +kernel
theorem dX10_asItIs_187 : decode cX10_asItIs 187 = .ok (.iconst 0, 1) := by decide +kernel
theorem dX10_asItIs_188 : decode cX10_asItIs 188 = .ok (.istore_n 1, 1) := by decide +kernel
theorem dX10_asItIs_189 : decode cX10_asItIs 189 = .ok (.iload_n 1, 1) := by decide +kernel
theorem dX10_asItIs_190 : decode cX10_asItIs 190 = .ok (.aload_n 0, 1) := by decide +kernel
theorem dX10_asItIs_191 : decode cX10_asItIs 191 = .ok (.getfield 9, 3) := by decide +kernel
theorem dX10_asItIs_194 : decode cX10_asItIs 194 = .ok (.bipush 6, 2) := by decide +kernel
theorem dX10_asItIs_196 : decode cX10_asItIs 196 = .ok (.iaload, 1) := by decide +kernel
theorem dX10_asItIs_197 : decode cX10_asItIs 197 = .ok (.if_icmp .ge 29, 3) := by decide +kernel
theorem dX10_asItIs_200 : decode cX10_asItIs 200 = .ok (.aload_n 0, 1) := by decide +kernel
theorem dX10_asItIs_201 : decode cX10_asItIs 201 = .ok (.dup, 1) := by decide +kernel
theorem dX10_asItIs_202 : decode cX10_asItIs 202 = .ok (.getfield 252, 3) := by decide +kernel
theorem dX10_asItIs_205 : decode cX10_asItIs 205 = .ok (.iconst 1, 1) := by decide +kernel
theorem dX10_asItIs_206 : decode cX10_asItIs 206 = .ok (.aload_n 0, 1) := by decide +kernel
theorem dX10_asItIs_207 : decode cX10_asItIs 207 = .ok (.getfield 9, 3) := by decide +kernel
theorem dX10_asItIs_210 : decode cX10_asItIs 210 = .ok (.bipush 54, 2) := by decide +kernel
theorem dX10_asItIs_212 : decode cX10_asItIs 212 = .ok (.iload_n 1, 1) := by decide +kernel
theorem dX10_asItIs_213 : decode cX10_asItIs 213 = .ok (.iadd, 1) := by decide +kernel
theorem dX10_asItIs_214 : decode cX10_asItIs 214 = .ok (.iaload, 1) := by decide +kernel
theorem dX10_asItIs_215 : decode cX10_asItIs 215 = .ok (.ishl, 1) := by decide +kernel
theorem dX10_asItIs_216 : decode cX10_asItIs 216 = .ok (.ior, 1) := by decide +kernel
theorem dX10_asItIs_217 : decode cX10_asItIs 217 = .ok (.putfield 252, 3) := by decide +kernel
theorem dX10_asItIs_220 : decode cX10_asItIs 220 = .ok (.iinc 1 1, 3) := by decide +kernel
theorem dX10_asItIs_223 : decode cX10_asItIs 223 = .ok (.goto (-34), 3) := by decide +kernel
theorem dX10_asItIs_226 : decode cX10_asItIs 226 = .ok (.iconst 0, 1) := by decide +kernel
theorem dX10_asItIs_227 : decode cX10_asItIs 227 = .ok (.istore_n 1, 1) := by decide +kernel
theorem dX10_asItIs_228 : decode cX10_asItIs 228 = .ok (.iload_n 1, 1) := by decide +kernel
theorem dX10_asItIs_229 : decode cX10_asItIs 229 = .ok (.aload_n 0, 1) := by decide +kernel
theorem dX10_asItIs_230 : decode cX10_asItIs 230 = .ok (.getfield 9, 3) := by decide +kernel
theorem dX10_asItIs_233 : decode cX10_asItIs 233 = .ok (.bipush 8, 2) := by decide +kernel
theorem dX10_asItIs_235 : decode cX10_asItIs 235 = .ok (.iaload, 1) := by decide +kernel
theorem dX10_asItIs_236 : decode cX10_asItIs 236 = .ok (.if_icmp .ge 76, 3) := by decide +kernel
theorem dX10_asItIs_239 : decode cX10_asItIs 239 = .ok (.aload_n 0, 1) := by decide +kernel
theorem dX10_asItIs_240 : decode cX10_asItIs 240 = .ok (.getfield 9, 3) := by decide +kernel
theorem dX10_asItIs_243 : decode cX10_asItIs 243 = .ok (.bipush 82, 2) := by decide +kernel
theorem dX10_asItIs_245 : decode cX10_asItIs 245 = .ok (.iload_n 1, 1) := by decide +kernel
theorem dX10_asItIs_246 : decode cX10_asItIs 246 = .ok (.iadd, 1) := by decide +kernel
theorem dX10_asItIs_247 : decode cX10_asItIs 247 = .ok (.iaload, 1) := by decide +kernel
theorem dX10_asItIs_248 : decode cX10_asItIs 248 = .ok (.istore_n 2, 1) := by decide +kernel
theorem dX10_asItIs_249 : decode cX10_asItIs 249 = .ok (.iload_n 2, 1) := by decide +kernel
theorem dX10_asItIs_250 : decode cX10_asItIs 250 = .ok (.sipush 10000, 3) := by decide +kernel
theorem dX10_asItIs_253 : decode cX10_asItIs 253 = .ok (.if_icmp .lt 28, 3) := by decide +kernel
theorem dX10_asItIs_256 : decode cX10_asItIs 256 = .ok (.aload_n 0, 1) := by decide +kernel
theorem dX10_asItIs_257 : decode cX10_asItIs 257 = .ok (.getfield 52, 3) := by decide +kernel
theorem dX10_asItIs_260 : decode cX10_asItIs 260 = .ok (.iload_n 2, 1) := by decide +kernel
theorem dX10_asItIs_261 : decode cX10_asItIs 261 = .ok (.bipush 100, 2) := by decide +kernel
theorem dX10_asItIs_263 : decode cX10_asItIs 263 = .ok (.irem, 1) := by decide +kernel
theorem dX10_asItIs_264 : decode cX10_asItIs 264 = .ok (.dup2, 1) := by decide +kernel
theorem dX10_asItIs_265 : decode cX10_asItIs 265 = .ok (.iaload, 1) := by decide +kernel
theorem dX10_asItIs_266 : decode cX10_asItIs 266 = .ok (.iconst 1, 1) := by decide +kernel
theorem dX10_asItIs_267 : decode cX10_asItIs 267 = .ok (.iload_n 2, 1) := by decide +kernel
theorem dX10_asItIs_268 : decode cX10_asItIs 268 = .ok (.sipush 10000, 3) := by decide +kernel
theorem dX10_asItIs_271 : decode cX10_asItIs 271 = .ok (.isub, 1) := by decide +kernel
theorem dX10_asItIs_272 : decode cX10_asItIs 272 = .ok (.bipush 100, 2) := by decide +kernel
theorem dX10_asItIs_274 : decode cX10_asItIs 274 = .ok (.idiv, 1) := by decide +kernel
theorem dX10_asItIs_275 : decode cX10_asItIs 275 = .ok (.ishl, 1) := by decide +kernel
theorem dX10_asItIs_276 : decode cX10_asItIs 276 = .ok (.ior, 1) := by decide +kernel
theorem dX10_asItIs_277 : decode cX10_asItIs 277 = .ok (.iastore, 1) := by decide +kernel
theorem dX10_asItIs_278 : decode cX10_asItIs 278 = .ok (.goto 28, 3) := by decide +kernel
theorem dX10_asItIs_281 : decode cX10_asItIs 281 = .ok (.aload_n 0, 1) := by decide +kernel
theorem dX10_asItIs_282 : decode cX10_asItIs 282 = .ok (.getfield 46, 3) := by decide +kernel
theorem dX10_asItIs_285 : decode cX10_asItIs 285 = .ok (.iload_n 2, 1) := by decide +kernel
theorem dX10_asItIs_286 : decode cX10_asItIs 286 = .ok (.bipush 100, 2) := by decide +kernel
theorem dX10_asItIs_288 : decode cX10_asItIs 288 = .ok (.irem, 1) := by decide +kernel
theorem dX10_asItIs_289 : decode cX10_asItIs 289 = .ok (.aload_n 0, 1) := by decide +kernel
theorem dX10_asItIs_290 : decode cX10_asItIs 290 = .ok (.getfield 46, 3) := by decide +kernel
theorem dX10_asItIs_293 : decode cX10_asItIs 293 = .ok (.iload_n 2, 1) := by decide +kernel
theorem dX10_asItIs_294 : decode cX10_asItIs 294 = .ok (.bipush 100, 2) := by decide +kernel
theorem dX10_asItIs_296 : decode cX10_asItIs 296 = .ok (.irem, 1) := by decide +kernel
theorem dX10_asItIs_297 : decode cX10_asItIs 297 = .ok (.iaload, 1) := by decide +kernel
theorem dX10_asItIs_298 : decode cX10_asItIs 298 = .ok (.iload_n 2, 1) := by decide +kernel
theorem dX10_asItIs_299 : decode cX10_asItIs 299 = .ok (.bipush 100, 2) := by decide +kernel
theorem dX10_asItIs_301 : decode cX10_asItIs 301 = .ok (.idiv, 1) := by decide +kernel
theorem dX10_asItIs_302 : decode cX10_asItIs 302 = .ok (.invokestatic 255, 3) := by decide +kernel
theorem dX10_asItIs_305 : decode cX10_asItIs 305 = .ok (.iastore, 1) := by decide +kernel
theorem dX10_asItIs_306 : decode cX10_asItIs 306 = .ok (.iinc 1 1, 3) := by decide +kernel
theorem dX10_asItIs_309 : decode cX10_asItIs 309 = .ok (.goto (-81), 3) := by decide +kernel
theorem dX10_asItIs_312 : decode cX10_asItIs 312 = .ok (.return_, 1) := by decide +kernel
theorem dX10_waterIn_0 : decode cX10_waterIn 0 = .ok (.aload_n 0, 1) := by decide +kernel
theorem dX10_waterIn_1 : decode cX10_waterIn 1 = .ok (.getfield 55, 3) := by decide +kernel
theorem dX10_waterIn_4 : decode cX10_waterIn 4 = .ok (.bipush 6, 2) := by decide +kernel
theorem dX10_waterIn_6 : decode cX10_waterIn 6 = .ok (.iload_n 2, 1) := by decide +kernel
theorem dX10_waterIn_7 : decode cX10_waterIn 7 = .ok (.imul, 1) := by decide +kernel
theorem dX10_waterIn_8 : decode cX10_waterIn 8 = .ok (.iload_n 1, 1) := by decide +kernel
theorem dX10_waterIn_9 : decode cX10_waterIn 9 = .ok (.iadd, 1) := by decide +kernel
theorem dX10_waterIn_10 : decode cX10_waterIn 10 = .ok (.iaload, 1) := by decide +kernel
theorem dX10_waterIn_11 : decode cX10_waterIn 11 = .ok (.ireturn, 1) := by decide +kernel
theorem dX10_isFrost_0 : decode cX10_isFrost 0 = .ok (.aload_n 0, 1) := by decide +kernel
theorem dX10_isFrost_1 : decode cX10_isFrost 1 = .ok (.getfield 252, 3) := by decide +kernel
theorem dX10_isFrost_4 : decode cX10_isFrost 4 = .ok (.iload_n 1, 1) := by decide +kernel
theorem dX10_isFrost_5 : decode cX10_isFrost 5 = .ok (.invokestatic 258, 3) := by decide +kernel
theorem dX10_isFrost_8 : decode cX10_isFrost 8 = .ok (.iconst 1, 1) := by decide +kernel
theorem dX10_isFrost_9 : decode cX10_isFrost 9 = .ok (.if_icmp .ne 7, 3) := by decide +kernel
theorem dX10_isFrost_12 : decode cX10_isFrost 12 = .ok (.iconst 1, 1) := by decide +kernel
theorem dX10_isFrost_13 : decode cX10_isFrost 13 = .ok (.goto 4, 3) := by decide +kernel
theorem dX10_isFrost_16 : decode cX10_isFrost 16 = .ok (.iconst 0, 1) := by decide +kernel
theorem dX10_isFrost_17 : decode cX10_isFrost 17 = .ok (.ireturn, 1) := by decide +kernel
theorem dX10_runsOver_0 : decode cX10_runsOver 0 = .ok (.aload_n 0, 1) := by decide +kernel
theorem dX10_runsOver_1 : decode cX10_runsOver 1 = .ok (.getfield 246, 3) := by decide +kernel
theorem dX10_runsOver_4 : decode cX10_runsOver 4 = .ok (.ifCond .ne 8, 3) := by decide +kernel
theorem dX10_runsOver_7 : decode cX10_runsOver 7 = .ok (.bipush 99, 2) := by decide +kernel
theorem dX10_runsOver_9 : decode cX10_runsOver 9 = .ok (.goto 11, 3) := by decide +kernel
theorem dX10_runsOver_12 : decode cX10_runsOver 12 = .ok (.iconst 5, 1) := by decide +kernel
theorem dX10_runsOver_13 : decode cX10_runsOver 13 = .ok (.aload_n 0, 1) := by decide +kernel
theorem dX10_runsOver_14 : decode cX10_runsOver 14 = .ok (.iload_n 1, 1) := by decide +kernel
theorem dX10_runsOver_15 : decode cX10_runsOver 15 = .ok (.iconst 0, 1) := by decide +kernel
theorem dX10_runsOver_16 : decode cX10_runsOver 16 = .ok (.invokevirtual 236, 3) := by decide +kernel
theorem dX10_runsOver_19 : decode cX10_runsOver 19 = .ok (.imul, 1) := by decide +kernel
theorem dX10_runsOver_20 : decode cX10_runsOver 20 = .ok (.istore 4, 2) := by decide +kernel
theorem dX10_runsOver_22 : decode cX10_runsOver 22 = .ok (.iconst 0, 1) := by decide +kernel
theorem dX10_runsOver_23 : decode cX10_runsOver 23 = .ok (.aload_n 0, 1) := by decide +kernel
theorem dX10_runsOver_24 : decode cX10_runsOver 24 = .ok (.getfield 67, 3) := by decide +kernel
theorem dX10_runsOver_27 : decode cX10_runsOver 27 = .ok (.iload_n 1, 1) := by decide +kernel
theorem dX10_runsOver_28 : decode cX10_runsOver 28 = .ok (.iaload, 1) := by decide +kernel
theorem dX10_runsOver_29 : decode cX10_runsOver 29 = .ok (.iload 4, 2) := by decide +kernel
theorem dX10_runsOver_31 : decode cX10_runsOver 31 = .ok (.isub, 1) := by decide +kernel
theorem dX10_runsOver_32 : decode cX10_runsOver 32 = .ok (.invokestatic 255, 3) := by decide +kernel
theorem dX10_runsOver_35 : decode cX10_runsOver 35 = .ok (.istore 5, 2) := by decide +kernel
theorem dX10_runsOver_37 : decode cX10_runsOver 37 = .ok (.aload_n 0, 1) := by decide +kernel
theorem dX10_runsOver_38 : decode cX10_runsOver 38 = .ok (.getfield 67, 3) := by decide +kernel
theorem dX10_runsOver_41 : decode cX10_runsOver 41 = .ok (.iload_n 1, 1) := by decide +kernel
theorem dX10_runsOver_42 : decode cX10_runsOver 42 = .ok (.dup2, 1) := by decide +kernel
theorem dX10_runsOver_43 : decode cX10_runsOver 43 = .ok (.iaload, 1) := by decide +kernel
theorem dX10_runsOver_44 : decode cX10_runsOver 44 = .ok (.iload 5, 2) := by decide +kernel
theorem dX10_runsOver_46 : decode cX10_runsOver 46 = .ok (.isub, 1) := by decide +kernel
theorem dX10_runsOver_47 : decode cX10_runsOver 47 = .ok (.iastore, 1) := by decide +kernel
theorem dX10_runsOver_48 : decode cX10_runsOver 48 = .ok (.aload_n 0, 1) := by decide +kernel
theorem dX10_runsOver_49 : decode cX10_runsOver 49 = .ok (.getfield 58, 3) := by decide +kernel
theorem dX10_runsOver_52 : decode cX10_runsOver 52 = .ok (.bipush 6, 2) := by decide +kernel
theorem dX10_runsOver_54 : decode cX10_runsOver 54 = .ok (.iload_n 2, 1) := by decide +kernel
theorem dX10_runsOver_55 : decode cX10_runsOver 55 = .ok (.imul, 1) := by decide +kernel
theorem dX10_runsOver_56 : decode cX10_runsOver 56 = .ok (.iload_n 1, 1) := by decide +kernel
theorem dX10_runsOver_57 : decode cX10_runsOver 57 = .ok (.iadd, 1) := by decide +kernel
theorem dX10_runsOver_58 : decode cX10_runsOver 58 = .ok (.iload 5, 2) := by decide +kernel
theorem dX10_runsOver_60 : decode cX10_runsOver 60 = .ok (.iastore, 1) := by decide +kernel
theorem dX10_runsOver_61 : decode cX10_runsOver 61 = .ok (.iload_n 3, 1) := by decide +kernel
theorem dX10_runsOver_62 : decode cX10_runsOver 62 = .ok (.i2l, 1) := by decide +kernel
theorem dX10_runsOver_63 : decode cX10_runsOver 63 = .ok (.lconst 0, 1) := by decide +kernel
theorem dX10_runsOver_64 : decode cX10_runsOver 64 = .ok (.aload_n 0, 1) := by decide +kernel
theorem dX10_runsOver_65 : decode cX10_runsOver 65 = .ok (.invokevirtual 261, 3) := by decide +kernel
theorem dX10_runsOver_68 : decode cX10_runsOver 68 = .ok (.iconst 1, 1) := by decide +kernel
theorem dX10_runsOver_69 : decode cX10_runsOver 69 = .ok (.isub, 1) := by decide +kernel
theorem dX10_runsOver_70 : decode cX10_runsOver 70 = .ok (.i2l, 1) := by decide +kernel
theorem dX10_runsOver_71 : decode cX10_runsOver 71 = .ok (.invokestatic 100, 3) := by decide +kernel
theorem dX10_runsOver_74 : decode cX10_runsOver 74 = .ok (.ifCond .eq 17, 3) := by decide +kernel
theorem dX10_runsOver_77 : decode cX10_runsOver 77 = .ok (.aload_n 0, 1) := by decide +kernel
theorem dX10_runsOver_78 : decode cX10_runsOver 78 = .ok (.getfield 67, 3) := by decide +kernel
theorem dX10_runsOver_81 : decode cX10_runsOver 81 = .ok (.iload_n 3, 1) := by decide +kernel
theorem dX10_runsOver_82 : decode cX10_runsOver 82 = .ok (.dup2, 1) := by decide +kernel
theorem dX10_runsOver_83 : decode cX10_runsOver 83 = .ok (.iaload, 1) := by decide +kernel
theorem dX10_runsOver_84 : decode cX10_runsOver 84 = .ok (.iload 5, 2) := by decide +kernel
theorem dX10_runsOver_86 : decode cX10_runsOver 86 = .ok (.iadd, 1) := by decide +kernel
theorem dX10_runsOver_87 : decode cX10_runsOver 87 = .ok (.iastore, 1) := by decide +kernel
theorem dX10_runsOver_88 : decode cX10_runsOver 88 = .ok (.goto 14, 3) := by decide +kernel
theorem dX10_runsOver_91 : decode cX10_runsOver 91 = .ok (.aload_n 0, 1) := by decide +kernel
theorem dX10_runsOver_92 : decode cX10_runsOver 92 = .ok (.getfield 64, 3) := by decide +kernel
theorem dX10_runsOver_95 : decode cX10_runsOver 95 = .ok (.iload_n 2, 1) := by decide +kernel
theorem dX10_runsOver_96 : decode cX10_runsOver 96 = .ok (.dup2, 1) := by decide +kernel
theorem dX10_runsOver_97 : decode cX10_runsOver 97 = .ok (.iaload, 1) := by decide +kernel
theorem dX10_runsOver_98 : decode cX10_runsOver 98 = .ok (.iload 5, 2) := by decide +kernel
theorem dX10_runsOver_100 : decode cX10_runsOver 100 = .ok (.iadd, 1) := by decide +kernel
theorem dX10_runsOver_101 : decode cX10_runsOver 101 = .ok (.iastore, 1) := by decide +kernel
theorem dX10_runsOver_102 : decode cX10_runsOver 102 = .ok (.return_, 1) := by decide +kernel
theorem dX10_goYear_0 : decode cX10_goYear 0 = .ok (.aload_n 0, 1) := by decide +kernel
theorem dX10_goYear_1 : decode cX10_goYear 1 = .ok (.getfield 64, 3) := by decide +kernel
theorem dX10_goYear_4 : decode cX10_goYear 4 = .ok (.iload_n 1, 1) := by decide +kernel
theorem dX10_goYear_5 : decode cX10_goYear 5 = .ok (.iconst 0, 1) := by decide +kernel
theorem dX10_goYear_6 : decode cX10_goYear 6 = .ok (.iastore, 1) := by decide +kernel
theorem dX10_goYear_7 : decode cX10_goYear 7 = .ok (.iconst 0, 1) := by decide +kernel
theorem dX10_goYear_8 : decode cX10_goYear 8 = .ok (.istore_n 2, 1) := by decide +kernel
theorem dX10_goYear_9 : decode cX10_goYear 9 = .ok (.iload_n 2, 1) := by decide +kernel
theorem dX10_goYear_10 : decode cX10_goYear 10 = .ok (.aload_n 0, 1) := by decide +kernel
theorem dX10_goYear_11 : decode cX10_goYear 11 = .ok (.invokevirtual 261, 3) := by decide +kernel
theorem dX10_goYear_14 : decode cX10_goYear 14 = .ok (.if_icmp .ge 82, 3) := by decide +kernel
theorem dX10_goYear_17 : decode cX10_goYear 17 = .ok (.aload_n 0, 1) := by decide +kernel
theorem dX10_goYear_18 : decode cX10_goYear 18 = .ok (.getfield 67, 3) := by decide +kernel
theorem dX10_goYear_21 : decode cX10_goYear 21 = .ok (.iload_n 2, 1) := by decide +kernel
theorem dX10_goYear_22 : decode cX10_goYear 22 = .ok (.iaload, 1) := by decide +kernel
theorem dX10_goYear_23 : decode cX10_goYear 23 = .ok (.aload_n 0, 1) := by decide +kernel
theorem dX10_goYear_24 : decode cX10_goYear 24 = .ok (.iload_n 1, 1) := by decide +kernel
theorem dX10_goYear_25 : decode cX10_goYear 25 = .ok (.invokevirtual 264, 3) := by decide +kernel
theorem dX10_goYear_28 : decode cX10_goYear 28 = .ok (.ifCond .eq 7, 3) := by decide +kernel
theorem dX10_goYear_31 : decode cX10_goYear 31 = .ok (.iconst 0, 1) := by decide +kernel
theorem dX10_goYear_32 : decode cX10_goYear 32 = .ok (.goto 9, 3) := by decide +kernel
theorem dX10_goYear_35 : decode cX10_goYear 35 = .ok (.aload_n 0, 1) := by decide +kernel
theorem dX10_goYear_36 : decode cX10_goYear 36 = .ok (.getfield 49, 3) := by decide +kernel
theorem dX10_goYear_39 : decode cX10_goYear 39 = .ok (.iload_n 1, 1) := by decide +kernel
theorem dX10_goYear_40 : decode cX10_goYear 40 = .ok (.iaload, 1) := by decide +kernel
theorem dX10_goYear_41 : decode cX10_goYear 41 = .ok (.iadd, 1) := by decide +kernel
theorem dX10_goYear_42 : decode cX10_goYear 42 = .ok (.istore_n 3, 1) := by decide +kernel
theorem dX10_goYear_43 : decode cX10_goYear 43 = .ok (.aload_n 0, 1) := by decide +kernel
theorem dX10_goYear_44 : decode cX10_goYear 44 = .ok (.iload_n 1, 1) := by decide +kernel
theorem dX10_goYear_45 : decode cX10_goYear 45 = .ok (.invokevirtual 264, 3) := by decide +kernel
theorem dX10_goYear_48 : decode cX10_goYear 48 = .ok (.ifCond .eq 7, 3) := by decide +kernel
theorem dX10_goYear_51 : decode cX10_goYear 51 = .ok (.iconst 0, 1) := by decide +kernel
theorem dX10_goYear_52 : decode cX10_goYear 52 = .ok (.goto 13, 3) := by decide +kernel
theorem dX10_goYear_55 : decode cX10_goYear 55 = .ok (.iload_n 3, 1) := by decide +kernel
theorem dX10_goYear_56 : decode cX10_goYear 56 = .ok (.aload_n 0, 1) := by decide +kernel
theorem dX10_goYear_57 : decode cX10_goYear 57 = .ok (.getfield 37, 3) := by decide +kernel
theorem dX10_goYear_60 : decode cX10_goYear 60 = .ok (.iload_n 2, 1) := by decide +kernel
theorem dX10_goYear_61 : decode cX10_goYear 61 = .ok (.iaload, 1) := by decide +kernel
theorem dX10_goYear_62 : decode cX10_goYear 62 = .ok (.invokestatic 135, 3) := by decide +kernel
theorem dX10_goYear_65 : decode cX10_goYear 65 = .ok (.istore 4, 2) := by decide +kernel
theorem dX10_goYear_67 : decode cX10_goYear 67 = .ok (.aload_n 0, 1) := by decide +kernel
theorem dX10_goYear_68 : decode cX10_goYear 68 = .ok (.getfield 61, 3) := by decide +kernel
theorem dX10_goYear_71 : decode cX10_goYear 71 = .ok (.bipush 6, 2) := by decide +kernel
theorem dX10_goYear_73 : decode cX10_goYear 73 = .ok (.iload_n 1, 1) := by decide +kernel
theorem dX10_goYear_74 : decode cX10_goYear 74 = .ok (.imul, 1) := by decide +kernel
theorem dX10_goYear_75 : decode cX10_goYear 75 = .ok (.iload_n 2, 1) := by decide +kernel
theorem dX10_goYear_76 : decode cX10_goYear 76 = .ok (.iadd, 1) := by decide +kernel
theorem dX10_goYear_77 : decode cX10_goYear 77 = .ok (.iload 4, 2) := by decide +kernel
theorem dX10_goYear_79 : decode cX10_goYear 79 = .ok (.iastore, 1) := by decide +kernel
theorem dX10_goYear_80 : decode cX10_goYear 80 = .ok (.aload_n 0, 1) := by decide +kernel
theorem dX10_goYear_81 : decode cX10_goYear 81 = .ok (.getfield 67, 3) := by decide +kernel
theorem dX10_goYear_84 : decode cX10_goYear 84 = .ok (.iload_n 2, 1) := by decide +kernel
theorem dX10_goYear_85 : decode cX10_goYear 85 = .ok (.iload_n 3, 1) := by decide +kernel
theorem dX10_goYear_86 : decode cX10_goYear 86 = .ok (.iload 4, 2) := by decide +kernel
theorem dX10_goYear_88 : decode cX10_goYear 88 = .ok (.isub, 1) := by decide +kernel
theorem dX10_goYear_89 : decode cX10_goYear 89 = .ok (.iastore, 1) := by decide +kernel
theorem dX10_goYear_90 : decode cX10_goYear 90 = .ok (.iinc 2 1, 3) := by decide +kernel
theorem dX10_goYear_93 : decode cX10_goYear 93 = .ok (.goto (-84), 3) := by decide +kernel
theorem dX10_goYear_96 : decode cX10_goYear 96 = .ok (.iconst 0, 1) := by decide +kernel
theorem dX10_goYear_97 : decode cX10_goYear 97 = .ok (.istore_n 2, 1) := by decide +kernel
theorem dX10_goYear_98 : decode cX10_goYear 98 = .ok (.iload_n 2, 1) := by decide +kernel
theorem dX10_goYear_99 : decode cX10_goYear 99 = .ok (.aload_n 0, 1) := by decide +kernel
