theorem dX10_keepNow_18 : decode cX10_keepNow 18 = .ok (.iconst 3, 1) := by decide +kernel
theorem dX10_keepNow_19 : decode cX10_keepNow 19 = .ok (.iload_n 1, 1) := by decide +kernel
theorem dX10_keepNow_20 : decode cX10_keepNow 20 = .ok (.iadd, 1) := by decide +kernel
theorem dX10_keepNow_21 : decode cX10_keepNow 21 = .ok (.iconst 1, 1) := by decide +kernel
theorem dX10_keepNow_22 : decode cX10_keepNow 22 = .ok (.isub, 1) := by decide +kernel
theorem dX10_keepNow_23 : decode cX10_keepNow 23 = .ok (.iconst 3, 1) := by decide +kernel
theorem dX10_keepNow_24 : decode cX10_keepNow 24 = .ok (.iload_n 1, 1) := by decide +kernel
theorem dX10_keepNow_25 : decode cX10_keepNow 25 = .ok (.iadd, 1) := by decide +kernel
theorem dX10_keepNow_26 : decode cX10_keepNow 26 = .ok (.invokevirtual 391, 3) := by decide +kernel
theorem dX10_keepNow_29 : decode cX10_keepNow 29 = .ok (.iinc 1 1, 3) := by decide +kernel
theorem dX10_keepNow_32 : decode cX10_keepNow 32 = .ok (.goto (-21), 3) := by decide +kernel
theorem dX10_keepNow_35 : decode cX10_keepNow 35 = .ok (.aload_n 0, 1) := by decide +kernel
theorem dX10_keepNow_36 : decode cX10_keepNow 36 = .ok (.dup, 1) := by decide +kernel
theorem dX10_keepNow_37 : decode cX10_keepNow 37 = .ok (.getfield 284, 3) := by decide +kernel
theorem dX10_keepNow_40 : decode cX10_keepNow 40 = .ok (.iconst 1, 1) := by decide +kernel
theorem dX10_keepNow_41 : decode cX10_keepNow 41 = .ok (.isub, 1) := by decide +kernel
theorem dX10_keepNow_42 : decode cX10_keepNow 42 = .ok (.putfield 284, 3) := by decide +kernel
theorem dX10_keepNow_45 : decode cX10_keepNow 45 = .ok (.aload_n 0, 1) := by decide +kernel
theorem dX10_keepNow_46 : decode cX10_keepNow 46 = .ok (.iconst 3, 1) := by decide +kernel
theorem dX10_keepNow_47 : decode cX10_keepNow 47 = .ok (.aload_n 0, 1) := by decide +kernel
theorem dX10_keepNow_48 : decode cX10_keepNow 48 = .ok (.getfield 284, 3) := by decide +kernel
theorem dX10_keepNow_51 : decode cX10_keepNow 51 = .ok (.iadd, 1) := by decide +kernel
theorem dX10_keepNow_52 : decode cX10_keepNow 52 = .ok (.iconst 0, 1) := by decide +kernel
theorem dX10_keepNow_53 : decode cX10_keepNow 53 = .ok (.invokevirtual 391, 3) := by decide +kernel
theorem dX10_keepNow_56 : decode cX10_keepNow 56 = .ok (.aload_n 0, 1) := by decide +kernel
theorem dX10_keepNow_57 : decode cX10_keepNow 57 = .ok (.dup, 1) := by decide +kernel
theorem dX10_keepNow_58 : decode cX10_keepNow 58 = .ok (.getfield 284, 3) := by decide +kernel
theorem dX10_keepNow_61 : decode cX10_keepNow 61 = .ok (.iconst 1, 1) := by decide +kernel
theorem dX10_keepNow_62 : decode cX10_keepNow 62 = .ok (.iadd, 1) := by decide +kernel
theorem dX10_keepNow_63 : decode cX10_keepNow 63 = .ok (.putfield 284, 3) := by decide +kernel
theorem dX10_keepNow_66 : decode cX10_keepNow 66 = .ok (.return_, 1) := by decide +kernel
theorem dX10_mend_0 : decode cX10_mend 0 = .ok (.aload_n 0, 1) := by decide +kernel
theorem dX10_mend_1 : decode cX10_mend 1 = .ok (.iconst 0, 1) := by decide +kernel
theorem dX10_mend_2 : decode cX10_mend 2 = .ok (.putfield 124, 3) := by decide +kernel
theorem dX10_mend_5 : decode cX10_mend 5 = .ok (.aload_n 0, 1) := by decide +kernel
theorem dX10_mend_6 : decode cX10_mend 6 = .ok (.iload_n 1, 1) := by decide +kernel
theorem dX10_mend_7 : decode cX10_mend 7 = .ok (.invokevirtual 397, 3) := by decide +kernel
theorem dX10_mend_10 : decode cX10_mend 10 = .ok (.ifCond .ne 5, 3) := by decide +kernel
theorem dX10_mend_13 : decode cX10_mend 13 = .ok (.iconst (-1), 1) := by decide +kernel
theorem dX10_mend_14 : decode cX10_mend 14 = .ok (.ireturn, 1) := by decide +kernel
theorem dX10_mend_15 : decode cX10_mend 15 = .ok (.aload_n 0, 1) := by decide +kernel
theorem dX10_mend_16 : decode cX10_mend 16 = .ok (.getfield 78, 3) := by decide +kernel
theorem dX10_mend_19 : decode cX10_mend 19 = .ok (.iload_n 1, 1) := by decide +kernel
theorem dX10_mend_20 : decode cX10_mend 20 = .ok (.iaload, 1) := by decide +kernel
theorem dX10_mend_21 : decode cX10_mend 21 = .ok (.ifCond .ne 6, 3) := by decide +kernel
theorem dX10_mend_24 : decode cX10_mend 24 = .ok (.bipush (-2), 2) := by decide +kernel
theorem dX10_mend_26 : decode cX10_mend 26 = .ok (.ireturn, 1) := by decide +kernel
theorem dX10_mend_27 : decode cX10_mend 27 = .ok (.aload_n 0, 1) := by decide +kernel
theorem dX10_mend_28 : decode cX10_mend 28 = .ok (.invokevirtual 417, 3) := by decide +kernel
theorem dX10_mend_31 : decode cX10_mend 31 = .ok (.aload_n 0, 1) := by decide +kernel
theorem dX10_mend_32 : decode cX10_mend 32 = .ok (.getfield 78, 3) := by decide +kernel
theorem dX10_mend_35 : decode cX10_mend 35 = .ok (.iload_n 1, 1) := by decide +kernel
theorem dX10_mend_36 : decode cX10_mend 36 = .ok (.dup2, 1) := by decide +kernel
theorem dX10_mend_37 : decode cX10_mend 37 = .ok (.iaload, 1) := by decide +kernel
theorem dX10_mend_38 : decode cX10_mend 38 = .ok (.iconst 1, 1) := by decide +kernel
theorem dX10_mend_39 : decode cX10_mend 39 = .ok (.isub, 1) := by decide +kernel
theorem dX10_mend_40 : decode cX10_mend 40 = .ok (.iastore, 1) := by decide +kernel
theorem dX10_mend_41 : decode cX10_mend 41 = .ok (.aload_n 0, 1) := by decide +kernel
theorem dX10_mend_42 : decode cX10_mend 42 = .ok (.getfield 78, 3) := by decide +kernel
theorem dX10_mend_45 : decode cX10_mend 45 = .ok (.iload_n 1, 1) := by decide +kernel
theorem dX10_mend_46 : decode cX10_mend 46 = .ok (.iaload, 1) := by decide +kernel
theorem dX10_mend_47 : decode cX10_mend 47 = .ok (.ireturn, 1) := by decide +kernel
theorem dX10_exchange_0 : decode cX10_exchange 0 = .ok (.aload_n 0, 1) := by decide +kernel
theorem dX10_exchange_1 : decode cX10_exchange 1 = .ok (.iconst 0, 1) := by decide +kernel
theorem dX10_exchange_2 : decode cX10_exchange 2 = .ok (.putfield 124, 3) := by decide +kernel
theorem dX10_exchange_5 : decode cX10_exchange 5 = .ok (.aload_n 0, 1) := by decide +kernel
theorem dX10_exchange_6 : decode cX10_exchange 6 = .ok (.iload_n 1, 1) := by decide +kernel
theorem dX10_exchange_7 : decode cX10_exchange 7 = .ok (.invokevirtual 397, 3) := by decide +kernel
theorem dX10_exchange_10 : decode cX10_exchange 10 = .ok (.ifCond .eq 42, 3) := by decide +kernel
theorem dX10_exchange_13 : decode cX10_exchange 13 = .ok (.aload_n 0, 1) := by decide +kernel
theorem dX10_exchange_14 : decode cX10_exchange 14 = .ok (.iload_n 2, 1) := by decide +kernel
theorem dX10_exchange_15 : decode cX10_exchange 15 = .ok (.invokevirtual 397, 3) := by decide +kernel
theorem dX10_exchange_18 : decode cX10_exchange 18 = .ok (.ifCond .eq 34, 3) := by decide +kernel
theorem dX10_exchange_21 : decode cX10_exchange 21 = .ok (.aload_n 0, 1) := by decide +kernel
theorem dX10_exchange_22 : decode cX10_exchange 22 = .ok (.iconst 0, 1) := by decide +kernel
theorem dX10_exchange_23 : decode cX10_exchange 23 = .ok (.iload_n 1, 1) := by decide +kernel
theorem dX10_exchange_24 : decode cX10_exchange 24 = .ok (.invokevirtual 310, 3) := by decide +kernel
theorem dX10_exchange_27 : decode cX10_exchange 27 = .ok (.ifCond .eq 25, 3) := by decide +kernel
theorem dX10_exchange_30 : decode cX10_exchange 30 = .ok (.aload_n 0, 1) := by decide +kernel
theorem dX10_exchange_31 : decode cX10_exchange 31 = .ok (.iconst 0, 1) := by decide +kernel
theorem dX10_exchange_32 : decode cX10_exchange 32 = .ok (.iload_n 2, 1) := by decide +kernel
theorem dX10_exchange_33 : decode cX10_exchange 33 = .ok (.invokevirtual 310, 3) := by decide +kernel
theorem dX10_exchange_36 : decode cX10_exchange 36 = .ok (.ifCond .eq 16, 3) := by decide +kernel
theorem dX10_exchange_39 : decode cX10_exchange 39 = .ok (.aload_n 0, 1) := by decide +kernel
theorem dX10_exchange_40 : decode cX10_exchange 40 = .ok (.iload_n 1, 1) := by decide +kernel
theorem dX10_exchange_41 : decode cX10_exchange 41 = .ok (.invokevirtual 314, 3) := by decide +kernel
theorem dX10_exchange_44 : decode cX10_exchange 44 = .ok (.aload_n 0, 1) := by decide +kernel
theorem dX10_exchange_45 : decode cX10_exchange 45 = .ok (.iload_n 2, 1) := by decide +kernel
theorem dX10_exchange_46 : decode cX10_exchange 46 = .ok (.invokevirtual 314, 3) := by decide +kernel
theorem dX10_exchange_49 : decode cX10_exchange 49 = .ok (.if_icmp .ne 5, 3) := by decide +kernel
theorem dX10_exchange_52 : decode cX10_exchange 52 = .ok (.iconst 0, 1) := by decide +kernel
theorem dX10_exchange_53 : decode cX10_exchange 53 = .ok (.ireturn, 1) := by decide +kernel
theorem dX10_exchange_54 : decode cX10_exchange 54 = .ok (.aload_n 0, 1) := by decide +kernel
theorem dX10_exchange_55 : decode cX10_exchange 55 = .ok (.invokevirtual 417, 3) := by decide +kernel
theorem dX10_exchange_58 : decode cX10_exchange 58 = .ok (.aload_n 0, 1) := by decide +kernel
theorem dX10_exchange_59 : decode cX10_exchange 59 = .ok (.getfield 84, 3) := by decide +kernel
theorem dX10_exchange_62 : decode cX10_exchange 62 = .ok (.iload_n 1, 1) := by decide +kernel
theorem dX10_exchange_63 : decode cX10_exchange 63 = .ok (.iconst 0, 1) := by decide +kernel
theorem dX10_exchange_64 : decode cX10_exchange 64 = .ok (.iastore, 1) := by decide +kernel
theorem dX10_exchange_65 : decode cX10_exchange 65 = .ok (.aload_n 0, 1) := by decide +kernel
theorem dX10_exchange_66 : decode cX10_exchange 66 = .ok (.getfield 84, 3) := by decide +kernel
theorem dX10_exchange_69 : decode cX10_exchange 69 = .ok (.iload_n 2, 1) := by decide +kernel
theorem dX10_exchange_70 : decode cX10_exchange 70 = .ok (.iconst 0, 1) := by decide +kernel
theorem dX10_exchange_71 : decode cX10_exchange 71 = .ok (.iastore, 1) := by decide +kernel
theorem dX10_exchange_72 : decode cX10_exchange 72 = .ok (.iconst 1, 1) := by decide +kernel
theorem dX10_exchange_73 : decode cX10_exchange 73 = .ok (.ireturn, 1) := by decide +kernel
theorem dX10_give_0 : decode cX10_give 0 = .ok (.aload_n 0, 1) := by decide +kernel
theorem dX10_give_1 : decode cX10_give 1 = .ok (.iconst 0, 1) := by decide +kernel
theorem dX10_give_2 : decode cX10_give 2 = .ok (.putfield 124, 3) := by decide +kernel
theorem dX10_give_5 : decode cX10_give 5 = .ok (.aload_n 0, 1) := by decide +kernel
theorem dX10_give_6 : decode cX10_give 6 = .ok (.iload_n 1, 1) := by decide +kernel
theorem dX10_give_7 : decode cX10_give 7 = .ok (.invokevirtual 397, 3) := by decide +kernel
theorem dX10_give_10 : decode cX10_give 10 = .ok (.ifCond .eq 50, 3) := by decide +kernel
theorem dX10_give_13 : decode cX10_give 13 = .ok (.aload_n 0, 1) := by decide +kernel
theorem dX10_give_14 : decode cX10_give 14 = .ok (.iload_n 2, 1) := by decide +kernel
theorem dX10_give_15 : decode cX10_give 15 = .ok (.invokevirtual 400, 3) := by decide +kernel
theorem dX10_give_18 : decode cX10_give 18 = .ok (.ifCond .eq 42, 3) := by decide +kernel
theorem dX10_give_21 : decode cX10_give 21 = .ok (.aload_n 0, 1) := by decide +kernel
theorem dX10_give_22 : decode cX10_give 22 = .ok (.iconst 0, 1) := by decide +kernel
theorem dX10_give_23 : decode cX10_give 23 = .ok (.iload_n 1, 1) := by decide +kernel
theorem dX10_give_24 : decode cX10_give 24 = .ok (.invokevirtual 310, 3) := by decide +kernel
theorem dX10_give_27 : decode cX10_give 27 = .ok (.ifCond .eq 33, 3) := by decide +kernel
theorem dX10_give_30 : decode cX10_give 30 = .ok (.aload_n 0, 1) := by decide +kernel
theorem dX10_give_31 : decode cX10_give 31 = .ok (.getfield 19, 3) := by decide +kernel
theorem dX10_give_34 : decode cX10_give 34 = .ok (.iload_n 2, 1) := by decide +kernel
theorem dX10_give_35 : decode cX10_give 35 = .ok (.iaload, 1) := by decide +kernel
theorem dX10_give_36 : decode cX10_give 36 = .ok (.aload_n 0, 1) := by decide +kernel
theorem dX10_give_37 : decode cX10_give 37 = .ok (.getfield 19, 3) := by decide +kernel
theorem dX10_give_40 : decode cX10_give 40 = .ok (.aload_n 0, 1) := by decide +kernel
theorem dX10_give_41 : decode cX10_give 41 = .ok (.getfield 28, 3) := by decide +kernel
theorem dX10_give_44 : decode cX10_give 44 = .ok (.iload_n 1, 1) := by decide +kernel
theorem dX10_give_45 : decode cX10_give 45 = .ok (.iaload, 1) := by decide +kernel
theorem dX10_give_46 : decode cX10_give 46 = .ok (.iaload, 1) := by decide +kernel
theorem dX10_give_47 : decode cX10_give 47 = .ok (.if_icmp .ne 13, 3) := by decide +kernel
theorem dX10_give_50 : decode cX10_give 50 = .ok (.aload_n 0, 1) := by decide +kernel
theorem dX10_give_51 : decode cX10_give 51 = .ok (.getfield 75, 3) := by decide +kernel
theorem dX10_give_54 : decode cX10_give 54 = .ok (.iload_n 1, 1) := by decide +kernel
theorem dX10_give_55 : decode cX10_give 55 = .ok (.iaload, 1) := by decide +kernel
theorem dX10_give_56 : decode cX10_give 56 = .ok (.iload_n 2, 1) := by decide +kernel
theorem dX10_give_57 : decode cX10_give 57 = .ok (.if_icmp .ne 5, 3) := by decide +kernel
theorem dX10_give_60 : decode cX10_give 60 = .ok (.iconst 0, 1) := by decide +kernel
theorem dX10_give_61 : decode cX10_give 61 = .ok (.ireturn, 1) := by decide +kernel
theorem dX10_give_62 : decode cX10_give 62 = .ok (.aload_n 0, 1) := by decide +kernel
theorem dX10_give_63 : decode cX10_give 63 = .ok (.invokevirtual 417, 3) := by decide +kernel
theorem dX10_give_66 : decode cX10_give 66 = .ok (.aload_n 0, 1) := by decide +kernel
theorem dX10_give_67 : decode cX10_give 67 = .ok (.getfield 75, 3) := by decide +kernel
theorem dX10_give_70 : decode cX10_give 70 = .ok (.iload_n 1, 1) := by decide +kernel
theorem dX10_give_71 : decode cX10_give 71 = .ok (.iload_n 2, 1) := by decide +kernel
theorem dX10_give_72 : decode cX10_give 72 = .ok (.iastore, 1) := by decide +kernel
theorem dX10_give_73 : decode cX10_give 73 = .ok (.iconst 1, 1) := by decide +kernel
theorem dX10_give_74 : decode cX10_give 74 = .ok (.ireturn, 1) := by decide +kernel
theorem dX10_tea_0 : decode cX10_tea 0 = .ok (.aload_n 0, 1) := by decide +kernel
theorem dX10_tea_1 : decode cX10_tea 1 = .ok (.iconst 0, 1) := by decide +kernel
theorem dX10_tea_2 : decode cX10_tea 2 = .ok (.putfield 124, 3) := by decide +kernel
theorem dX10_tea_5 : decode cX10_tea 5 = .ok (.iload_n 1, 1) := by decide +kernel
theorem dX10_tea_6 : decode cX10_tea 6 = .ok (.invokestatic 403, 3) := by decide +kernel
theorem dX10_tea_9 : decode cX10_tea 9 = .ok (.ifCond .ne 5, 3) := by decide +kernel
theorem dX10_tea_12 : decode cX10_tea 12 = .ok (.iconst (-1), 1) := by decide +kernel
theorem dX10_tea_13 : decode cX10_tea 13 = .ok (.ireturn, 1) := by decide +kernel
theorem dX10_tea_14 : decode cX10_tea 14 = .ok (.aload_n 0, 1) := by decide +kernel
theorem dX10_tea_15 : decode cX10_tea 15 = .ok (.getfield 69, 3) := by decide +kernel
theorem dX10_tea_18 : decode cX10_tea 18 = .ok (.iconst 1, 1) := by decide +kernel
theorem dX10_tea_19 : decode cX10_tea 19 = .ok (.iload_n 1, 1) := by decide +kernel
theorem dX10_tea_20 : decode cX10_tea 20 = .ok (.isub, 1) := by decide +kernel
theorem dX10_tea_21 : decode cX10_tea 21 = .ok (.iaload, 1) := by decide +kernel
theorem dX10_tea_22 : decode cX10_tea 22 = .ok (.ifCond .ne 6, 3) := by decide +kernel
theorem dX10_tea_25 : decode cX10_tea 25 = .ok (.bipush (-2), 2) := by decide +kernel
theorem dX10_tea_27 : decode cX10_tea 27 = .ok (.ireturn, 1) := by decide +kernel
theorem dX10_tea_28 : decode cX10_tea 28 = .ok (.aload_n 0, 1) := by decide +kernel
theorem dX10_tea_29 : decode cX10_tea 29 = .ok (.invokevirtual 417, 3) := by decide +kernel
theorem dX10_tea_32 : decode cX10_tea 32 = .ok (.aload_n 0, 1) := by decide +kernel
theorem dX10_tea_33 : decode cX10_tea 33 = .ok (.getfield 69, 3) := by decide +kernel
theorem dX10_tea_36 : decode cX10_tea 36 = .ok (.iconst 1, 1) := by decide +kernel
theorem dX10_tea_37 : decode cX10_tea 37 = .ok (.iload_n 1, 1) := by decide +kernel
theorem dX10_tea_38 : decode cX10_tea 38 = .ok (.isub, 1) := by decide +kernel
theorem dX10_tea_39 : decode cX10_tea 39 = .ok (.iconst 0, 1) := by decide +kernel
theorem dX10_tea_40 : decode cX10_tea 40 = .ok (.aload_n 0, 1) := by decide +kernel
theorem dX10_tea_41 : decode cX10_tea 41 = .ok (.getfield 69, 3) := by decide +kernel
theorem dX10_tea_44 : decode cX10_tea 44 = .ok (.iconst 1, 1) := by decide +kernel
theorem dX10_tea_45 : decode cX10_tea 45 = .ok (.iload_n 1, 1) := by decide +kernel
theorem dX10_tea_46 : decode cX10_tea 46 = .ok (.isub, 1) := by decide +kernel
theorem dX10_tea_47 : decode cX10_tea 47 = .ok (.iaload, 1) := by decide +kernel
theorem dX10_tea_48 : decode cX10_tea 48 = .ok (.aload_n 0, 1) := by decide +kernel
theorem dX10_tea_49 : decode cX10_tea 49 = .ok (.getfield 13, 3) := by decide +kernel
theorem dX10_tea_52 : decode cX10_tea 52 = .ok (.iconst 4, 1) := by decide +kernel
theorem dX10_tea_53 : decode cX10_tea 53 = .ok (.iaload, 1) := by decide +kernel
theorem dX10_tea_54 : decode cX10_tea 54 = .ok (.isub, 1) := by decide +kernel
theorem dX10_tea_55 : decode cX10_tea 55 = .ok (.invokestatic 343, 3) := by decide +kernel
theorem dX10_tea_58 : decode cX10_tea 58 = .ok (.iastore, 1) := by decide +kernel
theorem dX10_tea_59 : decode cX10_tea 59 = .ok (.aload_n 0, 1) := by decide +kernel
theorem dX10_tea_60 : decode cX10_tea 60 = .ok (.getfield 69, 3) := by decide +kernel
theorem dX10_tea_63 : decode cX10_tea 63 = .ok (.iconst 1, 1) := by decide +kernel
theorem dX10_tea_64 : decode cX10_tea 64 = .ok (.iload_n 1, 1) := by decide +kernel
theorem dX10_tea_65 : decode cX10_tea 65 = .ok (.isub, 1) := by decide +kernel
theorem dX10_tea_66 : decode cX10_tea 66 = .ok (.iaload, 1) := by decide +kernel
theorem dX10_tea_67 : decode cX10_tea 67 = .ok (.ireturn, 1) := by decide +kernel
theorem dX10_go_0 : decode cX10_go 0 = .ok (.aload_n 0, 1) := by decide +kernel
theorem dX10_go_1 : decode cX10_go 1 = .ok (.iconst 0, 1) := by decide +kernel
theorem dX10_go_2 : decode cX10_go 2 = .ok (.putfield 124, 3) := by decide +kernel
theorem dX10_go_5 : decode cX10_go 5 = .ok (.iload_n 1, 1) := by decide +kernel
theorem dX10_go_6 : decode cX10_go 6 = .ok (.ifCond .lt 23, 3) := by decide +kernel
theorem dX10_go_9 : decode cX10_go 9 = .ok (.iload_n 1, 1) := by decide +kernel
theorem dX10_go_10 : decode cX10_go 10 = .ok (.bipush 99, 2) := by decide +kernel
theorem dX10_go_12 : decode cX10_go 12 = .ok (.if_icmp .gt 17, 3) := by decide +kernel
theorem dX10_go_15 : decode cX10_go 15 = .ok (.aload_n 0, 1) := by decide +kernel
theorem dX10_go_16 : decode cX10_go 16 = .ok (.getfield 60, 3) := by decide +kernel
theorem dX10_go_19 : decode cX10_go 19 = .ok (.iconst 0, 1) := by decide +kernel
theorem dX10_go_20 : decode cX10_go 20 = .ok (.iaload, 1) := by decide +kernel
theorem dX10_go_21 : decode cX10_go 21 = .ok (.iload_n 1, 1) := by decide +kernel
theorem dX10_go_22 : decode cX10_go 22 = .ok (.iadd, 1) := by decide +kernel
theorem dX10_go_23 : decode cX10_go 23 = .ok (.sipush 9900, 3) := by decide +kernel
theorem dX10_go_26 : decode cX10_go 26 = .ok (.if_icmp .le 5, 3) := by decide +kernel
theorem dX10_go_29 : decode cX10_go 29 = .ok (.iconst (-1), 1) := by decide +kernel
theorem dX10_go_30 : decode cX10_go 30 = .ok (.ireturn, 1) := by decide +kernel
theorem dX10_go_31 : decode cX10_go 31 = .ok (.iload_n 1, 1) := by decide +kernel
theorem dX10_go_32 : decode cX10_go 32 = .ok (.ifCond .le 8, 3) := by decide +kernel
theorem dX10_go_35 : decode cX10_go 35 = .ok (.aload_n 0, 1) := by decide +kernel
theorem dX10_go_36 : decode cX10_go 36 = .ok (.iconst 0, 1) := by decide +kernel
theorem dX10_go_37 : decode cX10_go 37 = .ok (.putfield 284, 3) := by decide +kernel
theorem dX10_go_40 : decode cX10_go 40 = .ok (.iconst 0, 1) := by decide +kernel
theorem dX10_go_41 : decode cX10_go 41 = .ok (.istore_n 2, 1) := by decide +kernel
theorem dX10_go_42 : decode cX10_go 42 = .ok (.iload_n 2, 1) := by decide +kernel
theorem dX10_go_43 : decode cX10_go 43 = .ok (.iload_n 1, 1) := by decide +kernel
theorem dX10_go_44 : decode cX10_go 44 = .ok (.if_icmp .ge 15, 3) := by decide +kernel
theorem dX10_go_47 : decode cX10_go 47 = .ok (.aload_n 0, 1) := by decide +kernel
theorem dX10_go_48 : decode cX10_go 48 = .ok (.iconst 0, 1) := by decide +kernel
theorem dX10_go_49 : decode cX10_go 49 = .ok (.iconst 1, 1) := by decide +kernel
theorem dX10_go_50 : decode cX10_go 50 = .ok (.invokevirtual 387, 3) := by decide +kernel
theorem dX10_go_53 : decode cX10_go 53 = .ok (.iinc 2 1, 3) := by decide +kernel
theorem dX10_go_56 : decode cX10_go 56 = .ok (.goto (-14), 3) := by decide +kernel
theorem dX10_go_59 : decode cX10_go 59 = .ok (.aload_n 0, 1) := by decide +kernel
theorem dX10_go_60 : decode cX10_go 60 = .ok (.getfield 60, 3) := by decide +kernel
theorem dX10_go_63 : decode cX10_go 63 = .ok (.iconst 0, 1) := by decide +kernel
theorem dX10_go_64 : decode cX10_go 64 = .ok (.iaload, 1) := by decide +kernel
theorem dX10_go_65 : decode cX10_go 65 = .ok (.ireturn, 1) := by decide +kernel
theorem dX10_ahead_0 : decode cX10_ahead 0 = .ok (.aload_n 0, 1) := by decide +kernel
theorem dX10_ahead_1 : decode cX10_ahead 1 = .ok (.iconst 0, 1) := by decide +kernel
theorem dX10_ahead_2 : decode cX10_ahead 2 = .ok (.putfield 124, 3) := by decide +kernel
theorem dX10_ahead_5 : decode cX10_ahead 5 = .ok (.iload_n 1, 1) := by decide +kernel
theorem dX10_ahead_6 : decode cX10_ahead 6 = .ok (.ifCond .lt 42, 3) := by decide +kernel
theorem dX10_ahead_9 : decode cX10_ahead 9 = .ok (.iload_n 1, 1) := by decide +kernel
theorem dX10_ahead_10 : decode cX10_ahead 10 = .ok (.bipush 60, 2) := by decide +kernel
theorem dX10_ahead_12 : decode cX10_ahead 12 = .ok (.if_icmp .gt 36, 3) := by decide +kernel
theorem dX10_ahead_15 : decode cX10_ahead 15 = .ok (.iload_n 2, 1) := by decide +kernel
theorem dX10_ahead_16 : decode cX10_ahead 16 = .ok (.ifCond .lt 32, 3) := by decide +kernel
theorem dX10_ahead_19 : decode cX10_ahead 19 = .ok (.iload_n 2, 1) := by decide +kernel
theorem dX10_ahead_20 : decode cX10_ahead 20 = .ok (.iconst 2, 1) := by decide +kernel
theorem dX10_ahead_21 : decode cX10_ahead 21 = .ok (.if_icmp .gt 27, 3) := by decide +kernel
theorem dX10_ahead_24 : decode cX10_ahead 24 = .ok (.iload_n 2, 1) := by decide +kernel
theorem dX10_ahead_25 : decode cX10_ahead 25 = .ok (.ifCond .ne 11, 3) := by decide +kernel
theorem dX10_ahead_28 : decode cX10_ahead 28 = .ok (.aload_n 0, 1) := by decide +kernel
theorem dX10_ahead_29 : decode cX10_ahead 29 = .ok (.iload_n 3, 1) := by decide +kernel
theorem dX10_ahead_30 : decode cX10_ahead 30 = .ok (.invokevirtual 397, 3) := by decide +kernel
theorem dX10_ahead_33 : decode cX10_ahead 33 = .ok (.ifCond .eq 15, 3) := by decide +kernel
theorem dX10_ahead_36 : decode cX10_ahead 36 = .ok (.iload_n 2, 1) := by decide +kernel
theorem dX10_ahead_37 : decode cX10_ahead 37 = .ok (.iconst 1, 1) := by decide +kernel
theorem dX10_ahead_38 : decode cX10_ahead 38 = .ok (.if_icmp .ne 12, 3) := by decide +kernel
theorem dX10_ahead_41 : decode cX10_ahead 41 = .ok (.iload_n 3, 1) := by decide +kernel
theorem dX10_ahead_42 : decode cX10_ahead 42 = .ok (.invokestatic 403, 3) := by decide +kernel
theorem dX10_ahead_45 : decode cX10_ahead 45 = .ok (.ifCond .ne 5, 3) := by decide +kernel
theorem dX10_ahead_48 : decode cX10_ahead 48 = .ok (.iconst (-1), 1) := by decide +kernel
theorem dX10_ahead_49 : decode cX10_ahead 49 = .ok (.ireturn, 1) := by decide +kernel
theorem dX10_ahead_50 : decode cX10_ahead 50 = .ok (.aload_n 0, 1) := by decide +kernel
theorem dX10_ahead_51 : decode cX10_ahead 51 = .ok (.iload_n 1, 1) := by decide +kernel
theorem dX10_ahead_52 : decode cX10_ahead 52 = .ok (.invokevirtual 420, 3) := by decide +kernel
theorem dX10_ahead_55 : decode cX10_ahead 55 = .ok (.iload_n 2, 1) := by decide +kernel
theorem dX10_ahead_56 : decode cX10_ahead 56 = .ok (.lookupswitch 47 #[(0, 28), (1, 38)], 28) := by decide +kernel
theorem dX10_ahead_84 : decode cX10_ahead 84 = .ok (.aload_n 0, 1) := by decide +kernel
theorem dX10_ahead_85 : decode cX10_ahead 85 = .ok (.getfield 78, 3) := by decide +kernel
theorem dX10_ahead_88 : decode cX10_ahead 88 = .ok (.bipush 10, 2) := by decide +kernel
theorem dX10_ahead_90 : decode cX10_ahead 90 = .ok (.iload_n 3, 1) := by decide +kernel
theorem dX10_ahead_91 : decode cX10_ahead 91 = .ok (.iadd, 1) := by decide +kernel
theorem dX10_ahead_92 : decode cX10_ahead 92 = .ok (.iaload, 1) := by decide +kernel
theorem dX10_ahead_93 : decode cX10_ahead 93 = .ok (.ireturn, 1) := by decide +kernel
theorem dX10_ahead_94 : decode cX10_ahead 94 = .ok (.aload_n 0, 1) := by decide +kernel
theorem dX10_ahead_95 : decode cX10_ahead 95 = .ok (.getfield 69, 3) := by decide +kernel
theorem dX10_ahead_98 : decode cX10_ahead 98 = .ok (.iconst 2, 1) := by decide +kernel
theorem dX10_ahead_99 : decode cX10_ahead 99 = .ok (.iload_n 3, 1) := by decide +kernel
theorem dX10_ahead_100 : decode cX10_ahead 100 = .ok (.iadd, 1) := by decide +kernel
theorem dX10_ahead_101 : decode cX10_ahead 101 = .ok (.iaload, 1) := by decide +kernel
theorem dX10_ahead_102 : decode cX10_ahead 102 = .ok (.ireturn, 1) := by decide +kernel
theorem dX10_ahead_103 : decode cX10_ahead 103 = .ok (.aload_n 0, 1) := by decide +kernel
theorem dX10_ahead_104 : decode cX10_ahead 104 = .ok (.iconst 1, 1) := by decide +kernel
theorem dX10_ahead_105 : decode cX10_ahead 105 = .ok (.invokevirtual 423, 3) := by decide +kernel
theorem dX10_ahead_108 : decode cX10_ahead 108 = .ok (.aload_n 0, 1) := by decide +kernel
theorem dX10_ahead_109 : decode cX10_ahead 109 = .ok (.iconst 0, 1) := by decide +kernel
theorem dX10_ahead_110 : decode cX10_ahead 110 = .ok (.invokevirtual 423, 3) := by decide +kernel
theorem dX10_ahead_113 : decode cX10_ahead 113 = .ok (.isub, 1) := by decide +kernel
theorem dX10_ahead_114 : decode cX10_ahead 114 = .ok (.ireturn, 1) := by decide +kernel
theorem dX10_firstBreach_0 : decode cX10_firstBreach 0 = .ok (.aload_n 0, 1) := by decide +kernel
theorem dX10_firstBreach_1 : decode cX10_firstBreach 1 = .ok (.iconst 0, 1) := by decide +kernel
theorem dX10_firstBreach_2 : decode cX10_firstBreach 2 = .ok (.putfield 124, 3) := by decide +kernel
theorem dX10_firstBreach_5 : decode cX10_firstBreach 5 = .ok (.aload_n 0, 1) := by decide +kernel
theorem dX10_firstBreach_6 : decode cX10_firstBreach 6 = .ok (.iconst 1, 1) := by decide +kernel
theorem dX10_firstBreach_7 : decode cX10_firstBreach 7 = .ok (.iconst 0, 1) := by decide +kernel
theorem dX10_firstBreach_8 : decode cX10_firstBreach 8 = .ok (.invokevirtual 391, 3) := by decide +kernel
theorem dX10_firstBreach_11 : decode cX10_firstBreach 11 = .ok (.iconst 1, 1) := by decide +kernel
theorem dX10_firstBreach_12 : decode cX10_firstBreach 12 = .ok (.istore_n 1, 1) := by decide +kernel
theorem dX10_firstBreach_13 : decode cX10_firstBreach 13 = .ok (.iload_n 1, 1) := by decide +kernel
theorem dX10_firstBreach_14 : decode cX10_firstBreach 14 = .ok (.bipush 99, 2) := by decide +kernel
theorem dX10_firstBreach_16 : decode cX10_firstBreach 16 = .ok (.if_icmp .gt 30, 3) := by decide +kernel
theorem dX10_firstBreach_19 : decode cX10_firstBreach 19 = .ok (.aload_n 0, 1) := by decide +kernel
theorem dX10_firstBreach_20 : decode cX10_firstBreach 20 = .ok (.iconst 1, 1) := by decide +kernel
theorem dX10_firstBreach_21 : decode cX10_firstBreach 21 = .ok (.iconst 0, 1) := by decide +kernel
theorem dX10_firstBreach_22 : decode cX10_firstBreach 22 = .ok (.invokevirtual 387, 3) := by decide +kernel
theorem dX10_firstBreach_25 : decode cX10_firstBreach 25 = .ok (.aload_n 0, 1) := by decide +kernel
theorem dX10_firstBreach_26 : decode cX10_firstBreach 26 = .ok (.iconst 1, 1) := by decide +kernel
theorem dX10_firstBreach_27 : decode cX10_firstBreach 27 = .ok (.invokevirtual 423, 3) := by decide +kernel
theorem dX10_firstBreach_30 : decode cX10_firstBreach 30 = .ok (.aload_n 0, 1) := by decide +kernel
theorem dX10_firstBreach_31 : decode cX10_firstBreach 31 = .ok (.iconst 0, 1) := by decide +kernel
theorem dX10_firstBreach_32 : decode cX10_firstBreach 32 = .ok (.invokevirtual 423, 3) := by decide +kernel
theorem dX10_firstBreach_35 : decode cX10_firstBreach 35 = .ok (.if_icmp .le 5, 3) := by decide +kernel
theorem dX10_firstBreach_38 : decode cX10_firstBreach 38 = .ok (.iload_n 1, 1) := by decide +kernel
theorem dX10_firstBreach_39 : decode cX10_firstBreach 39 = .ok (.ireturn, 1) := by decide +kernel
theorem dX10_firstBreach_40 : decode cX10_firstBreach 40 = .ok (.iinc 1 1, 3) := by decide +kernel
theorem dX10_firstBreach_43 : decode cX10_firstBreach 43 = .ok (.goto (-30), 3) := by decide +kernel
theorem dX10_firstBreach_46 : decode cX10_firstBreach 46 = .ok (.bipush (-2), 2) := by decide +kernel
theorem dX10_firstBreach_48 : decode cX10_firstBreach 48 = .ok (.ireturn, 1) := by decide +kernel
theorem dX10_quiet_0 : decode cX10_quiet 0 = .ok (.aload_n 0, 1) := by decide +kernel
theorem dX10_quiet_1 : decode cX10_quiet 1 = .ok (.iconst 0, 1) := by decide +kernel
theorem dX10_quiet_2 : decode cX10_quiet 2 = .ok (.putfield 124, 3) := by decide +kernel
theorem dX10_quiet_5 : decode cX10_quiet 5 = .ok (.aload_n 0, 1) := by decide +kernel
theorem dX10_quiet_6 : decode cX10_quiet 6 = .ok (.iconst 1, 1) := by decide +kernel
theorem dX10_quiet_7 : decode cX10_quiet 7 = .ok (.iconst 0, 1) := by decide +kernel
theorem dX10_quiet_8 : decode cX10_quiet 8 = .ok (.invokevirtual 391, 3) := by decide +kernel
theorem dX10_quiet_11 : decode cX10_quiet 11 = .ok (.iconst 0, 1) := by decide +kernel
theorem dX10_quiet_12 : decode cX10_quiet 12 = .ok (.istore_n 1, 1) := by decide +kernel
theorem dX10_quiet_13 : decode cX10_quiet 13 = .ok (.iload_n 1, 1) := by decide +kernel
theorem dX10_quiet_14 : decode cX10_quiet 14 = .ok (.bipush 99, 2) := by decide +kernel
theorem dX10_quiet_16 : decode cX10_quiet 16 = .ok (.if_icmp .gt 25, 3) := by decide +kernel
theorem dX10_quiet_19 : decode cX10_quiet 19 = .ok (.aload_n 0, 1) := by decide +kernel
theorem dX10_quiet_20 : decode cX10_quiet 20 = .ok (.iconst 1, 1) := by decide +kernel
theorem dX10_quiet_21 : decode cX10_quiet 21 = .ok (.invokevirtual 426, 3) := by decide +kernel
theorem dX10_quiet_24 : decode cX10_quiet 24 = .ok (.ifCond .ne 5, 3) := by decide +kernel
theorem dX10_quiet_27 : decode cX10_quiet 27 = .ok (.iload_n 1, 1) := by decide +kernel
theorem dX10_quiet_28 : decode cX10_quiet 28 = .ok (.ireturn, 1) := by decide +kernel
theorem dX10_quiet_29 : decode cX10_quiet 29 = .ok (.aload_n 0, 1) := by decide +kernel
theorem dX10_quiet_30 : decode cX10_quiet 30 = .ok (.iconst 1, 1) := by decide +kernel
theorem dX10_quiet_31 : decode cX10_quiet 31 = .ok (.iconst 0, 1) := by decide +kernel
theorem dX10_quiet_32 : decode cX10_quiet 32 = .ok (.invokevirtual 387, 3) := by decide +kernel
theorem dX10_quiet_35 : decode cX10_quiet 35 = .ok (.iinc 1 1, 3) := by decide +kernel
theorem dX10_quiet_38 : decode cX10_quiet 38 = .ok (.goto (-25), 3) := by decide +kernel
theorem dX10_quiet_41 : decode cX10_quiet 41 = .ok (.bipush (-2), 2) := by decide +kernel
theorem dX10_quiet_43 : decode cX10_quiet 43 = .ok (.ireturn, 1) := by decide +kernel
theorem dX10_until_0 : decode cX10_until 0 = .ok (.aload_n 0, 1) := by decide +kernel
theorem dX10_until_1 : decode cX10_until 1 = .ok (.iconst 0, 1) := by decide +kernel
theorem dX10_until_2 : decode cX10_until 2 = .ok (.putfield 124, 3) := by decide +kernel
theorem dX10_until_5 : decode cX10_until 5 = .ok (.aload_n 0, 1) := by decide +kernel
theorem dX10_until_6 : decode cX10_until 6 = .ok (.iload_n 1, 1) := by decide +kernel
theorem dX10_until_7 : decode cX10_until 7 = .ok (.invokevirtual 397, 3) := by decide +kernel
theorem dX10_until_10 : decode cX10_until 10 = .ok (.ifCond .eq 13, 3) := by decide +kernel
theorem dX10_until_13 : decode cX10_until 13 = .ok (.iload_n 2, 1) := by decide +kernel
theorem dX10_until_14 : decode cX10_until 14 = .ok (.ifCond .lt 9, 3) := by decide +kernel
theorem dX10_until_17 : decode cX10_until 17 = .ok (.iload_n 2, 1) := by decide +kernel
theorem dX10_until_18 : decode cX10_until 18 = .ok (.bipush 9, 2) := by decide +kernel
theorem dX10_until_20 : decode cX10_until 20 = .ok (.if_icmp .le 5, 3) := by decide +kernel
theorem dX10_until_23 : decode cX10_until 23 = .ok (.iconst (-1), 1) := by decide +kernel
theorem dX10_until_24 : decode cX10_until 24 = .ok (.ireturn, 1) := by decide +kernel
theorem dX10_until_25 : decode cX10_until 25 = .ok (.aload_n 0, 1) := by decide +kernel
theorem dX10_until_26 : decode cX10_until 26 = .ok (.iconst 1, 1) := by decide +kernel
theorem dX10_until_27 : decode cX10_until 27 = .ok (.iconst 0, 1) := by decide +kernel
theorem dX10_until_28 : decode cX10_until 28 = .ok (.invokevirtual 391, 3) := by decide +kernel
theorem dX10_until_31 : decode cX10_until 31 = .ok (.iconst 0, 1) := by decide +kernel
theorem dX10_until_32 : decode cX10_until 32 = .ok (.istore_n 3, 1) := by decide +kernel
theorem dX10_until_33 : decode cX10_until 33 = .ok (.iload_n 3, 1) := by decide +kernel
theorem dX10_until_34 : decode cX10_until 34 = .ok (.bipush 99, 2) := by decide +kernel
theorem dX10_until_36 : decode cX10_until 36 = .ok (.if_icmp .gt 30, 3) := by decide +kernel
theorem dX10_until_39 : decode cX10_until 39 = .ok (.aload_n 0, 1) := by decide +kernel
theorem dX10_until_40 : decode cX10_until 40 = .ok (.getfield 78, 3) := by decide +kernel
theorem dX10_until_43 : decode cX10_until 43 = .ok (.bipush 10, 2) := by decide +kernel
theorem dX10_until_45 : decode cX10_until 45 = .ok (.iload_n 1, 1) := by decide +kernel
theorem dX10_until_46 : decode cX10_until 46 = .ok (.iadd, 1) := by decide +kernel
theorem dX10_until_47 : decode cX10_until 47 = .ok (.iaload, 1) := by decide +kernel
theorem dX10_until_48 : decode cX10_until 48 = .ok (.iload_n 2, 1) := by decide +kernel
theorem dX10_until_49 : decode cX10_until 49 = .ok (.if_icmp .lt 5, 3) := by decide +kernel
theorem dX10_until_52 : decode cX10_until 52 = .ok (.iload_n 3, 1) := by decide +kernel
theorem dX10_until_53 : decode cX10_until 53 = .ok (.ireturn, 1) := by decide +kernel
theorem dX10_until_54 : decode cX10_until 54 = .ok (.aload_n 0, 1) := by decide +kernel
theorem dX10_until_55 : decode cX10_until 55 = .ok (.iconst 1, 1) := by decide +kernel
theorem dX10_until_56 : decode cX10_until 56 = .ok (.iconst 0, 1) := by decide +kernel
theorem dX10_until_57 : decode cX10_until 57 = .ok (.invokevirtual 387, 3) := by decide +kernel
theorem dX10_until_60 : decode cX10_until 60 = .ok (.iinc 3 1, 3) := by decide +kernel
theorem dX10_until_63 : decode cX10_until 63 = .ok (.goto (-30), 3) := by decide +kernel
theorem dX10_until_66 : decode cX10_until 66 = .ok (.bipush (-2), 2) := by decide +kernel
theorem dX10_until_68 : decode cX10_until 68 = .ok (.ireturn, 1) := by decide +kernel
theorem dX10_best_0 : decode cX10_best 0 = .ok (.aload_n 0, 1) := by decide +kernel
theorem dX10_best_1 : decode cX10_best 1 = .ok (.iconst 0, 1) := by decide +kernel
theorem dX10_best_2 : decode cX10_best 2 = .ok (.putfield 124, 3) := by decide +kernel
theorem dX10_best_5 : decode cX10_best 5 = .ok (.iload_n 1, 1) := by decide +kernel
theorem dX10_best_6 : decode cX10_best 6 = .ok (.ifCond .lt 28, 3) := by decide +kernel
theorem dX10_best_9 : decode cX10_best 9 = .ok (.iload_n 1, 1) := by decide +kernel
theorem dX10_best_10 : decode cX10_best 10 = .ok (.iconst 5, 1) := by decide +kernel
theorem dX10_best_11 : decode cX10_best 11 = .ok (.if_icmp .gt 23, 3) := by decide +kernel
theorem dX10_best_14 : decode cX10_best 14 = .ok (.iload_n 2, 1) := by decide +kernel
theorem dX10_best_15 : decode cX10_best 15 = .ok (.ifCond .lt 19, 3) := by decide +kernel
theorem dX10_best_18 : decode cX10_best 18 = .ok (.iload_n 2, 1) := by decide +kernel
theorem dX10_best_19 : decode cX10_best 19 = .ok (.sipush 999, 3) := by decide +kernel
theorem dX10_best_22 : decode cX10_best 22 = .ok (.if_icmp .gt 12, 3) := by decide +kernel
theorem dX10_best_25 : decode cX10_best 25 = .ok (.iload_n 3, 1) := by decide +kernel
theorem dX10_best_26 : decode cX10_best 26 = .ok (.ifCond .lt 8, 3) := by decide +kernel
theorem dX10_best_29 : decode cX10_best 29 = .ok (.iload_n 3, 1) := by decide +kernel
theorem dX10_best_30 : decode cX10_best 30 = .ok (.iconst 1, 1) := by decide +kernel
theorem dX10_best_31 : decode cX10_best 31 = .ok (.if_icmp .le 5, 3) := by decide +kernel
theorem dX10_best_34 : decode cX10_best 34 = .ok (.iconst (-1), 1) := by decide +kernel
theorem dX10_best_35 : decode cX10_best 35 = .ok (.ireturn, 1) := by decide +kernel
theorem dX10_best_36 : decode cX10_best 36 = .ok (.iconst (-1), 1) := by decide +kernel
theorem dX10_best_37 : decode cX10_best 37 = .ok (.istore 4, 2) := by decide +kernel
theorem dX10_best_39 : decode cX10_best 39 = .ok (.iconst 0, 1) := by decide +kernel
theorem dX10_best_40 : decode cX10_best 40 = .ok (.istore 5, 2) := by decide +kernel
theorem dX10_best_42 : decode cX10_best 42 = .ok (.iconst 0, 1) := by decide +kernel
theorem dX10_best_43 : decode cX10_best 43 = .ok (.istore 6, 2) := by decide +kernel
theorem dX10_best_45 : decode cX10_best 45 = .ok (.iload 6, 2) := by decide +kernel
theorem dX10_best_47 : decode cX10_best 47 = .ok (.iconst 1, 1) := by decide +kernel
theorem dX10_best_48 : decode cX10_best 48 = .ok (.aload_n 0, 1) := by decide +kernel
theorem dX10_best_49 : decode cX10_best 49 = .ok (.getfield 13, 3) := by decide +kernel
theorem dX10_best_52 : decode cX10_best 52 = .ok (.iconst 1, 1) := by decide +kernel
theorem dX10_best_53 : decode cX10_best 53 = .ok (.iaload, 1) := by decide +kernel
theorem dX10_best_54 : decode cX10_best 54 = .ok (.ishl, 1) := by decide +kernel
theorem dX10_best_55 : decode cX10_best 55 = .ok (.if_icmp .ge 127, 3) := by decide +kernel
theorem dX10_best_58 : decode cX10_best 58 = .ok (.iload 6, 2) := by decide +kernel
theorem dX10_best_60 : decode cX10_best 60 = .ok (.aload_n 0, 1) := by decide +kernel
theorem dX10_best_61 : decode cX10_best 61 = .ok (.iconst 1, 1) := by decide +kernel
theorem dX10_best_62 : decode cX10_best 62 = .ok (.invokevirtual 406, 3) := by decide +kernel
theorem dX10_best_65 : decode cX10_best 65 = .ok (.iand, 1) := by decide +kernel
theorem dX10_best_66 : decode cX10_best 66 = .ok (.istore 7, 2) := by decide +kernel
theorem dX10_best_68 : decode cX10_best 68 = .ok (.iload 6, 2) := by decide +kernel
theorem dX10_best_70 : decode cX10_best 70 = .ok (.aload_n 0, 1) := by decide +kernel
theorem dX10_best_71 : decode cX10_best 71 = .ok (.iconst 0, 1) := by decide +kernel
theorem dX10_best_72 : decode cX10_best 72 = .ok (.invokevirtual 406, 3) := by decide +kernel
theorem dX10_best_75 : decode cX10_best 75 = .ok (.iand, 1) := by decide +kernel
theorem dX10_best_76 : decode cX10_best 76 = .ok (.istore 8, 2) := by decide +kernel
theorem dX10_best_78 : decode cX10_best 78 = .ok (.iload 7, 2) := by decide +kernel
theorem dX10_best_80 : decode cX10_best 80 = .ok (.iload 8, 2) := by decide +kernel
theorem dX10_best_82 : decode cX10_best 82 = .ok (.ior, 1) := by decide +kernel
theorem dX10_best_83 : decode cX10_best 83 = .ok (.iload 6, 2) := by decide +kernel
theorem dX10_best_85 : decode cX10_best 85 = .ok (.if_icmp .ne 91, 3) := by decide +kernel
theorem dX10_best_88 : decode cX10_best 88 = .ok (.iload 7, 2) := by decide +kernel
theorem dX10_best_90 : decode cX10_best 90 = .ok (.invokestatic 429, 3) := by decide +kernel
theorem dX10_best_93 : decode cX10_best 93 = .ok (.iload_n 1, 1) := by decide +kernel
theorem dX10_best_94 : decode cX10_best 94 = .ok (.if_icmp .ne 82, 3) := by decide +kernel
theorem dX10_best_97 : decode cX10_best 97 = .ok (.iload 8, 2) := by decide +kernel
theorem dX10_best_99 : decode cX10_best 99 = .ok (.invokestatic 429, 3) := by decide +kernel
theorem dX10_best_102 : decode cX10_best 102 = .ok (.iload_n 1, 1) := by decide +kernel
theorem dX10_best_103 : decode cX10_best 103 = .ok (.if_icmp .eq 6, 3) := by decide +kernel
theorem dX10_best_106 : decode cX10_best 106 = .ok (.goto 70, 3) := by decide +kernel
theorem dX10_best_109 : decode cX10_best 109 = .ok (.aload_n 0, 1) := by decide +kernel
theorem dX10_best_110 : decode cX10_best 110 = .ok (.aload_n 0, 1) := by decide +kernel
theorem dX10_best_111 : decode cX10_best 111 = .ok (.getfield 34, 3) := by decide +kernel
theorem dX10_best_114 : decode cX10_best 114 = .ok (.iload 7, 2) := by decide +kernel
theorem dX10_best_116 : decode cX10_best 116 = .ok (.invokevirtual 409, 3) := by decide +kernel
theorem dX10_best_119 : decode cX10_best 119 = .ok (.aload_n 0, 1) := by decide +kernel
theorem dX10_best_120 : decode cX10_best 120 = .ok (.aload_n 0, 1) := by decide +kernel
theorem dX10_best_121 : decode cX10_best 121 = .ok (.getfield 34, 3) := by decide +kernel
theorem dX10_best_124 : decode cX10_best 124 = .ok (.iload 8, 2) := by decide +kernel
theorem dX10_best_126 : decode cX10_best 126 = .ok (.invokevirtual 409, 3) := by decide +kernel
theorem dX10_best_129 : decode cX10_best 129 = .ok (.isub, 1) := by decide +kernel
theorem dX10_best_130 : decode cX10_best 130 = .ok (.invokestatic 432, 3) := by decide +kernel
theorem dX10_best_133 : decode cX10_best 133 = .ok (.iload_n 2, 1) := by decide +kernel
theorem dX10_best_134 : decode cX10_best 134 = .ok (.if_icmp .le 6, 3) := by decide +kernel
theorem dX10_best_137 : decode cX10_best 137 = .ok (.goto 39, 3) := by decide +kernel
theorem dX10_best_140 : decode cX10_best 140 = .ok (.aload_n 0, 1) := by decide +kernel
theorem dX10_best_141 : decode cX10_best 141 = .ok (.aload_n 0, 1) := by decide +kernel
theorem dX10_best_142 : decode cX10_best 142 = .ok (.getfield 31, 3) := by decide +kernel
theorem dX10_best_145 : decode cX10_best 145 = .ok (.iload 6, 2) := by decide +kernel
theorem dX10_best_147 : decode cX10_best 147 = .ok (.invokevirtual 409, 3) := by decide +kernel
theorem dX10_best_150 : decode cX10_best 150 = .ok (.istore 9, 2) := by decide +kernel
theorem dX10_best_152 : decode cX10_best 152 = .ok (.iload 4, 2) := by decide +kernel
theorem dX10_best_154 : decode cX10_best 154 = .ok (.iconst (-1), 1) := by decide +kernel
theorem dX10_best_155 : decode cX10_best 155 = .ok (.if_icmp .eq 13, 3) := by decide +kernel
theorem dX10_best_158 : decode cX10_best 158 = .ok (.iload 9, 2) := by decide +kernel
theorem dX10_best_160 : decode cX10_best 160 = .ok (.iload 5, 2) := by decide +kernel
theorem dX10_best_162 : decode cX10_best 162 = .ok (.if_icmp .gt 6, 3) := by decide +kernel
theorem dX10_best_165 : decode cX10_best 165 = .ok (.goto 11, 3) := by decide +kernel
theorem dX10_best_168 : decode cX10_best 168 = .ok (.iload 6, 2) := by decide +kernel
theorem dX10_best_170 : decode cX10_best 170 = .ok (.istore 4, 2) := by decide +kernel
theorem dX10_best_172 : decode cX10_best 172 = .ok (.iload 9, 2) := by decide +kernel
theorem dX10_best_174 : decode cX10_best 174 = .ok (.istore 5, 2) := by decide +kernel
theorem dX10_best_176 : decode cX10_best 176 = .ok (.iinc 6 1, 3) := by decide +kernel
theorem dX10_best_179 : decode cX10_best 179 = .ok (.goto (-134), 3) := by decide +kernel
theorem dX10_best_182 : decode cX10_best 182 = .ok (.iload 4, 2) := by decide +kernel
theorem dX10_best_184 : decode cX10_best 184 = .ok (.iconst (-1), 1) := by decide +kernel
theorem dX10_best_185 : decode cX10_best 185 = .ok (.if_icmp .ne 6, 3) := by decide +kernel
theorem dX10_best_188 : decode cX10_best 188 = .ok (.bipush (-2), 2) := by decide +kernel
theorem dX10_best_190 : decode cX10_best 190 = .ok (.ireturn, 1) := by decide +kernel
theorem dX10_best_191 : decode cX10_best 191 = .ok (.iload_n 3, 1) := by decide +kernel
theorem dX10_best_192 : decode cX10_best 192 = .ok (.ifCond .ne 8, 3) := by decide +kernel
theorem dX10_best_195 : decode cX10_best 195 = .ok (.iload 4, 2) := by decide +kernel
theorem dX10_best_197 : decode cX10_best 197 = .ok (.goto 5, 3) := by decide +kernel
theorem dX10_best_200 : decode cX10_best 200 = .ok (.iload 5, 2) := by decide +kernel
theorem dX10_best_202 : decode cX10_best 202 = .ok (.ireturn, 1) := by decide +kernel
theorem dX10_enough_0 : decode cX10_enough 0 = .ok (.aload_n 0, 1) := by decide +kernel
theorem dX10_enough_1 : decode cX10_enough 1 = .ok (.iconst 0, 1) := by decide +kernel
theorem dX10_enough_2 : decode cX10_enough 2 = .ok (.putfield 124, 3) := by decide +kernel
theorem dX10_enough_5 : decode cX10_enough 5 = .ok (.iload_n 1, 1) := by decide +kernel
theorem dX10_enough_6 : decode cX10_enough 6 = .ok (.invokestatic 403, 3) := by decide +kernel
theorem dX10_enough_9 : decode cX10_enough 9 = .ok (.ifCond .eq 13, 3) := by decide +kernel
theorem dX10_enough_12 : decode cX10_enough 12 = .ok (.iload_n 2, 1) := by decide +kernel
theorem dX10_enough_13 : decode cX10_enough 13 = .ok (.ifCond .lt 9, 3) := by decide +kernel
theorem dX10_enough_16 : decode cX10_enough 16 = .ok (.iload_n 2, 1) := by decide +kernel
theorem dX10_enough_17 : decode cX10_enough 17 = .ok (.bipush 99, 2) := by decide +kernel
theorem dX10_enough_19 : decode cX10_enough 19 = .ok (.if_icmp .le 5, 3) := by decide +kernel
theorem dX10_enough_22 : decode cX10_enough 22 = .ok (.iconst (-1), 1) := by decide +kernel
theorem dX10_enough_23 : decode cX10_enough 23 = .ok (.ireturn, 1) := by decide +kernel
theorem dX10_enough_24 : decode cX10_enough 24 = .ok (.aload_n 0, 1) := by decide +kernel
theorem dX10_enough_25 : decode cX10_enough 25 = .ok (.iload_n 1, 1) := by decide +kernel
theorem dX10_enough_26 : decode cX10_enough 26 = .ok (.invokevirtual 406, 3) := by decide +kernel
theorem dX10_enough_29 : decode cX10_enough 29 = .ok (.istore_n 3, 1) := by decide +kernel
theorem dX10_enough_30 : decode cX10_enough 30 = .ok (.bipush (-2), 2) := by decide +kernel
theorem dX10_enough_32 : decode cX10_enough 32 = .ok (.istore 4, 2) := by decide +kernel
theorem dX10_enough_34 : decode cX10_enough 34 = .ok (.iconst 0, 1) := by decide +kernel
theorem dX10_enough_35 : decode cX10_enough 35 = .ok (.istore 5, 2) := by decide +kernel
theorem dX10_enough_37 : decode cX10_enough 37 = .ok (.iload 5, 2) := by decide +kernel
theorem dX10_enough_39 : decode cX10_enough 39 = .ok (.iload_n 3, 1) := by decide +kernel
theorem dX10_enough_40 : decode cX10_enough 40 = .ok (.if_icmp .gt 59, 3) := by decide +kernel
theorem dX10_enough_43 : decode cX10_enough 43 = .ok (.iload 5, 2) := by decide +kernel
theorem dX10_enough_45 : decode cX10_enough 45 = .ok (.iload_n 3, 1) := by decide +kernel
theorem dX10_enough_46 : decode cX10_enough 46 = .ok (.iconst (-1), 1) := by decide +kernel
theorem dX10_enough_47 : decode cX10_enough 47 = .ok (.ixor, 1) := by decide +kernel
theorem dX10_enough_48 : decode cX10_enough 48 = .ok (.iand, 1) := by decide +kernel
theorem dX10_enough_49 : decode cX10_enough 49 = .ok (.ifCond .ne 44, 3) := by decide +kernel
theorem dX10_enough_52 : decode cX10_enough 52 = .ok (.aload_n 0, 1) := by decide +kernel
theorem dX10_enough_53 : decode cX10_enough 53 = .ok (.aload_n 0, 1) := by decide +kernel
theorem dX10_enough_54 : decode cX10_enough 54 = .ok (.getfield 31, 3) := by decide +kernel
theorem dX10_enough_57 : decode cX10_enough 57 = .ok (.iload 5, 2) := by decide +kernel
theorem dX10_enough_59 : decode cX10_enough 59 = .ok (.invokevirtual 409, 3) := by decide +kernel
theorem dX10_enough_62 : decode cX10_enough 62 = .ok (.iload_n 2, 1) := by decide +kernel
theorem dX10_enough_63 : decode cX10_enough 63 = .ok (.if_icmp .ge 6, 3) := by decide +kernel
theorem dX10_enough_66 : decode cX10_enough 66 = .ok (.goto 27, 3) := by decide +kernel
theorem dX10_enough_69 : decode cX10_enough 69 = .ok (.iload 4, 2) := by decide +kernel
theorem dX10_enough_71 : decode cX10_enough 71 = .ok (.bipush (-2), 2) := by decide +kernel
theorem dX10_enough_73 : decode cX10_enough 73 = .ok (.if_icmp .eq 16, 3) := by decide +kernel
theorem dX10_enough_76 : decode cX10_enough 76 = .ok (.iload 5, 2) := by decide +kernel
theorem dX10_enough_78 : decode cX10_enough 78 = .ok (.invokestatic 429, 3) := by decide +kernel
theorem dX10_enough_81 : decode cX10_enough 81 = .ok (.iload 4, 2) := by decide +kernel
theorem dX10_enough_83 : decode cX10_enough 83 = .ok (.invokestatic 429, 3) := by decide +kernel
theorem dX10_enough_86 : decode cX10_enough 86 = .ok (.if_icmp .ge 7, 3) := by decide +kernel
theorem dX10_enough_89 : decode cX10_enough 89 = .ok (.iload 5, 2) := by decide +kernel
theorem dX10_enough_91 : decode cX10_enough 91 = .ok (.istore 4, 2) := by decide +kernel
theorem dX10_enough_93 : decode cX10_enough 93 = .ok (.iinc 5 1, 3) := by decide +kernel
theorem dX10_enough_96 : decode cX10_enough 96 = .ok (.goto (-59), 3) := by decide +kernel
theorem dX10_enough_99 : decode cX10_enough 99 = .ok (.iload 4, 2) := by decide +kernel
theorem dX10_enough_101 : decode cX10_enough 101 = .ok (.ireturn, 1) := by decide +kernel
theorem dX10_nurses_0 : decode cX10_nurses 0 = .ok (.iload_n 1, 1) := by decide +kernel
theorem dX10_nurses_1 : decode cX10_nurses 1 = .ok (.iload_n 2, 1) := by decide +kernel
theorem dX10_nurses_2 : decode cX10_nurses 2 = .ok (.if_icmp .ge 57, 3) := by decide +kernel
theorem dX10_nurses_5 : decode cX10_nurses 5 = .ok (.iconst 0, 1) := by decide +kernel
theorem dX10_nurses_6 : decode cX10_nurses 6 = .ok (.istore 5, 2) := by decide +kernel
theorem dX10_nurses_8 : decode cX10_nurses 8 = .ok (.iload 5, 2) := by decide +kernel
theorem dX10_nurses_10 : decode cX10_nurses 10 = .ok (.aload_n 0, 1) := by decide +kernel
theorem dX10_nurses_11 : decode cX10_nurses 11 = .ok (.getfield 13, 3) := by decide +kernel
theorem dX10_nurses_14 : decode cX10_nurses 14 = .ok (.iconst 0, 1) := by decide +kernel
theorem dX10_nurses_15 : decode cX10_nurses 15 = .ok (.iaload, 1) := by decide +kernel
theorem dX10_nurses_16 : decode cX10_nurses 16 = .ok (.if_icmp .ge 42, 3) := by decide +kernel
theorem dX10_nurses_19 : decode cX10_nurses 19 = .ok (.aload_n 0, 1) := by decide +kernel
theorem dX10_nurses_20 : decode cX10_nurses 20 = .ok (.getfield 19, 3) := by decide +kernel
theorem dX10_nurses_23 : decode cX10_nurses 23 = .ok (.iload 5, 2) := by decide +kernel
theorem dX10_nurses_25 : decode cX10_nurses 25 = .ok (.iaload, 1) := by decide +kernel
theorem dX10_nurses_26 : decode cX10_nurses 26 = .ok (.iload_n 3, 1) := by decide +kernel
theorem dX10_nurses_27 : decode cX10_nurses 27 = .ok (.if_icmp .eq 6, 3) := by decide +kernel
theorem dX10_nurses_30 : decode cX10_nurses 30 = .ok (.goto 22, 3) := by decide +kernel
theorem dX10_nurses_33 : decode cX10_nurses 33 = .ok (.aload_n 0, 1) := by decide +kernel
theorem dX10_nurses_34 : decode cX10_nurses 34 = .ok (.getfield 93, 3) := by decide +kernel
theorem dX10_nurses_37 : decode cX10_nurses 37 = .ok (.iload_n 1, 1) := by decide +kernel
theorem dX10_nurses_38 : decode cX10_nurses 38 = .ok (.iload 5, 2) := by decide +kernel
theorem dX10_nurses_40 : decode cX10_nurses 40 = .ok (.iastore, 1) := by decide +kernel
theorem dX10_nurses_41 : decode cX10_nurses 41 = .ok (.aload_n 0, 1) := by decide +kernel
theorem dX10_nurses_42 : decode cX10_nurses 42 = .ok (.iload_n 1, 1) := by decide +kernel
theorem dX10_nurses_43 : decode cX10_nurses 43 = .ok (.iconst 1, 1) := by decide +kernel
theorem dX10_nurses_44 : decode cX10_nurses 44 = .ok (.iadd, 1) := by decide +kernel
theorem dX10_nurses_45 : decode cX10_nurses 45 = .ok (.iload_n 2, 1) := by decide +kernel
theorem dX10_nurses_46 : decode cX10_nurses 46 = .ok (.iload_n 3, 1) := by decide +kernel
theorem dX10_nurses_47 : decode cX10_nurses 47 = .ok (.iload 4, 2) := by decide +kernel
theorem dX10_nurses_49 : decode cX10_nurses 49 = .ok (.invokevirtual 434, 3) := by decide +kernel
theorem dX10_nurses_52 : decode cX10_nurses 52 = .ok (.iinc 5 1, 3) := by decide +kernel
theorem dX10_nurses_55 : decode cX10_nurses 55 = .ok (.goto (-47), 3) := by decide +kernel
theorem dX10_nurses_58 : decode cX10_nurses 58 = .ok (.return_, 1) := by decide +kernel
theorem dX10_nurses_59 : decode cX10_nurses 59 = .ok (.aload_n 0, 1) := by decide +kernel
theorem dX10_nurses_60 : decode cX10_nurses 60 = .ok (.iconst 1, 1) := by decide +kernel
theorem dX10_nurses_61 : decode cX10_nurses 61 = .ok (.iconst 0, 1) := by decide +kernel
theorem dX10_nurses_62 : decode cX10_nurses 62 = .ok (.invokevirtual 391, 3) := by decide +kernel
theorem dX10_nurses_65 : decode cX10_nurses 65 = .ok (.iconst 0, 1) := by decide +kernel
theorem dX10_nurses_66 : decode cX10_nurses 66 = .ok (.istore 5, 2) := by decide +kernel
theorem dX10_nurses_68 : decode cX10_nurses 68 = .ok (.iload 5, 2) := by decide +kernel
theorem dX10_nurses_70 : decode cX10_nurses 70 = .ok (.iload_n 2, 1) := by decide +kernel
theorem dX10_nurses_71 : decode cX10_nurses 71 = .ok (.if_icmp .ge 31, 3) := by decide +kernel
theorem dX10_nurses_74 : decode cX10_nurses 74 = .ok (.aload_n 0, 1) := by decide +kernel
theorem dX10_nurses_75 : decode cX10_nurses 75 = .ok (.getfield 75, 3) := by decide +kernel
theorem dX10_nurses_78 : decode cX10_nurses 78 = .ok (.bipush 10, 2) := by decide +kernel
theorem dX10_nurses_80 : decode cX10_nurses 80 = .ok (.aload_n 0, 1) := by decide +kernel
theorem dX10_nurses_81 : decode cX10_nurses 81 = .ok (.getfield 90, 3) := by decide +kernel
theorem dX10_nurses_84 : decode cX10_nurses 84 = .ok (.iload 5, 2) := by decide +kernel
theorem dX10_nurses_86 : decode cX10_nurses 86 = .ok (.iaload, 1) := by decide +kernel
theorem dX10_nurses_87 : decode cX10_nurses 87 = .ok (.iadd, 1) := by decide +kernel
theorem dX10_nurses_88 : decode cX10_nurses 88 = .ok (.aload_n 0, 1) := by decide +kernel
theorem dX10_nurses_89 : decode cX10_nurses 89 = .ok (.getfield 93, 3) := by decide +kernel
theorem dX10_nurses_92 : decode cX10_nurses 92 = .ok (.iload 5, 2) := by decide +kernel
theorem dX10_nurses_94 : decode cX10_nurses 94 = .ok (.iaload, 1) := by decide +kernel
theorem dX10_nurses_95 : decode cX10_nurses 95 = .ok (.iastore, 1) := by decide +kernel
theorem dX10_nurses_96 : decode cX10_nurses 96 = .ok (.iinc 5 1, 3) := by decide +kernel
theorem dX10_nurses_99 : decode cX10_nurses 99 = .ok (.goto (-31), 3) := by decide +kernel
theorem dX10_nurses_102 : decode cX10_nurses 102 = .ok (.aload_n 0, 1) := by decide +kernel
theorem dX10_nurses_103 : decode cX10_nurses 103 = .ok (.iload 4, 2) := by decide +kernel
theorem dX10_nurses_105 : decode cX10_nurses 105 = .ok (.invokevirtual 394, 3) := by decide +kernel
theorem dX10_nurses_108 : decode cX10_nurses 108 = .ok (.aload_n 0, 1) := by decide +kernel
theorem dX10_nurses_109 : decode cX10_nurses 109 = .ok (.getfield 438, 3) := by decide +kernel
theorem dX10_nurses_112 : decode cX10_nurses 112 = .ok (.iconst (-1), 1) := by decide +kernel
theorem dX10_nurses_113 : decode cX10_nurses 113 = .ok (.if_icmp .eq 16, 3) := by decide +kernel
theorem dX10_nurses_116 : decode cX10_nurses 116 = .ok (.aload_n 0, 1) := by decide +kernel
theorem dX10_nurses_117 : decode cX10_nurses 117 = .ok (.iconst 1, 1) := by decide +kernel
theorem dX10_nurses_118 : decode cX10_nurses 118 = .ok (.invokevirtual 426, 3) := by decide +kernel
theorem dX10_nurses_121 : decode cX10_nurses 121 = .ok (.aload_n 0, 1) := by decide +kernel
theorem dX10_nurses_122 : decode cX10_nurses 122 = .ok (.getfield 438, 3) := by decide +kernel
theorem dX10_nurses_125 : decode cX10_nurses 125 = .ok (.if_icmp .lt 4, 3) := by decide +kernel
theorem dX10_nurses_128 : decode cX10_nurses 128 = .ok (.return_, 1) := by decide +kernel
theorem dX10_nurses_129 : decode cX10_nurses 129 = .ok (.aload_n 0, 1) := by decide +kernel
theorem dX10_nurses_130 : decode cX10_nurses 130 = .ok (.aload_n 0, 1) := by decide +kernel
theorem dX10_nurses_131 : decode cX10_nurses 131 = .ok (.iconst 1, 1) := by decide +kernel
theorem dX10_nurses_132 : decode cX10_nurses 132 = .ok (.invokevirtual 426, 3) := by decide +kernel
theorem dX10_nurses_135 : decode cX10_nurses 135 = .ok (.putfield 438, 3) := by decide +kernel
theorem dX10_nurses_138 : decode cX10_nurses 138 = .ok (.iconst 0, 1) := by decide +kernel
theorem dX10_nurses_139 : decode cX10_nurses 139 = .ok (.istore 5, 2) := by decide +kernel
theorem dX10_nurses_141 : decode cX10_nurses 141 = .ok (.iload 5, 2) := by decide +kernel
theorem dX10_nurses_143 : decode cX10_nurses 143 = .ok (.iload_n 2, 1) := by decide +kernel
theorem dX10_nurses_144 : decode cX10_nurses 144 = .ok (.if_icmp .ge 23, 3) := by decide +kernel
theorem dX10_nurses_147 : decode cX10_nurses 147 = .ok (.aload_n 0, 1) := by decide +kernel
theorem dX10_nurses_148 : decode cX10_nurses 148 = .ok (.getfield 96, 3) := by decide +kernel
theorem dX10_nurses_151 : decode cX10_nurses 151 = .ok (.iload 5, 2) := by decide +kernel
theorem dX10_nurses_153 : decode cX10_nurses 153 = .ok (.aload_n 0, 1) := by decide +kernel
theorem dX10_nurses_154 : decode cX10_nurses 154 = .ok (.getfield 93, 3) := by decide +kernel
theorem dX10_nurses_157 : decode cX10_nurses 157 = .ok (.iload 5, 2) := by decide +kernel
theorem dX10_nurses_159 : decode cX10_nurses 159 = .ok (.iaload, 1) := by decide +kernel
theorem dX10_nurses_160 : decode cX10_nurses 160 = .ok (.iastore, 1) := by decide +kernel
theorem dX10_nurses_161 : decode cX10_nurses 161 = .ok (.iinc 5 1, 3) := by decide +kernel
theorem dX10_nurses_164 : decode cX10_nurses 164 = .ok (.goto (-23), 3) := by decide +kernel
theorem dX10_nurses_167 : decode cX10_nurses 167 = .ok (.return_, 1) := by decide +kernel
theorem dX10_nursing_0 : decode cX10_nursing 0 = .ok (.aload_n 0, 1) := by decide +kernel
theorem dX10_nursing_1 : decode cX10_nursing 1 = .ok (.iconst 0, 1) := by decide +kernel
theorem dX10_nursing_2 : decode cX10_nursing 2 = .ok (.putfield 124, 3) := by decide +kernel
theorem dX10_nursing_5 : decode cX10_nursing 5 = .ok (.iload_n 1, 1) := by decide +kernel
theorem dX10_nursing_6 : decode cX10_nursing 6 = .ok (.invokestatic 403, 3) := by decide +kernel
theorem dX10_nursing_9 : decode cX10_nursing 9 = .ok (.ifCond .eq 23, 3) := by decide +kernel
theorem dX10_nursing_12 : decode cX10_nursing 12 = .ok (.iload_n 2, 1) := by decide +kernel
theorem dX10_nursing_13 : decode cX10_nursing 13 = .ok (.iconst 1, 1) := by decide +kernel
theorem dX10_nursing_14 : decode cX10_nursing 14 = .ok (.if_icmp .lt 18, 3) := by decide +kernel
theorem dX10_nursing_17 : decode cX10_nursing 17 = .ok (.iload_n 2, 1) := by decide +kernel
theorem dX10_nursing_18 : decode cX10_nursing 18 = .ok (.bipush 20, 2) := by decide +kernel
theorem dX10_nursing_20 : decode cX10_nursing 20 = .ok (.if_icmp .gt 12, 3) := by decide +kernel
theorem dX10_nursing_23 : decode cX10_nursing 23 = .ok (.iload_n 3, 1) := by decide +kernel
theorem dX10_nursing_24 : decode cX10_nursing 24 = .ok (.ifCond .lt 8, 3) := by decide +kernel
theorem dX10_nursing_27 : decode cX10_nursing 27 = .ok (.iload_n 3, 1) := by decide +kernel
theorem dX10_nursing_28 : decode cX10_nursing 28 = .ok (.iconst 4, 1) := by decide +kernel
theorem dX10_nursing_29 : decode cX10_nursing 29 = .ok (.if_icmp .le 5, 3) := by decide +kernel
theorem dX10_nursing_32 : decode cX10_nursing 32 = .ok (.iconst (-1), 1) := by decide +kernel
theorem dX10_nursing_33 : decode cX10_nursing 33 = .ok (.ireturn, 1) := by decide +kernel
theorem dX10_nursing_34 : decode cX10_nursing 34 = .ok (.iconst 0, 1) := by decide +kernel
theorem dX10_nursing_35 : decode cX10_nursing 35 = .ok (.istore 4, 2) := by decide +kernel
theorem dX10_nursing_37 : decode cX10_nursing 37 = .ok (.iconst 0, 1) := by decide +kernel
theorem dX10_nursing_38 : decode cX10_nursing 38 = .ok (.istore 5, 2) := by decide +kernel
theorem dX10_nursing_40 : decode cX10_nursing 40 = .ok (.iload 5, 2) := by decide +kernel
theorem dX10_nursing_42 : decode cX10_nursing 42 = .ok (.aload_n 0, 1) := by decide +kernel
theorem dX10_nursing_43 : decode cX10_nursing 43 = .ok (.getfield 13, 3) := by decide +kernel
theorem dX10_nursing_46 : decode cX10_nursing 46 = .ok (.iconst 1, 1) := by decide +kernel
theorem dX10_nursing_47 : decode cX10_nursing 47 = .ok (.iaload, 1) := by decide +kernel
theorem dX10_nursing_48 : decode cX10_nursing 48 = .ok (.if_icmp .ge 41, 3) := by decide +kernel
theorem dX10_nursing_51 : decode cX10_nursing 51 = .ok (.iload 4, 2) := by decide +kernel
theorem dX10_nursing_53 : decode cX10_nursing 53 = .ok (.iconst 4, 1) := by decide +kernel
theorem dX10_nursing_54 : decode cX10_nursing 54 = .ok (.if_icmp .ge 35, 3) := by decide +kernel
theorem dX10_nursing_57 : decode cX10_nursing 57 = .ok (.aload_n 0, 1) := by decide +kernel
theorem dX10_nursing_58 : decode cX10_nursing 58 = .ok (.iconst 0, 1) := by decide +kernel
theorem dX10_nursing_59 : decode cX10_nursing 59 = .ok (.iload_n 1, 1) := by decide +kernel
theorem dX10_nursing_60 : decode cX10_nursing 60 = .ok (.iload 5, 2) := by decide +kernel
theorem dX10_nursing_62 : decode cX10_nursing 62 = .ok (.invokevirtual 364, 3) := by decide +kernel
theorem dX10_nursing_65 : decode cX10_nursing 65 = .ok (.ifCond .ne 6, 3) := by decide +kernel
theorem dX10_nursing_68 : decode cX10_nursing 68 = .ok (.goto 15, 3) := by decide +kernel
theorem dX10_nursing_71 : decode cX10_nursing 71 = .ok (.aload_n 0, 1) := by decide +kernel
theorem dX10_nursing_72 : decode cX10_nursing 72 = .ok (.getfield 90, 3) := by decide +kernel
theorem dX10_nursing_75 : decode cX10_nursing 75 = .ok (.iload 4, 2) := by decide +kernel
theorem dX10_nursing_77 : decode cX10_nursing 77 = .ok (.iload 5, 2) := by decide +kernel
theorem dX10_nursing_79 : decode cX10_nursing 79 = .ok (.iastore, 1) := by decide +kernel
theorem dX10_nursing_80 : decode cX10_nursing 80 = .ok (.iinc 4 1, 3) := by decide +kernel
theorem dX10_nursing_83 : decode cX10_nursing 83 = .ok (.iinc 5 1, 3) := by decide +kernel
theorem dX10_nursing_86 : decode cX10_nursing 86 = .ok (.goto (-46), 3) := by decide +kernel
theorem dX10_nursing_89 : decode cX10_nursing 89 = .ok (.iload_n 3, 1) := by decide +kernel
theorem dX10_nursing_90 : decode cX10_nursing 90 = .ok (.iconst 4, 1) := by decide +kernel
theorem dX10_nursing_91 : decode cX10_nursing 91 = .ok (.if_icmp .ge 12, 3) := by decide +kernel
theorem dX10_nursing_94 : decode cX10_nursing 94 = .ok (.iload_n 3, 1) := by decide +kernel
theorem dX10_nursing_95 : decode cX10_nursing 95 = .ok (.iload 4, 2) := by decide +kernel
theorem dX10_nursing_97 : decode cX10_nursing 97 = .ok (.if_icmp .lt 6, 3) := by decide +kernel
theorem dX10_nursing_100 : decode cX10_nursing 100 = .ok (.bipush (-2), 2) := by decide +kernel
theorem dX10_nursing_102 : decode cX10_nursing 102 = .ok (.ireturn, 1) := by decide +kernel
theorem dX10_nursing_103 : decode cX10_nursing 103 = .ok (.aload_n 0, 1) := by decide +kernel
theorem dX10_nursing_104 : decode cX10_nursing 104 = .ok (.iconst (-1), 1) := by decide +kernel
theorem dX10_nursing_105 : decode cX10_nursing 105 = .ok (.putfield 438, 3) := by decide +kernel
theorem dX10_nursing_108 : decode cX10_nursing 108 = .ok (.aload_n 0, 1) := by decide +kernel
theorem dX10_nursing_109 : decode cX10_nursing 109 = .ok (.iconst 0, 1) := by decide +kernel
theorem dX10_nursing_110 : decode cX10_nursing 110 = .ok (.iload 4, 2) := by decide +kernel
theorem dX10_nursing_112 : decode cX10_nursing 112 = .ok (.iload_n 1, 1) := by decide +kernel
theorem dX10_nursing_113 : decode cX10_nursing 113 = .ok (.iload_n 2, 1) := by decide +kernel
theorem dX10_nursing_114 : decode cX10_nursing 114 = .ok (.invokevirtual 434, 3) := by decide +kernel
theorem dX10_nursing_117 : decode cX10_nursing 117 = .ok (.iload_n 3, 1) := by decide +kernel
theorem dX10_nursing_118 : decode cX10_nursing 118 = .ok (.iconst 4, 1) := by decide +kernel
theorem dX10_nursing_119 : decode cX10_nursing 119 = .ok (.if_icmp .ne 10, 3) := by decide +kernel
theorem dX10_nursing_122 : decode cX10_nursing 122 = .ok (.aload_n 0, 1) := by decide +kernel
theorem dX10_nursing_123 : decode cX10_nursing 123 = .ok (.getfield 438, 3) := by decide +kernel
theorem dX10_nursing_126 : decode cX10_nursing 126 = .ok (.goto 9, 3) := by decide +kernel
theorem dX10_nursing_129 : decode cX10_nursing 129 = .ok (.aload_n 0, 1) := by decide +kernel
theorem dX10_nursing_130 : decode cX10_nursing 130 = .ok (.getfield 96, 3) := by decide +kernel
theorem dX10_nursing_133 : decode cX10_nursing 133 = .ok (.iload_n 3, 1) := by decide +kernel
theorem dX10_nursing_134 : decode cX10_nursing 134 = .ok (.iaload, 1) := by decide +kernel
theorem dX10_nursing_135 : decode cX10_nursing 135 = .ok (.ireturn, 1) := by decide +kernel
theorem dX10_safest_0 : decode cX10_safest 0 = .ok (.aload_n 0, 1) := by decide +kernel
theorem dX10_safest_1 : decode cX10_safest 1 = .ok (.iconst 0, 1) := by decide +kernel
theorem dX10_safest_2 : decode cX10_safest 2 = .ok (.putfield 124, 3) := by decide +kernel
theorem dX10_safest_5 : decode cX10_safest 5 = .ok (.aload_n 0, 1) := by decide +kernel
theorem dX10_safest_6 : decode cX10_safest 6 = .ok (.iload_n 1, 1) := by decide +kernel
theorem dX10_safest_7 : decode cX10_safest 7 = .ok (.invokevirtual 397, 3) := by decide +kernel
theorem dX10_safest_10 : decode cX10_safest 10 = .ok (.ifCond .eq 12, 3) := by decide +kernel
theorem dX10_safest_13 : decode cX10_safest 13 = .ok (.aload_n 0, 1) := by decide +kernel
theorem dX10_safest_14 : decode cX10_safest 14 = .ok (.iconst 0, 1) := by decide +kernel
theorem dX10_safest_15 : decode cX10_safest 15 = .ok (.iload_n 1, 1) := by decide +kernel
theorem dX10_safest_16 : decode cX10_safest 16 = .ok (.invokevirtual 310, 3) := by decide +kernel
theorem dX10_safest_19 : decode cX10_safest 19 = .ok (.ifCond .ne 5, 3) := by decide +kernel
theorem dX10_safest_22 : decode cX10_safest 22 = .ok (.iconst (-1), 1) := by decide +kernel
theorem dX10_safest_23 : decode cX10_safest 23 = .ok (.ireturn, 1) := by decide +kernel
theorem dX10_safest_24 : decode cX10_safest 24 = .ok (.iconst (-1), 1) := by decide +kernel
theorem dX10_safest_25 : decode cX10_safest 25 = .ok (.istore_n 2, 1) := by decide +kernel
theorem dX10_safest_26 : decode cX10_safest 26 = .ok (.iconst 0, 1) := by decide +kernel
theorem dX10_safest_27 : decode cX10_safest 27 = .ok (.istore_n 3, 1) := by decide +kernel
theorem dX10_safest_28 : decode cX10_safest 28 = .ok (.iconst 0, 1) := by decide +kernel
theorem dX10_safest_29 : decode cX10_safest 29 = .ok (.istore 4, 2) := by decide +kernel
theorem dX10_safest_31 : decode cX10_safest 31 = .ok (.iload 4, 2) := by decide +kernel
theorem dX10_safest_33 : decode cX10_safest 33 = .ok (.aload_n 0, 1) := by decide +kernel
theorem dX10_safest_34 : decode cX10_safest 34 = .ok (.getfield 13, 3) := by decide +kernel
theorem dX10_safest_37 : decode cX10_safest 37 = .ok (.iconst 0, 1) := by decide +kernel
theorem dX10_safest_38 : decode cX10_safest 38 = .ok (.iaload, 1) := by decide +kernel
theorem dX10_safest_39 : decode cX10_safest 39 = .ok (.if_icmp .ge 63, 3) := by decide +kernel
theorem dX10_safest_42 : decode cX10_safest 42 = .ok (.aload_n 0, 1) := by decide +kernel
theorem dX10_safest_43 : decode cX10_safest 43 = .ok (.getfield 19, 3) := by decide +kernel
theorem dX10_safest_46 : decode cX10_safest 46 = .ok (.iload 4, 2) := by decide +kernel
theorem dX10_safest_48 : decode cX10_safest 48 = .ok (.iaload, 1) := by decide +kernel
theorem dX10_safest_49 : decode cX10_safest 49 = .ok (.aload_n 0, 1) := by decide +kernel
theorem dX10_safest_50 : decode cX10_safest 50 = .ok (.getfield 19, 3) := by decide +kernel
theorem dX10_safest_53 : decode cX10_safest 53 = .ok (.aload_n 0, 1) := by decide +kernel
theorem dX10_safest_54 : decode cX10_safest 54 = .ok (.getfield 28, 3) := by decide +kernel
theorem dX10_safest_57 : decode cX10_safest 57 = .ok (.iload_n 1, 1) := by decide +kernel
theorem dX10_safest_58 : decode cX10_safest 58 = .ok (.iaload, 1) := by decide +kernel
theorem dX10_safest_59 : decode cX10_safest 59 = .ok (.iaload, 1) := by decide +kernel
theorem dX10_safest_60 : decode cX10_safest 60 = .ok (.if_icmp .eq 6, 3) := by decide +kernel
theorem dX10_safest_63 : decode cX10_safest 63 = .ok (.goto 33, 3) := by decide +kernel
theorem dX10_safest_66 : decode cX10_safest 66 = .ok (.aload_n 0, 1) := by decide +kernel
theorem dX10_safest_67 : decode cX10_safest 67 = .ok (.iconst 0, 1) := by decide +kernel
theorem dX10_safest_68 : decode cX10_safest 68 = .ok (.iload_n 1, 1) := by decide +kernel
theorem dX10_safest_69 : decode cX10_safest 69 = .ok (.iload 4, 2) := by decide +kernel
theorem dX10_safest_71 : decode cX10_safest 71 = .ok (.invokevirtual 353, 3) := by decide +kernel
theorem dX10_safest_74 : decode cX10_safest 74 = .ok (.istore 5, 2) := by decide +kernel
theorem dX10_safest_76 : decode cX10_safest 76 = .ok (.iload_n 2, 1) := by decide +kernel
theorem dX10_safest_77 : decode cX10_safest 77 = .ok (.iconst (-1), 1) := by decide +kernel
theorem dX10_safest_78 : decode cX10_safest 78 = .ok (.if_icmp .eq 12, 3) := by decide +kernel
theorem dX10_safest_81 : decode cX10_safest 81 = .ok (.iload 5, 2) := by decide +kernel
theorem dX10_safest_83 : decode cX10_safest 83 = .ok (.iload_n 3, 1) := by decide +kernel
theorem dX10_safest_84 : decode cX10_safest 84 = .ok (.if_icmp .lt 6, 3) := by decide +kernel
theorem dX10_safest_87 : decode cX10_safest 87 = .ok (.goto 9, 3) := by decide +kernel
theorem dX10_safest_90 : decode cX10_safest 90 = .ok (.iload 4, 2) := by decide +kernel
theorem dX10_safest_92 : decode cX10_safest 92 = .ok (.istore_n 2, 1) := by decide +kernel
theorem dX10_safest_93 : decode cX10_safest 93 = .ok (.iload 5, 2) := by decide +kernel
theorem dX10_safest_95 : decode cX10_safest 95 = .ok (.istore_n 3, 1) := by decide +kernel
theorem dX10_safest_96 : decode cX10_safest 96 = .ok (.iinc 4 1, 3) := by decide +kernel
theorem dX10_safest_99 : decode cX10_safest 99 = .ok (.goto (-68), 3) := by decide +kernel
theorem dX10_safest_102 : decode cX10_safest 102 = .ok (.iload_n 2, 1) := by decide +kernel
theorem dX10_safest_103 : decode cX10_safest 103 = .ok (.ireturn, 1) := by decide +kernel
theorem dX10_answersOn_0 : decode cX10_answersOn 0 = .ok (.aload_n 0, 1) := by decide +kernel
theorem dX10_answersOn_1 : decode cX10_answersOn 1 = .ok (.iconst 0, 1) := by decide +kernel
theorem dX10_answersOn_2 : decode cX10_answersOn 2 = .ok (.putfield 124, 3) := by decide +kernel
theorem dX10_answersOn_5 : decode cX10_answersOn 5 = .ok (.iload_n 1, 1) := by decide +kernel
theorem dX10_answersOn_6 : decode cX10_answersOn 6 = .ok (.invokestatic 403, 3) := by decide +kernel
theorem dX10_answersOn_9 : decode cX10_answersOn 9 = .ok (.ifCond .ne 5, 3) := by decide +kernel
theorem dX10_answersOn_12 : decode cX10_answersOn 12 = .ok (.iconst (-1), 1) := by decide +kernel
theorem dX10_answersOn_13 : decode cX10_answersOn 13 = .ok (.ireturn, 1) := by decide +kernel
theorem dX10_answersOn_14 : decode cX10_answersOn 14 = .ok (.aload_n 0, 1) := by decide +kernel
theorem dX10_answersOn_15 : decode cX10_answersOn 15 = .ok (.iconst 0, 1) := by decide +kernel
theorem dX10_answersOn_16 : decode cX10_answersOn 16 = .ok (.iload_n 1, 1) := by decide +kernel
theorem dX10_answersOn_17 : decode cX10_answersOn 17 = .ok (.invokevirtual 368, 3) := by decide +kernel
theorem dX10_answersOn_20 : decode cX10_answersOn 20 = .ok (.istore_n 2, 1) := by decide +kernel
theorem dX10_answersOn_21 : decode cX10_answersOn 21 = .ok (.iload_n 2, 1) := by decide +kernel
theorem dX10_answersOn_22 : decode cX10_answersOn 22 = .ok (.iconst (-1), 1) := by decide +kernel
theorem dX10_answersOn_23 : decode cX10_answersOn 23 = .ok (.if_icmp .ne 8, 3) := by decide +kernel
theorem dX10_answersOn_26 : decode cX10_answersOn 26 = .ok (.bipush (-2), 2) := by decide +kernel
theorem dX10_answersOn_28 : decode cX10_answersOn 28 = .ok (.goto 4, 3) := by decide +kernel
theorem dX10_answersOn_31 : decode cX10_answersOn 31 = .ok (.iload_n 2, 1) := by decide +kernel
theorem dX10_answersOn_32 : decode cX10_answersOn 32 = .ok (.ireturn, 1) := by decide +kernel
theorem dX10_hasOf_0 : decode cX10_hasOf 0 = .ok (.iload_n 2, 1) := by decide +kernel
theorem dX10_hasOf_1 : decode cX10_hasOf 1 = .ok (.aload_n 0, 1) := by decide +kernel
theorem dX10_hasOf_2 : decode cX10_hasOf 2 = .ok (.aload_n 0, 1) := by decide +kernel
theorem dX10_hasOf_3 : decode cX10_hasOf 3 = .ok (.getfield 34, 3) := by decide +kernel
theorem dX10_hasOf_6 : decode cX10_hasOf 6 = .ok (.aload_n 0, 1) := by decide +kernel
theorem dX10_hasOf_7 : decode cX10_hasOf 7 = .ok (.iload_n 1, 1) := by decide +kernel
theorem dX10_hasOf_8 : decode cX10_hasOf 8 = .ok (.invokevirtual 406, 3) := by decide +kernel
theorem dX10_hasOf_11 : decode cX10_hasOf 11 = .ok (.invokevirtual 409, 3) := by decide +kernel
theorem dX10_hasOf_14 : decode cX10_hasOf 14 = .ok (.imul, 1) := by decide +kernel
theorem dX10_hasOf_15 : decode cX10_hasOf 15 = .ok (.iconst 5, 1) := by decide +kernel
theorem dX10_hasOf_16 : decode cX10_hasOf 16 = .ok (.iload_n 3, 1) := by decide +kernel
theorem dX10_hasOf_17 : decode cX10_hasOf 17 = .ok (.imul, 1) := by decide +kernel
theorem dX10_hasOf_18 : decode cX10_hasOf 18 = .ok (.aload_n 0, 1) := by decide +kernel
theorem dX10_hasOf_19 : decode cX10_hasOf 19 = .ok (.aload_n 0, 1) := by decide +kernel
theorem dX10_hasOf_20 : decode cX10_hasOf 20 = .ok (.getfield 31, 3) := by decide +kernel
theorem dX10_hasOf_23 : decode cX10_hasOf 23 = .ok (.aload_n 0, 1) := by decide +kernel
theorem dX10_hasOf_24 : decode cX10_hasOf 24 = .ok (.iconst 1, 1) := by decide +kernel
theorem dX10_hasOf_25 : decode cX10_hasOf 25 = .ok (.iload_n 1, 1) := by decide +kernel
theorem dX10_hasOf_26 : decode cX10_hasOf 26 = .ok (.isub, 1) := by decide +kernel
theorem dX10_hasOf_27 : decode cX10_hasOf 27 = .ok (.invokevirtual 406, 3) := by decide +kernel
theorem dX10_hasOf_30 : decode cX10_hasOf 30 = .ok (.invokevirtual 409, 3) := by decide +kernel
theorem dX10_hasOf_33 : decode cX10_hasOf 33 = .ok (.imul, 1) := by decide +kernel
theorem dX10_hasOf_34 : decode cX10_hasOf 34 = .ok (.isub, 1) := by decide +kernel
theorem dX10_hasOf_35 : decode cX10_hasOf 35 = .ok (.ireturn, 1) := by decide +kernel
theorem dX10_isRest_0 : decode cX10_isRest 0 = .ok (.aload_n 0, 1) := by decide +kernel
theorem dX10_isRest_1 : decode cX10_isRest 1 = .ok (.iconst 0, 1) := by decide +kernel
theorem dX10_isRest_2 : decode cX10_isRest 2 = .ok (.iconst 1, 1) := by decide +kernel
theorem dX10_isRest_3 : decode cX10_isRest 3 = .ok (.iload_n 1, 1) := by decide +kernel
theorem dX10_isRest_4 : decode cX10_isRest 4 = .ok (.isub, 1) := by decide +kernel
theorem dX10_isRest_5 : decode cX10_isRest 5 = .ok (.iload_n 2, 1) := by decide +kernel
theorem dX10_isRest_6 : decode cX10_isRest 6 = .ok (.invokevirtual 441, 3) := by decide +kernel
theorem dX10_isRest_9 : decode cX10_isRest 9 = .ok (.aload_n 0, 1) := by decide +kernel
theorem dX10_isRest_10 : decode cX10_isRest 10 = .ok (.iconst 0, 1) := by decide +kernel
theorem dX10_isRest_11 : decode cX10_isRest 11 = .ok (.iload_n 1, 1) := by decide +kernel
theorem dX10_isRest_12 : decode cX10_isRest 12 = .ok (.iload_n 2, 1) := by decide +kernel
theorem dX10_isRest_13 : decode cX10_isRest 13 = .ok (.invokevirtual 441, 3) := by decide +kernel
theorem dX10_isRest_16 : decode cX10_isRest 16 = .ok (.if_icmp .gt 26, 3) := by decide +kernel
theorem dX10_isRest_19 : decode cX10_isRest 19 = .ok (.aload_n 0, 1) := by decide +kernel
theorem dX10_isRest_20 : decode cX10_isRest 20 = .ok (.iconst 1, 1) := by decide +kernel
theorem dX10_isRest_21 : decode cX10_isRest 21 = .ok (.iconst 1, 1) := by decide +kernel
theorem dX10_isRest_22 : decode cX10_isRest 22 = .ok (.iload_n 2, 1) := by decide +kernel
theorem dX10_isRest_23 : decode cX10_isRest 23 = .ok (.isub, 1) := by decide +kernel
theorem dX10_isRest_24 : decode cX10_isRest 24 = .ok (.iload_n 1, 1) := by decide +kernel
theorem dX10_isRest_25 : decode cX10_isRest 25 = .ok (.invokevirtual 441, 3) := by decide +kernel
theorem dX10_isRest_28 : decode cX10_isRest 28 = .ok (.aload_n 0, 1) := by decide +kernel
theorem dX10_isRest_29 : decode cX10_isRest 29 = .ok (.iconst 1, 1) := by decide +kernel
theorem dX10_isRest_30 : decode cX10_isRest 30 = .ok (.iload_n 2, 1) := by decide +kernel
theorem dX10_isRest_31 : decode cX10_isRest 31 = .ok (.iload_n 1, 1) := by decide +kernel
theorem dX10_isRest_32 : decode cX10_isRest 32 = .ok (.invokevirtual 441, 3) := by decide +kernel
theorem dX10_isRest_35 : decode cX10_isRest 35 = .ok (.if_icmp .gt 7, 3) := by decide +kernel
theorem dX10_isRest_38 : decode cX10_isRest 38 = .ok (.iconst 1, 1) := by decide +kernel
theorem dX10_isRest_39 : decode cX10_isRest 39 = .ok (.goto 4, 3) := by decide +kernel
theorem dX10_isRest_42 : decode cX10_isRest 42 = .ok (.iconst 0, 1) := by decide +kernel
theorem dX10_isRest_43 : decode cX10_isRest 43 = .ok (.ireturn, 1) := by decide +kernel
theorem dX10_restOf_0 : decode cX10_restOf 0 = .ok (.iconst 0, 1) := by decide +kernel
theorem dX10_restOf_1 : decode cX10_restOf 1 = .ok (.istore_n 2, 1) := by decide +kernel
theorem dX10_restOf_2 : decode cX10_restOf 2 = .ok (.iconst 0, 1) := by decide +kernel
theorem dX10_restOf_3 : decode cX10_restOf 3 = .ok (.istore_n 3, 1) := by decide +kernel
theorem dX10_restOf_4 : decode cX10_restOf 4 = .ok (.iload_n 3, 1) := by decide +kernel
theorem dX10_restOf_5 : decode cX10_restOf 5 = .ok (.iconst 4, 1) := by decide +kernel
theorem dX10_restOf_6 : decode cX10_restOf 6 = .ok (.if_icmp .ge 44, 3) := by decide +kernel
theorem dX10_restOf_9 : decode cX10_restOf 9 = .ok (.aload_n 0, 1) := by decide +kernel
theorem dX10_restOf_10 : decode cX10_restOf 10 = .ok (.iload_n 3, 1) := by decide +kernel
theorem dX10_restOf_11 : decode cX10_restOf 11 = .ok (.iconst 2, 1) := by decide +kernel
theorem dX10_restOf_12 : decode cX10_restOf 12 = .ok (.idiv, 1) := by decide +kernel
theorem dX10_restOf_13 : decode cX10_restOf 13 = .ok (.iload_n 3, 1) := by decide +kernel
theorem dX10_restOf_14 : decode cX10_restOf 14 = .ok (.iconst 2, 1) := by decide +kernel
theorem dX10_restOf_15 : decode cX10_restOf 15 = .ok (.irem, 1) := by decide +kernel
theorem dX10_restOf_16 : decode cX10_restOf 16 = .ok (.invokevirtual 444, 3) := by decide +kernel
theorem dX10_restOf_19 : decode cX10_restOf 19 = .ok (.ifCond .ne 6, 3) := by decide +kernel
theorem dX10_restOf_22 : decode cX10_restOf 22 = .ok (.goto 22, 3) := by decide +kernel
theorem dX10_restOf_25 : decode cX10_restOf 25 = .ok (.iload_n 2, 1) := by decide +kernel
theorem dX10_restOf_26 : decode cX10_restOf 26 = .ok (.iload_n 1, 1) := by decide +kernel
theorem dX10_restOf_27 : decode cX10_restOf 27 = .ok (.if_icmp .ne 14, 3) := by decide +kernel
theorem dX10_restOf_30 : decode cX10_restOf 30 = .ok (.bipush 10, 2) := by decide +kernel
theorem dX10_restOf_32 : decode cX10_restOf 32 = .ok (.iload_n 3, 1) := by decide +kernel
theorem dX10_restOf_33 : decode cX10_restOf 33 = .ok (.iconst 2, 1) := by decide +kernel
theorem dX10_restOf_34 : decode cX10_restOf 34 = .ok (.idiv, 1) := by decide +kernel
theorem dX10_restOf_35 : decode cX10_restOf 35 = .ok (.imul, 1) := by decide +kernel
theorem dX10_restOf_36 : decode cX10_restOf 36 = .ok (.iload_n 3, 1) := by decide +kernel
theorem dX10_restOf_37 : decode cX10_restOf 37 = .ok (.iconst 2, 1) := by decide +kernel
theorem dX10_restOf_38 : decode cX10_restOf 38 = .ok (.irem, 1) := by decide +kernel
theorem dX10_restOf_39 : decode cX10_restOf 39 = .ok (.iadd, 1) := by decide +kernel
theorem dX10_restOf_40 : decode cX10_restOf 40 = .ok (.ireturn, 1) := by decide +kernel
theorem dX10_restOf_41 : decode cX10_restOf 41 = .ok (.iinc 2 1, 3) := by decide +kernel
theorem dX10_restOf_44 : decode cX10_restOf 44 = .ok (.iinc 3 1, 3) := by decide +kernel
theorem dX10_restOf_47 : decode cX10_restOf 47 = .ok (.goto (-43), 3) := by decide +kernel
theorem dX10_restOf_50 : decode cX10_restOf 50 = .ok (.iload_n 1, 1) := by decide +kernel
theorem dX10_restOf_51 : decode cX10_restOf 51 = .ok (.iconst (-1), 1) := by decide +kernel
theorem dX10_restOf_52 : decode cX10_restOf 52 = .ok (.if_icmp .ne 7, 3) := by decide +kernel
theorem dX10_restOf_55 : decode cX10_restOf 55 = .ok (.iload_n 2, 1) := by decide +kernel
theorem dX10_restOf_56 : decode cX10_restOf 56 = .ok (.goto 5, 3) := by decide +kernel
theorem dX10_restOf_59 : decode cX10_restOf 59 = .ok (.bipush (-2), 2) := by decide +kernel
theorem dX10_restOf_61 : decode cX10_restOf 61 = .ok (.ireturn, 1) := by decide +kernel
theorem dX10_rests_0 : decode cX10_rests 0 = .ok (.aload_n 0, 1) := by decide +kernel
theorem dX10_rests_1 : decode cX10_rests 1 = .ok (.iconst 0, 1) := by decide +kernel
theorem dX10_rests_2 : decode cX10_rests 2 = .ok (.putfield 124, 3) := by decide +kernel
theorem dX10_rests_5 : decode cX10_rests 5 = .ok (.aload_n 0, 1) := by decide +kernel
theorem dX10_rests_6 : decode cX10_rests 6 = .ok (.iconst (-1), 1) := by decide +kernel
theorem dX10_rests_7 : decode cX10_rests 7 = .ok (.invokevirtual 447, 3) := by decide +kernel
theorem dX10_rests_10 : decode cX10_rests 10 = .ok (.ireturn, 1) := by decide +kernel
theorem dX10_rest_0 : decode cX10_rest 0 = .ok (.aload_n 0, 1) := by decide +kernel
theorem dX10_rest_1 : decode cX10_rest 1 = .ok (.iconst 0, 1) := by decide +kernel
theorem dX10_rest_2 : decode cX10_rest 2 = .ok (.putfield 124, 3) := by decide +kernel
theorem dX10_rest_5 : decode cX10_rest 5 = .ok (.iload_n 1, 1) := by decide +kernel
theorem dX10_rest_6 : decode cX10_rest 6 = .ok (.ifCond .ge 7, 3) := by decide +kernel
theorem dX10_rest_9 : decode cX10_rest 9 = .ok (.iconst (-1), 1) := by decide +kernel
theorem dX10_rest_10 : decode cX10_rest 10 = .ok (.goto 8, 3) := by decide +kernel
theorem dX10_rest_13 : decode cX10_rest 13 = .ok (.aload_n 0, 1) := by decide +kernel
theorem dX10_rest_14 : decode cX10_rest 14 = .ok (.iload_n 1, 1) := by decide +kernel
theorem dX10_rest_15 : decode cX10_rest 15 = .ok (.invokevirtual 447, 3) := by decide +kernel
theorem dX10_rest_18 : decode cX10_rest 18 = .ok (.ireturn, 1) := by decide +kernel
theorem dX10_common_0 : decode cX10_common 0 = .ok (.lload_n 0, 1) := by decide +kernel
theorem dX10_common_1 : decode cX10_common 1 = .ok (.lstore 4, 2) := by decide +kernel
theorem dX10_common_3 : decode cX10_common 3 = .ok (.lload_n 2, 1) := by decide +kernel
theorem dX10_common_4 : decode cX10_common 4 = .ok (.lstore 6, 2) := by decide +kernel
theorem dX10_common_6 : decode cX10_common 6 = .ok (.lload 6, 2) := by decide +kernel
theorem dX10_common_8 : decode cX10_common 8 = .ok (.lconst 0, 1) := by decide +kernel
theorem dX10_common_9 : decode cX10_common 9 = .ok (.lcmp, 1) := by decide +kernel
theorem dX10_common_10 : decode cX10_common 10 = .ok (.ifCond .eq 21, 3) := by decide +kernel
theorem dX10_common_13 : decode cX10_common 13 = .ok (.lload 4, 2) := by decide +kernel
theorem dX10_common_15 : decode cX10_common 15 = .ok (.lload 6, 2) := by decide +kernel
theorem dX10_common_17 : decode cX10_common 17 = .ok (.lrem, 1) := by decide +kernel
theorem dX10_common_18 : decode cX10_common 18 = .ok (.lstore 8, 2) := by decide +kernel
theorem dX10_common_20 : decode cX10_common 20 = .ok (.lload 6, 2) := by decide +kernel
theorem dX10_common_22 : decode cX10_common 22 = .ok (.lstore 4, 2) := by decide +kernel
theorem dX10_common_24 : decode cX10_common 24 = .ok (.lload 8, 2) := by decide +kernel
theorem dX10_common_26 : decode cX10_common 26 = .ok (.lstore 6, 2) := by decide +kernel
theorem dX10_common_28 : decode cX10_common 28 = .ok (.goto (-22), 3) := by decide +kernel
theorem dX10_common_31 : decode cX10_common 31 = .ok (.lload 4, 2) := by decide +kernel
theorem dX10_common_33 : decode cX10_common 33 = .ok (.lreturn, 1) := by decide +kernel
theorem dX10_whole_0 : decode cX10_whole 0 = .ok (.aload_n 0, 1) := by decide +kernel
theorem dX10_whole_1 : decode cX10_whole 1 = .ok (.iconst 0, 1) := by decide +kernel
theorem dX10_whole_2 : decode cX10_whole 2 = .ok (.putfield 124, 3) := by decide +kernel
theorem dX10_whole_5 : decode cX10_whole 5 = .ok (.aload_n 0, 1) := by decide +kernel
theorem dX10_whole_6 : decode cX10_whole 6 = .ok (.iload_n 1, 1) := by decide +kernel
theorem dX10_whole_7 : decode cX10_whole 7 = .ok (.invokevirtual 397, 3) := by decide +kernel
theorem dX10_whole_10 : decode cX10_whole 10 = .ok (.ifCond .eq 31, 3) := by decide +kernel
theorem dX10_whole_13 : decode cX10_whole 13 = .ok (.aload_n 0, 1) := by decide +kernel
theorem dX10_whole_14 : decode cX10_whole 14 = .ok (.iconst 0, 1) := by decide +kernel
theorem dX10_whole_15 : decode cX10_whole 15 = .ok (.iload_n 1, 1) := by decide +kernel
theorem dX10_whole_16 : decode cX10_whole 16 = .ok (.invokevirtual 310, 3) := by decide +kernel
theorem dX10_whole_19 : decode cX10_whole 19 = .ok (.ifCond .eq 22, 3) := by decide +kernel
theorem dX10_whole_22 : decode cX10_whole 22 = .ok (.iload_n 2, 1) := by decide +kernel
theorem dX10_whole_23 : decode cX10_whole 23 = .ok (.ifCond .lt 18, 3) := by decide +kernel
theorem dX10_whole_26 : decode cX10_whole 26 = .ok (.iload_n 2, 1) := by decide +kernel
theorem dX10_whole_27 : decode cX10_whole 27 = .ok (.bipush 6, 2) := by decide +kernel
theorem dX10_whole_29 : decode cX10_whole 29 = .ok (.if_icmp .gt 12, 3) := by decide +kernel
theorem dX10_whole_32 : decode cX10_whole 32 = .ok (.iload_n 3, 1) := by decide +kernel
theorem dX10_whole_33 : decode cX10_whole 33 = .ok (.ifCond .lt 8, 3) := by decide +kernel
theorem dX10_whole_36 : decode cX10_whole 36 = .ok (.iload_n 3, 1) := by decide +kernel
theorem dX10_whole_37 : decode cX10_whole 37 = .ok (.iconst 1, 1) := by decide +kernel
theorem dX10_whole_38 : decode cX10_whole 38 = .ok (.if_icmp .le 7, 3) := by decide +kernel
theorem dX10_whole_41 : decode cX10_whole 41 = .ok (.ldc2_w 450, 3) := by decide +kernel
theorem dX10_whole_44 : decode cX10_whole 44 = .ok (.lreturn, 1) := by decide +kernel
theorem dX10_whole_45 : decode cX10_whole 45 = .ok (.aload_n 0, 1) := by decide +kernel
theorem dX10_whole_46 : decode cX10_whole 46 = .ok (.iconst 0, 1) := by decide +kernel
theorem dX10_whole_47 : decode cX10_whole 47 = .ok (.iload_n 1, 1) := by decide +kernel
theorem dX10_whole_48 : decode cX10_whole 48 = .ok (.aload_n 0, 1) := by decide +kernel
theorem dX10_whole_49 : decode cX10_whole 49 = .ok (.getfield 75, 3) := by decide +kernel
theorem dX10_whole_52 : decode cX10_whole 52 = .ok (.iload_n 1, 1) := by decide +kernel
theorem dX10_whole_53 : decode cX10_whole 53 = .ok (.iaload, 1) := by decide +kernel
theorem dX10_whole_54 : decode cX10_whole 54 = .ok (.invokevirtual 353, 3) := by decide +kernel
theorem dX10_whole_57 : decode cX10_whole 57 = .ok (.istore 4, 2) := by decide +kernel
theorem dX10_whole_59 : decode cX10_whole 59 = .ok (.lconst 1, 1) := by decide +kernel
theorem dX10_whole_60 : decode cX10_whole 60 = .ok (.lstore 5, 2) := by decide +kernel
theorem dX10_whole_62 : decode cX10_whole 62 = .ok (.lconst 1, 1) := by decide +kernel
theorem dX10_whole_63 : decode cX10_whole 63 = .ok (.lstore 7, 2) := by decide +kernel
theorem dX10_whole_65 : decode cX10_whole 65 = .ok (.iconst 0, 1) := by decide +kernel
theorem dX10_whole_66 : decode cX10_whole 66 = .ok (.istore 9, 2) := by decide +kernel
theorem dX10_whole_68 : decode cX10_whole 68 = .ok (.iload 9, 2) := by decide +kernel
theorem dX10_whole_70 : decode cX10_whole 70 = .ok (.iload_n 2, 1) := by decide +kernel
theorem dX10_whole_71 : decode cX10_whole 71 = .ok (.if_icmp .ge 28, 3) := by decide +kernel
theorem dX10_whole_74 : decode cX10_whole 74 = .ok (.lload 5, 2) := by decide +kernel
theorem dX10_whole_76 : decode cX10_whole 76 = .ok (.bipush 100, 2) := by decide +kernel
theorem dX10_whole_78 : decode cX10_whole 78 = .ok (.iload 4, 2) := by decide +kernel
theorem dX10_whole_80 : decode cX10_whole 80 = .ok (.isub, 1) := by decide +kernel
theorem dX10_whole_81 : decode cX10_whole 81 = .ok (.i2l, 1) := by decide +kernel
theorem dX10_whole_82 : decode cX10_whole 82 = .ok (.lmul, 1) := by decide +kernel
theorem dX10_whole_83 : decode cX10_whole 83 = .ok (.lstore 5, 2) := by decide +kernel
theorem dX10_whole_85 : decode cX10_whole 85 = .ok (.lload 7, 2) := by decide +kernel
theorem dX10_whole_87 : decode cX10_whole 87 = .ok (.ldc2_w 452, 3) := by decide +kernel
theorem dX10_whole_90 : decode cX10_whole 90 = .ok (.lmul, 1) := by decide +kernel
theorem dX10_whole_91 : decode cX10_whole 91 = .ok (.lstore 7, 2) := by decide +kernel
theorem dX10_whole_93 : decode cX10_whole 93 = .ok (.iinc 9 1, 3) := by decide +kernel
theorem dX10_whole_96 : decode cX10_whole 96 = .ok (.goto (-28), 3) := by decide +kernel
theorem dX10_whole_99 : decode cX10_whole 99 = .ok (.lload 5, 2) := by decide +kernel
theorem dX10_whole_101 : decode cX10_whole 101 = .ok (.lload 7, 2) := by decide +kernel
theorem dX10_whole_103 : decode cX10_whole 103 = .ok (.invokestatic 454, 3) := by decide +kernel
theorem dX10_whole_106 : decode cX10_whole 106 = .ok (.lstore 9, 2) := by decide +kernel
theorem dX10_whole_108 : decode cX10_whole 108 = .ok (.iload_n 3, 1) := by decide +kernel
theorem dX10_whole_109 : decode cX10_whole 109 = .ok (.ifCond .ne 11, 3) := by decide +kernel
theorem dX10_whole_112 : decode cX10_whole 112 = .ok (.lload 5, 2) := by decide +kernel
theorem dX10_whole_114 : decode cX10_whole 114 = .ok (.lload 9, 2) := by decide +kernel
theorem dX10_whole_116 : decode cX10_whole 116 = .ok (.ldiv, 1) := by decide +kernel
theorem dX10_whole_117 : decode cX10_whole 117 = .ok (.goto 8, 3) := by decide +kernel
theorem dX10_whole_120 : decode cX10_whole 120 = .ok (.lload 7, 2) := by decide +kernel
theorem dX10_whole_122 : decode cX10_whole 122 = .ok (.lload 9, 2) := by decide +kernel
theorem dX10_whole_124 : decode cX10_whole 124 = .ok (.ldiv, 1) := by decide +kernel
theorem dX10_whole_125 : decode cX10_whole 125 = .ok (.lreturn, 1) := by decide +kernel
theorem dX10_lists_0 : decode cX10_lists 0 = .ok (.aload_n 0, 1) := by decide +kernel
theorem dX10_lists_1 : decode cX10_lists 1 = .ok (.iconst 0, 1) := by decide +kernel
theorem dX10_lists_2 : decode cX10_lists 2 = .ok (.putfield 124, 3) := by decide +kernel
theorem dX10_lists_5 : decode cX10_lists 5 = .ok (.iload_n 1, 1) := by decide +kernel
theorem dX10_lists_6 : decode cX10_lists 6 = .ok (.invokestatic 403, 3) := by decide +kernel
theorem dX10_lists_9 : decode cX10_lists 9 = .ok (.ifCond .eq 25, 3) := by decide +kernel
theorem dX10_lists_12 : decode cX10_lists 12 = .ok (.iload_n 2, 1) := by decide +kernel
theorem dX10_lists_13 : decode cX10_lists 13 = .ok (.iconst 1, 1) := by decide +kernel
theorem dX10_lists_14 : decode cX10_lists 14 = .ok (.if_icmp .lt 20, 3) := by decide +kernel
theorem dX10_lists_17 : decode cX10_lists 17 = .ok (.iload_n 2, 1) := by decide +kernel
theorem dX10_lists_18 : decode cX10_lists 18 = .ok (.bipush 9, 2) := by decide +kernel
theorem dX10_lists_20 : decode cX10_lists 20 = .ok (.if_icmp .gt 14, 3) := by decide +kernel
theorem dX10_lists_23 : decode cX10_lists 23 = .ok (.iload_n 3, 1) := by decide +kernel
theorem dX10_lists_24 : decode cX10_lists 24 = .ok (.iconst 1, 1) := by decide +kernel
theorem dX10_lists_25 : decode cX10_lists 25 = .ok (.if_icmp .lt 9, 3) := by decide +kernel
theorem dX10_lists_28 : decode cX10_lists 28 = .ok (.iload_n 3, 1) := by decide +kernel
theorem dX10_lists_29 : decode cX10_lists 29 = .ok (.bipush 9, 2) := by decide +kernel
theorem dX10_lists_31 : decode cX10_lists 31 = .ok (.if_icmp .le 5, 3) := by decide +kernel
theorem dX10_lists_34 : decode cX10_lists 34 = .ok (.iconst (-1), 1) := by decide +kernel
theorem dX10_lists_35 : decode cX10_lists 35 = .ok (.ireturn, 1) := by decide +kernel
theorem dX10_lists_36 : decode cX10_lists 36 = .ok (.aload_n 0, 1) := by decide +kernel
theorem dX10_lists_37 : decode cX10_lists 37 = .ok (.iconst 1, 1) := by decide +kernel
theorem dX10_lists_38 : decode cX10_lists 38 = .ok (.iload_n 1, 1) := by decide +kernel
theorem dX10_lists_39 : decode cX10_lists 39 = .ok (.isub, 1) := by decide +kernel
theorem dX10_lists_40 : decode cX10_lists 40 = .ok (.invokevirtual 406, 3) := by decide +kernel
theorem dX10_lists_43 : decode cX10_lists 43 = .ok (.invokestatic 429, 3) := by decide +kernel
theorem dX10_lists_46 : decode cX10_lists 46 = .ok (.iload_n 2, 1) := by decide +kernel
theorem dX10_lists_47 : decode cX10_lists 47 = .ok (.iload_n 3, 1) := by decide +kernel
theorem dX10_lists_48 : decode cX10_lists 48 = .ok (.imul, 1) := by decide +kernel
theorem dX10_lists_49 : decode cX10_lists 49 = .ok (.iadd, 1) := by decide +kernel
theorem dX10_lists_50 : decode cX10_lists 50 = .ok (.iconst 1, 1) := by decide +kernel
theorem dX10_lists_51 : decode cX10_lists 51 = .ok (.isub, 1) := by decide +kernel
theorem dX10_lists_52 : decode cX10_lists 52 = .ok (.iload_n 2, 1) := by decide +kernel
theorem dX10_lists_53 : decode cX10_lists 53 = .ok (.iload_n 3, 1) := by decide +kernel
theorem dX10_lists_54 : decode cX10_lists 54 = .ok (.imul, 1) := by decide +kernel
theorem dX10_lists_55 : decode cX10_lists 55 = .ok (.idiv, 1) := by decide +kernel
theorem dX10_lists_56 : decode cX10_lists 56 = .ok (.ireturn, 1) := by decide +kernel
theorem dX10_stays_0 : decode cX10_stays 0 = .ok (.aload_n 0, 1) := by decide +kernel
theorem dX10_stays_1 : decode cX10_stays 1 = .ok (.iconst 0, 1) := by decide +kernel
theorem dX10_stays_2 : decode cX10_stays 2 = .ok (.putfield 124, 3) := by decide +kernel
theorem dX10_stays_5 : decode cX10_stays 5 = .ok (.iconst 0, 1) := by decide +kernel
theorem dX10_stays_6 : decode cX10_stays 6 = .ok (.istore_n 1, 1) := by decide +kernel
theorem dX10_stays_7 : decode cX10_stays 7 = .ok (.iconst 0, 1) := by decide +kernel
theorem dX10_stays_8 : decode cX10_stays 8 = .ok (.istore_n 2, 1) := by decide +kernel
theorem dX10_stays_9 : decode cX10_stays 9 = .ok (.iload_n 2, 1) := by decide +kernel
theorem dX10_stays_10 : decode cX10_stays 10 = .ok (.aload_n 0, 1) := by decide +kernel
theorem dX10_stays_11 : decode cX10_stays 11 = .ok (.getfield 13, 3) := by decide +kernel
theorem dX10_stays_14 : decode cX10_stays 14 = .ok (.iconst 1, 1) := by decide +kernel
theorem dX10_stays_15 : decode cX10_stays 15 = .ok (.iaload, 1) := by decide +kernel
theorem dX10_stays_16 : decode cX10_stays 16 = .ok (.if_icmp .ge 43, 3) := by decide +kernel
theorem dX10_stays_19 : decode cX10_stays 19 = .ok (.iload_n 1, 1) := by decide +kernel
theorem dX10_stays_20 : decode cX10_stays 20 = .ok (.aload_n 0, 1) := by decide +kernel
theorem dX10_stays_21 : decode cX10_stays 21 = .ok (.iconst 0, 1) := by decide +kernel
theorem dX10_stays_22 : decode cX10_stays 22 = .ok (.iload_n 2, 1) := by decide +kernel
theorem dX10_stays_23 : decode cX10_stays 23 = .ok (.invokevirtual 310, 3) := by decide +kernel
theorem dX10_stays_26 : decode cX10_stays 26 = .ok (.ifCond .eq 24, 3) := by decide +kernel
theorem dX10_stays_29 : decode cX10_stays 29 = .ok (.aload_n 0, 1) := by decide +kernel
theorem dX10_stays_30 : decode cX10_stays 30 = .ok (.getfield 81, 3) := by decide +kernel
theorem dX10_stays_33 : decode cX10_stays 33 = .ok (.iload_n 2, 1) := by decide +kernel
theorem dX10_stays_34 : decode cX10_stays 34 = .ok (.iaload, 1) := by decide +kernel
theorem dX10_stays_35 : decode cX10_stays 35 = .ok (.aload_n 0, 1) := by decide +kernel
theorem dX10_stays_36 : decode cX10_stays 36 = .ok (.getfield 31, 3) := by decide +kernel
theorem dX10_stays_39 : decode cX10_stays 39 = .ok (.iload_n 2, 1) := by decide +kernel
theorem dX10_stays_40 : decode cX10_stays 40 = .ok (.iaload, 1) := by decide +kernel
theorem dX10_stays_41 : decode cX10_stays 41 = .ok (.if_icmp .le 9, 3) := by decide +kernel
theorem dX10_stays_44 : decode cX10_stays 44 = .ok (.iconst 1, 1) := by decide +kernel
theorem dX10_stays_45 : decode cX10_stays 45 = .ok (.iload_n 2, 1) := by decide +kernel
theorem dX10_stays_46 : decode cX10_stays 46 = .ok (.ishl, 1) := by decide +kernel
theorem dX10_stays_47 : decode cX10_stays 47 = .ok (.goto 4, 3) := by decide +kernel
theorem dX10_stays_50 : decode cX10_stays 50 = .ok (.iconst 0, 1) := by decide +kernel
theorem dX10_stays_51 : decode cX10_stays 51 = .ok (.ior, 1) := by decide +kernel
theorem dX10_stays_52 : decode cX10_stays 52 = .ok (.istore_n 1, 1) := by decide +kernel
theorem dX10_stays_53 : decode cX10_stays 53 = .ok (.iinc 2 1, 3) := by decide +kernel
theorem dX10_stays_56 : decode cX10_stays 56 = .ok (.goto (-47), 3) := by decide +kernel
theorem dX10_stays_59 : decode cX10_stays 59 = .ok (.iload_n 1, 1) := by decide +kernel
theorem dX10_stays_60 : decode cX10_stays 60 = .ok (.ireturn, 1) := by decide +kernel
theorem dX10_worst_0 : decode cX10_worst 0 = .ok (.aload_n 0, 1) := by decide +kernel
theorem dX10_worst_1 : decode cX10_worst 1 = .ok (.iconst 0, 1) := by decide +kernel
theorem dX10_worst_2 : decode cX10_worst 2 = .ok (.putfield 124, 3) := by decide +kernel
theorem dX10_worst_5 : decode cX10_worst 5 = .ok (.bipush (-2), 2) := by decide +kernel
theorem dX10_worst_7 : decode cX10_worst 7 = .ok (.istore_n 1, 1) := by decide +kernel
theorem dX10_worst_8 : decode cX10_worst 8 = .ok (.iconst 0, 1) := by decide +kernel
theorem dX10_worst_9 : decode cX10_worst 9 = .ok (.istore_n 2, 1) := by decide +kernel
theorem dX10_worst_10 : decode cX10_worst 10 = .ok (.iload_n 2, 1) := by decide +kernel
theorem dX10_worst_11 : decode cX10_worst 11 = .ok (.aload_n 0, 1) := by decide +kernel
theorem dX10_worst_12 : decode cX10_worst 12 = .ok (.getfield 13, 3) := by decide +kernel
theorem dX10_worst_15 : decode cX10_worst 15 = .ok (.iconst 1, 1) := by decide +kernel
theorem dX10_worst_16 : decode cX10_worst 16 = .ok (.iaload, 1) := by decide +kernel
theorem dX10_worst_17 : decode cX10_worst 17 = .ok (.if_icmp .ge 45, 3) := by decide +kernel
theorem dX10_worst_20 : decode cX10_worst 20 = .ok (.aload_n 0, 1) := by decide +kernel
theorem dX10_worst_21 : decode cX10_worst 21 = .ok (.iconst 0, 1) := by decide +kernel
theorem dX10_worst_22 : decode cX10_worst 22 = .ok (.iload_n 2, 1) := by decide +kernel
theorem dX10_worst_23 : decode cX10_worst 23 = .ok (.invokevirtual 310, 3) := by decide +kernel
theorem dX10_worst_26 : decode cX10_worst 26 = .ok (.ifCond .eq 30, 3) := by decide +kernel
theorem dX10_worst_29 : decode cX10_worst 29 = .ok (.aload_n 0, 1) := by decide +kernel
theorem dX10_worst_30 : decode cX10_worst 30 = .ok (.getfield 78, 3) := by decide +kernel
theorem dX10_worst_33 : decode cX10_worst 33 = .ok (.iload_n 2, 1) := by decide +kernel
theorem dX10_worst_34 : decode cX10_worst 34 = .ok (.iaload, 1) := by decide +kernel
theorem dX10_worst_35 : decode cX10_worst 35 = .ok (.iload_n 1, 1) := by decide +kernel
theorem dX10_worst_36 : decode cX10_worst 36 = .ok (.bipush (-2), 2) := by decide +kernel
theorem dX10_worst_38 : decode cX10_worst 38 = .ok (.if_icmp .ne 7, 3) := by decide +kernel
theorem dX10_worst_41 : decode cX10_worst 41 = .ok (.iconst 0, 1) := by decide +kernel
theorem dX10_worst_42 : decode cX10_worst 42 = .ok (.goto 9, 3) := by decide +kernel
theorem dX10_worst_45 : decode cX10_worst 45 = .ok (.aload_n 0, 1) := by decide +kernel
theorem dX10_worst_46 : decode cX10_worst 46 = .ok (.getfield 78, 3) := by decide +kernel
theorem dX10_worst_49 : decode cX10_worst 49 = .ok (.iload_n 1, 1) := by decide +kernel
theorem dX10_worst_50 : decode cX10_worst 50 = .ok (.iaload, 1) := by decide +kernel
theorem dX10_worst_51 : decode cX10_worst 51 = .ok (.if_icmp .le 5, 3) := by decide +kernel
theorem dX10_worst_54 : decode cX10_worst 54 = .ok (.iload_n 2, 1) := by decide +kernel
theorem dX10_worst_55 : decode cX10_worst 55 = .ok (.istore_n 1, 1) := by decide +kernel
theorem dX10_worst_56 : decode cX10_worst 56 = .ok (.iinc 2 1, 3) := by decide +kernel
theorem dX10_worst_59 : decode cX10_worst 59 = .ok (.goto (-49), 3) := by decide +kernel
theorem dX10_worst_62 : decode cX10_worst 62 = .ok (.iload_n 1, 1) := by decide +kernel
theorem dX10_worst_63 : decode cX10_worst 63 = .ok (.ireturn, 1) := by decide +kernel
theorem dX10_note_0 : decode cX10_note 0 = .ok (.aload_n 0, 1) := by decide +kernel
theorem dX10_note_1 : decode cX10_note 1 = .ok (.iconst 0, 1) := by decide +kernel
theorem dX10_note_2 : decode cX10_note 2 = .ok (.putfield 124, 3) := by decide +kernel
theorem dX10_note_5 : decode cX10_note 5 = .ok (.iload_n 1, 1) := by decide +kernel
theorem dX10_note_6 : decode cX10_note 6 = .ok (.iconst 1, 1) := by decide +kernel
theorem dX10_note_7 : decode cX10_note 7 = .ok (.if_icmp .lt 36, 3) := by decide +kernel
theorem dX10_note_10 : decode cX10_note 10 = .ok (.iload_n 1, 1) := by decide +kernel
theorem dX10_note_11 : decode cX10_note 11 = .ok (.bipush 40, 2) := by decide +kernel
theorem dX10_note_13 : decode cX10_note 13 = .ok (.if_icmp .gt 30, 3) := by decide +kernel
theorem dX10_note_16 : decode cX10_note 16 = .ok (.aload_n 0, 1) := by decide +kernel
theorem dX10_note_17 : decode cX10_note 17 = .ok (.iload_n 2, 1) := by decide +kernel
theorem dX10_note_18 : decode cX10_note 18 = .ok (.invokevirtual 397, 3) := by decide +kernel
theorem dX10_note_21 : decode cX10_note 21 = .ok (.ifCond .eq 22, 3) := by decide +kernel
theorem dX10_note_24 : decode cX10_note 24 = .ok (.iload_n 3, 1) := by decide +kernel
theorem dX10_note_25 : decode cX10_note 25 = .ok (.ifCond .lt 18, 3) := by decide +kernel
theorem dX10_note_28 : decode cX10_note 28 = .ok (.iload_n 3, 1) := by decide +kernel
theorem dX10_note_29 : decode cX10_note 29 = .ok (.bipush 9, 2) := by decide +kernel
theorem dX10_note_31 : decode cX10_note 31 = .ok (.if_icmp .gt 12, 3) := by decide +kernel
theorem dX10_note_34 : decode cX10_note 34 = .ok (.aload_n 0, 1) := by decide +kernel
theorem dX10_note_35 : decode cX10_note 35 = .ok (.getfield 277, 3) := by decide +kernel
theorem dX10_note_38 : decode cX10_note 38 = .ok (.bipush 24, 2) := by decide +kernel
theorem dX10_note_40 : decode cX10_note 40 = .ok (.if_icmp .ne 5, 3) := by decide +kernel
theorem dX10_note_43 : decode cX10_note 43 = .ok (.iconst (-1), 1) := by decide +kernel
theorem dX10_note_44 : decode cX10_note 44 = .ok (.ireturn, 1) := by decide +kernel
theorem dX10_note_45 : decode cX10_note 45 = .ok (.aload_n 0, 1) := by decide +kernel
theorem dX10_note_46 : decode cX10_note 46 = .ok (.getfield 102, 3) := by decide +kernel
theorem dX10_note_49 : decode cX10_note 49 = .ok (.aload_n 0, 1) := by decide +kernel
theorem dX10_note_50 : decode cX10_note 50 = .ok (.getfield 277, 3) := by decide +kernel
theorem dX10_note_53 : decode cX10_note 53 = .ok (.iload_n 1, 1) := by decide +kernel
theorem dX10_note_54 : decode cX10_note 54 = .ok (.iastore, 1) := by decide +kernel
theorem dX10_note_55 : decode cX10_note 55 = .ok (.aload_n 0, 1) := by decide +kernel
theorem dX10_note_56 : decode cX10_note 56 = .ok (.getfield 105, 3) := by decide +kernel
theorem dX10_note_59 : decode cX10_note 59 = .ok (.aload_n 0, 1) := by decide +kernel
theorem dX10_note_60 : decode cX10_note 60 = .ok (.getfield 277, 3) := by decide +kernel
theorem dX10_note_63 : decode cX10_note 63 = .ok (.iload_n 2, 1) := by decide +kernel
theorem dX10_note_64 : decode cX10_note 64 = .ok (.iastore, 1) := by decide +kernel
theorem dX10_note_65 : decode cX10_note 65 = .ok (.aload_n 0, 1) := by decide +kernel
theorem dX10_note_66 : decode cX10_note 66 = .ok (.getfield 108, 3) := by decide +kernel
theorem dX10_note_69 : decode cX10_note 69 = .ok (.aload_n 0, 1) := by decide +kernel
theorem dX10_note_70 : decode cX10_note 70 = .ok (.getfield 277, 3) := by decide +kernel
theorem dX10_note_73 : decode cX10_note 73 = .ok (.iload_n 3, 1) := by decide +kernel
theorem dX10_note_74 : decode cX10_note 74 = .ok (.iastore, 1) := by decide +kernel
theorem dX10_note_75 : decode cX10_note 75 = .ok (.aload_n 0, 1) := by decide +kernel
theorem dX10_note_76 : decode cX10_note 76 = .ok (.getfield 111, 3) := by decide +kernel
theorem dX10_note_79 : decode cX10_note 79 = .ok (.aload_n 0, 1) := by decide +kernel
theorem dX10_note_80 : decode cX10_note 80 = .ok (.getfield 277, 3) := by decide +kernel
theorem dX10_note_83 : decode cX10_note 83 = .ok (.iload 4, 2) := by decide +kernel
theorem dX10_note_85 : decode cX10_note 85 = .ok (.bastore, 1) := by decide +kernel
theorem dX10_note_86 : decode cX10_note 86 = .ok (.aload_n 0, 1) := by decide +kernel
theorem dX10_note_87 : decode cX10_note 87 = .ok (.getfield 115, 3) := by decide +kernel
theorem dX10_note_90 : decode cX10_note 90 = .ok (.aload_n 0, 1) := by decide +kernel
theorem dX10_note_91 : decode cX10_note 91 = .ok (.getfield 277, 3) := by decide +kernel
theorem dX10_note_94 : decode cX10_note 94 = .ok (.iconst (-1), 1) := by decide +kernel
theorem dX10_note_95 : decode cX10_note 95 = .ok (.iastore, 1) := by decide +kernel
theorem dX10_note_96 : decode cX10_note 96 = .ok (.aload_n 0, 1) := by decide +kernel
theorem dX10_note_97 : decode cX10_note 97 = .ok (.dup, 1) := by decide +kernel
theorem dX10_note_98 : decode cX10_note 98 = .ok (.getfield 277, 3) := by decide +kernel
theorem dX10_note_101 : decode cX10_note 101 = .ok (.iconst 1, 1) := by decide +kernel
theorem dX10_note_102 : decode cX10_note 102 = .ok (.iadd, 1) := by decide +kernel
theorem dX10_note_103 : decode cX10_note 103 = .ok (.putfield 277, 3) := by decide +kernel
theorem dX10_note_106 : decode cX10_note 106 = .ok (.aload_n 0, 1) := by decide +kernel
theorem dX10_note_107 : decode cX10_note 107 = .ok (.getfield 277, 3) := by decide +kernel
theorem dX10_note_110 : decode cX10_note 110 = .ok (.iconst 1, 1) := by decide +kernel
theorem dX10_note_111 : decode cX10_note 111 = .ok (.isub, 1) := by decide +kernel
theorem dX10_note_112 : decode cX10_note 112 = .ok (.ireturn, 1) := by decide +kernel
theorem dX10_out_0 : decode cX10_out 0 = .ok (.aload_n 0, 1) := by decide +kernel
theorem dX10_out_1 : decode cX10_out 1 = .ok (.iconst 0, 1) := by decide +kernel
theorem dX10_out_2 : decode cX10_out 2 = .ok (.putfield 124, 3) := by decide +kernel
theorem dX10_out_5 : decode cX10_out 5 = .ok (.iload_n 1, 1) := by decide +kernel
theorem dX10_out_6 : decode cX10_out 6 = .ok (.ifCond .lt 20, 3) := by decide +kernel
theorem dX10_out_9 : decode cX10_out 9 = .ok (.iload_n 1, 1) := by decide +kernel
theorem dX10_out_10 : decode cX10_out 10 = .ok (.aload_n 0, 1) := by decide +kernel
theorem dX10_out_11 : decode cX10_out 11 = .ok (.getfield 277, 3) := by decide +kernel
theorem dX10_out_14 : decode cX10_out 14 = .ok (.if_icmp .ge 12, 3) := by decide +kernel
theorem dX10_out_17 : decode cX10_out 17 = .ok (.aload_n 0, 1) := by decide +kernel
theorem dX10_out_18 : decode cX10_out 18 = .ok (.getfield 277, 3) := by decide +kernel
theorem dX10_out_21 : decode cX10_out 21 = .ok (.bipush 24, 2) := by decide +kernel
theorem dX10_out_23 : decode cX10_out 23 = .ok (.if_icmp .ne 5, 3) := by decide +kernel
theorem dX10_out_26 : decode cX10_out 26 = .ok (.iconst (-1), 1) := by decide +kernel
theorem dX10_out_27 : decode cX10_out 27 = .ok (.ireturn, 1) := by decide +kernel
theorem dX10_out_28 : decode cX10_out 28 = .ok (.aload_n 0, 1) := by decide +kernel
theorem dX10_out_29 : decode cX10_out 29 = .ok (.getfield 115, 3) := by decide +kernel
theorem dX10_out_32 : decode cX10_out 32 = .ok (.aload_n 0, 1) := by decide +kernel
theorem dX10_out_33 : decode cX10_out 33 = .ok (.getfield 277, 3) := by decide +kernel
theorem dX10_out_36 : decode cX10_out 36 = .ok (.iload_n 1, 1) := by decide +kernel
theorem dX10_out_37 : decode cX10_out 37 = .ok (.iastore, 1) := by decide +kernel
theorem dX10_out_38 : decode cX10_out 38 = .ok (.aload_n 0, 1) := by decide +kernel
theorem dX10_out_39 : decode cX10_out 39 = .ok (.dup, 1) := by decide +kernel
theorem dX10_out_40 : decode cX10_out 40 = .ok (.getfield 277, 3) := by decide +kernel
theorem dX10_out_43 : decode cX10_out 43 = .ok (.iconst 1, 1) := by decide +kernel
theorem dX10_out_44 : decode cX10_out 44 = .ok (.iadd, 1) := by decide +kernel
theorem dX10_out_45 : decode cX10_out 45 = .ok (.putfield 277, 3) := by decide +kernel
theorem dX10_out_48 : decode cX10_out 48 = .ok (.aload_n 0, 1) := by decide +kernel
theorem dX10_out_49 : decode cX10_out 49 = .ok (.getfield 277, 3) := by decide +kernel
theorem dX10_out_52 : decode cX10_out 52 = .ok (.iconst 1, 1) := by decide +kernel
theorem dX10_out_53 : decode cX10_out 53 = .ok (.isub, 1) := by decide +kernel
theorem dX10_out_54 : decode cX10_out 54 = .ok (.ireturn, 1) := by decide +kernel
theorem dX10_known_0 : decode cX10_known 0 = .ok (.aload_n 0, 1) := by decide +kernel
theorem dX10_known_1 : decode cX10_known 1 = .ok (.iconst 0, 1) := by decide +kernel
theorem dX10_known_2 : decode cX10_known 2 = .ok (.putfield 124, 3) := by decide +kernel
theorem dX10_known_5 : decode cX10_known 5 = .ok (.iload_n 1, 1) := by decide +kernel
theorem dX10_known_6 : decode cX10_known 6 = .ok (.iconst (-1), 1) := by decide +kernel
theorem dX10_known_7 : decode cX10_known 7 = .ok (.if_icmp .lt 11, 3) := by decide +kernel
theorem dX10_known_10 : decode cX10_known 10 = .ok (.iload_n 1, 1) := by decide +kernel
theorem dX10_known_11 : decode cX10_known 11 = .ok (.aload_n 0, 1) := by decide +kernel
theorem dX10_known_12 : decode cX10_known 12 = .ok (.getfield 277, 3) := by decide +kernel
theorem dX10_known_15 : decode cX10_known 15 = .ok (.if_icmp .le 5, 3) := by decide +kernel
theorem dX10_known_18 : decode cX10_known 18 = .ok (.iconst 0, 1) := by decide +kernel
theorem dX10_known_19 : decode cX10_known 19 = .ok (.ireturn, 1) := by decide +kernel
theorem dX10_known_20 : decode cX10_known 20 = .ok (.aload_n 0, 1) := by decide +kernel
theorem dX10_known_21 : decode cX10_known 21 = .ok (.iload_n 1, 1) := by decide +kernel
theorem dX10_known_22 : decode cX10_known 22 = .ok (.putfield 99, 3) := by decide +kernel
theorem dX10_known_25 : decode cX10_known 25 = .ok (.iconst 1, 1) := by decide +kernel
theorem dX10_known_26 : decode cX10_known 26 = .ok (.ireturn, 1) := by decide +kernel
theorem dX10_knownMany_0 : decode cX10_knownMany 0 = .ok (.aload_n 0, 1) := by decide +kernel
theorem dX10_knownMany_1 : decode cX10_knownMany 1 = .ok (.getfield 99, 3) := by decide +kernel
theorem dX10_knownMany_4 : decode cX10_knownMany 4 = .ok (.iconst (-1), 1) := by decide +kernel
theorem dX10_knownMany_5 : decode cX10_knownMany 5 = .ok (.if_icmp .ne 10, 3) := by decide +kernel
theorem dX10_knownMany_8 : decode cX10_knownMany 8 = .ok (.aload_n 0, 1) := by decide +kernel
theorem dX10_knownMany_9 : decode cX10_knownMany 9 = .ok (.getfield 277, 3) := by decide +kernel
theorem dX10_knownMany_12 : decode cX10_knownMany 12 = .ok (.goto 7, 3) := by decide +kernel
theorem dX10_knownMany_15 : decode cX10_knownMany 15 = .ok (.aload_n 0, 1) := by decide +kernel
theorem dX10_knownMany_16 : decode cX10_knownMany 16 = .ok (.getfield 99, 3) := by decide +kernel
theorem dX10_knownMany_19 : decode cX10_knownMany 19 = .ok (.ireturn, 1) := by decide +kernel
theorem dX10_isSo_0 : decode cX10_isSo 0 = .ok (.iconst 0, 1) := by decide +kernel
theorem dX10_isSo_1 : decode cX10_isSo 1 = .ok (.istore_n 2, 1) := by decide +kernel
theorem dX10_isSo_2 : decode cX10_isSo 2 = .ok (.iload_n 2, 1) := by decide +kernel
theorem dX10_isSo_3 : decode cX10_isSo 3 = .ok (.aload_n 0, 1) := by decide +kernel
theorem dX10_isSo_4 : decode cX10_isSo 4 = .ok (.invokevirtual 457, 3) := by decide +kernel
theorem dX10_isSo_7 : decode cX10_isSo 7 = .ok (.if_icmp .ge 80, 3) := by decide +kernel
theorem dX10_isSo_10 : decode cX10_isSo 10 = .ok (.aload_n 0, 1) := by decide +kernel
theorem dX10_isSo_11 : decode cX10_isSo 11 = .ok (.getfield 118, 3) := by decide +kernel
theorem dX10_isSo_14 : decode cX10_isSo 14 = .ok (.iload_n 2, 1) := by decide +kernel
theorem dX10_isSo_15 : decode cX10_isSo 15 = .ok (.baload, 1) := by decide +kernel
theorem dX10_isSo_16 : decode cX10_isSo 16 = .ok (.ifCond .ne 65, 3) := by decide +kernel
theorem dX10_isSo_19 : decode cX10_isSo 19 = .ok (.aload_n 0, 1) := by decide +kernel
theorem dX10_isSo_20 : decode cX10_isSo 20 = .ok (.getfield 115, 3) := by decide +kernel
theorem dX10_isSo_23 : decode cX10_isSo 23 = .ok (.iload_n 2, 1) := by decide +kernel
theorem dX10_isSo_24 : decode cX10_isSo 24 = .ok (.iaload, 1) := by decide +kernel
theorem dX10_isSo_25 : decode cX10_isSo 25 = .ok (.iconst (-1), 1) := by decide +kernel
theorem dX10_isSo_26 : decode cX10_isSo 26 = .ok (.if_icmp .ne 55, 3) := by decide +kernel
theorem dX10_isSo_29 : decode cX10_isSo 29 = .ok (.aload_n 0, 1) := by decide +kernel
theorem dX10_isSo_30 : decode cX10_isSo 30 = .ok (.getfield 102, 3) := by decide +kernel
theorem dX10_isSo_33 : decode cX10_isSo 33 = .ok (.iload_n 2, 1) := by decide +kernel
theorem dX10_isSo_34 : decode cX10_isSo 34 = .ok (.iaload, 1) := by decide +kernel
theorem dX10_isSo_35 : decode cX10_isSo 35 = .ok (.iload_n 1, 1) := by decide +kernel
theorem dX10_isSo_36 : decode cX10_isSo 36 = .ok (.if_icmp .eq 6, 3) := by decide +kernel
theorem dX10_isSo_39 : decode cX10_isSo 39 = .ok (.goto 42, 3) := by decide +kernel
theorem dX10_isSo_42 : decode cX10_isSo 42 = .ok (.aload_n 0, 1) := by decide +kernel
theorem dX10_isSo_43 : decode cX10_isSo 43 = .ok (.getfield 78, 3) := by decide +kernel
theorem dX10_isSo_46 : decode cX10_isSo 46 = .ok (.bipush 10, 2) := by decide +kernel
theorem dX10_isSo_48 : decode cX10_isSo 48 = .ok (.aload_n 0, 1) := by decide +kernel
theorem dX10_isSo_49 : decode cX10_isSo 49 = .ok (.getfield 105, 3) := by decide +kernel
theorem dX10_isSo_52 : decode cX10_isSo 52 = .ok (.iload_n 2, 1) := by decide +kernel
theorem dX10_isSo_53 : decode cX10_isSo 53 = .ok (.iaload, 1) := by decide +kernel
theorem dX10_isSo_54 : decode cX10_isSo 54 = .ok (.iadd, 1) := by decide +kernel
theorem dX10_isSo_55 : decode cX10_isSo 55 = .ok (.iaload, 1) := by decide +kernel
theorem dX10_isSo_56 : decode cX10_isSo 56 = .ok (.aload_n 0, 1) := by decide +kernel
theorem dX10_isSo_57 : decode cX10_isSo 57 = .ok (.getfield 108, 3) := by decide +kernel
theorem dX10_isSo_60 : decode cX10_isSo 60 = .ok (.iload_n 2, 1) := by decide +kernel
theorem dX10_isSo_61 : decode cX10_isSo 61 = .ok (.iaload, 1) := by decide +kernel
theorem dX10_isSo_62 : decode cX10_isSo 62 = .ok (.if_icmp .lt 7, 3) := by decide +kernel
theorem dX10_isSo_65 : decode cX10_isSo 65 = .ok (.iconst 1, 1) := by decide +kernel
theorem dX10_isSo_66 : decode cX10_isSo 66 = .ok (.goto 4, 3) := by decide +kernel
theorem dX10_isSo_69 : decode cX10_isSo 69 = .ok (.iconst 0, 1) := by decide +kernel
theorem dX10_isSo_70 : decode cX10_isSo 70 = .ok (.aload_n 0, 1) := by decide +kernel
theorem dX10_isSo_71 : decode cX10_isSo 71 = .ok (.getfield 111, 3) := by decide +kernel
theorem dX10_isSo_74 : decode cX10_isSo 74 = .ok (.iload_n 2, 1) := by decide +kernel
theorem dX10_isSo_75 : decode cX10_isSo 75 = .ok (.baload, 1) := by decide +kernel
theorem dX10_isSo_76 : decode cX10_isSo 76 = .ok (.if_icmp .eq 5, 3) := by decide +kernel
theorem dX10_isSo_79 : decode cX10_isSo 79 = .ok (.iconst 0, 1) := by decide +kernel
theorem dX10_isSo_80 : decode cX10_isSo 80 = .ok (.ireturn, 1) := by decide +kernel
theorem dX10_isSo_81 : decode cX10_isSo 81 = .ok (.iinc 2 1, 3) := by decide +kernel
theorem dX10_isSo_84 : decode cX10_isSo 84 = .ok (.goto (-82), 3) := by decide +kernel
theorem dX10_isSo_87 : decode cX10_isSo 87 = .ok (.iconst 1, 1) := by decide +kernel
theorem dX10_isSo_88 : decode cX10_isSo 88 = .ok (.ireturn, 1) := by decide +kernel
theorem dX10_fitsCare_0 : decode cX10_fitsCare 0 = .ok (.aload_n 0, 1) := by decide +kernel
theorem dX10_fitsCare_1 : decode cX10_fitsCare 1 = .ok (.iconst 1, 1) := by decide +kernel
theorem dX10_fitsCare_2 : decode cX10_fitsCare 2 = .ok (.invokevirtual 307, 3) := by decide +kernel
theorem dX10_fitsCare_5 : decode cX10_fitsCare 5 = .ok (.iconst 1, 1) := by decide +kernel
theorem dX10_fitsCare_6 : decode cX10_fitsCare 6 = .ok (.istore_n 2, 1) := by decide +kernel
theorem dX10_fitsCare_7 : decode cX10_fitsCare 7 = .ok (.iload_n 2, 1) := by decide +kernel
theorem dX10_fitsCare_8 : decode cX10_fitsCare 8 = .ok (.iload_n 1, 1) := by decide +kernel
theorem dX10_fitsCare_9 : decode cX10_fitsCare 9 = .ok (.if_icmp .gt 25, 3) := by decide +kernel
theorem dX10_fitsCare_12 : decode cX10_fitsCare 12 = .ok (.aload_n 0, 1) := by decide +kernel
theorem dX10_fitsCare_13 : decode cX10_fitsCare 13 = .ok (.iconst 1, 1) := by decide +kernel
theorem dX10_fitsCare_14 : decode cX10_fitsCare 14 = .ok (.iconst 0, 1) := by decide +kernel
theorem dX10_fitsCare_15 : decode cX10_fitsCare 15 = .ok (.invokevirtual 387, 3) := by decide +kernel
theorem dX10_fitsCare_18 : decode cX10_fitsCare 18 = .ok (.aload_n 0, 1) := by decide +kernel
theorem dX10_fitsCare_19 : decode cX10_fitsCare 19 = .ok (.iload_n 2, 1) := by decide +kernel
theorem dX10_fitsCare_20 : decode cX10_fitsCare 20 = .ok (.invokevirtual 460, 3) := by decide +kernel
theorem dX10_fitsCare_23 : decode cX10_fitsCare 23 = .ok (.ifCond .ne 5, 3) := by decide +kernel
theorem dX10_fitsCare_26 : decode cX10_fitsCare 26 = .ok (.iconst 0, 1) := by decide +kernel
theorem dX10_fitsCare_27 : decode cX10_fitsCare 27 = .ok (.ireturn, 1) := by decide +kernel
theorem dX10_fitsCare_28 : decode cX10_fitsCare 28 = .ok (.iinc 2 1, 3) := by decide +kernel
theorem dX10_fitsCare_31 : decode cX10_fitsCare 31 = .ok (.goto (-24), 3) := by decide +kernel
theorem dX10_fitsCare_34 : decode cX10_fitsCare 34 = .ok (.iconst 1, 1) := by decide +kernel
theorem dX10_fitsCare_35 : decode cX10_fitsCare 35 = .ok (.ireturn, 1) := by decide +kernel
theorem dX10_cares_0 : decode cX10_cares 0 = .ok (.aload_n 0, 1) := by decide +kernel
theorem dX10_cares_1 : decode cX10_cares 1 = .ok (.iconst 0, 1) := by decide +kernel
theorem dX10_cares_2 : decode cX10_cares 2 = .ok (.putfield 124, 3) := by decide +kernel
theorem dX10_cares_5 : decode cX10_cares 5 = .ok (.aload_n 0, 1) := by decide +kernel
theorem dX10_cares_6 : decode cX10_cares 6 = .ok (.iload_n 1, 1) := by decide +kernel
theorem dX10_cares_7 : decode cX10_cares 7 = .ok (.invokevirtual 400, 3) := by decide +kernel
theorem dX10_cares_10 : decode cX10_cares 10 = .ok (.ifCond .ne 5, 3) := by decide +kernel
theorem dX10_cares_13 : decode cX10_cares 13 = .ok (.iconst (-1), 1) := by decide +kernel
theorem dX10_cares_14 : decode cX10_cares 14 = .ok (.ireturn, 1) := by decide +kernel
theorem dX10_cares_15 : decode cX10_cares 15 = .ok (.iconst 0, 1) := by decide +kernel
theorem dX10_cares_16 : decode cX10_cares 16 = .ok (.istore_n 2, 1) := by decide +kernel
theorem dX10_cares_17 : decode cX10_cares 17 = .ok (.iconst 0, 1) := by decide +kernel
theorem dX10_cares_18 : decode cX10_cares 18 = .ok (.istore_n 3, 1) := by decide +kernel
theorem dX10_cares_19 : decode cX10_cares 19 = .ok (.iload_n 3, 1) := by decide +kernel
theorem dX10_cares_20 : decode cX10_cares 20 = .ok (.aload_n 0, 1) := by decide +kernel
theorem dX10_cares_21 : decode cX10_cares 21 = .ok (.invokevirtual 457, 3) := by decide +kernel
theorem dX10_cares_24 : decode cX10_cares 24 = .ok (.if_icmp .ge 16, 3) := by decide +kernel
theorem dX10_cares_27 : decode cX10_cares 27 = .ok (.aload_n 0, 1) := by decide +kernel
theorem dX10_cares_28 : decode cX10_cares 28 = .ok (.getfield 118, 3) := by decide +kernel
theorem dX10_cares_31 : decode cX10_cares 31 = .ok (.iload_n 3, 1) := by decide +kernel
theorem dX10_cares_32 : decode cX10_cares 32 = .ok (.iconst 0, 1) := by decide +kernel
theorem dX10_cares_33 : decode cX10_cares 33 = .ok (.bastore, 1) := by decide +kernel
theorem dX10_cares_34 : decode cX10_cares 34 = .ok (.iinc 3 1, 3) := by decide +kernel
theorem dX10_cares_37 : decode cX10_cares 37 = .ok (.goto (-18), 3) := by decide +kernel
theorem dX10_cares_40 : decode cX10_cares 40 = .ok (.aload_n 0, 1) := by decide +kernel
theorem dX10_cares_41 : decode cX10_cares 41 = .ok (.invokevirtual 457, 3) := by decide +kernel
theorem dX10_cares_44 : decode cX10_cares 44 = .ok (.iconst 1, 1) := by decide +kernel
theorem dX10_cares_45 : decode cX10_cares 45 = .ok (.isub, 1) := by decide +kernel
theorem dX10_cares_46 : decode cX10_cares 46 = .ok (.istore_n 3, 1) := by decide +kernel
theorem dX10_cares_47 : decode cX10_cares 47 = .ok (.iload_n 3, 1) := by decide +kernel
theorem dX10_cares_48 : decode cX10_cares 48 = .ok (.ifCond .lt 40, 3) := by decide +kernel
theorem dX10_cares_51 : decode cX10_cares 51 = .ok (.aload_n 0, 1) := by decide +kernel
theorem dX10_cares_52 : decode cX10_cares 52 = .ok (.getfield 118, 3) := by decide +kernel
theorem dX10_cares_55 : decode cX10_cares 55 = .ok (.iload_n 3, 1) := by decide +kernel
theorem dX10_cares_56 : decode cX10_cares 56 = .ok (.baload, 1) := by decide +kernel
theorem dX10_cares_57 : decode cX10_cares 57 = .ok (.ifCond .ne 25, 3) := by decide +kernel
theorem dX10_cares_60 : decode cX10_cares 60 = .ok (.aload_n 0, 1) := by decide +kernel
theorem dX10_cares_61 : decode cX10_cares 61 = .ok (.getfield 115, 3) := by decide +kernel
theorem dX10_cares_64 : decode cX10_cares 64 = .ok (.iload_n 3, 1) := by decide +kernel
theorem dX10_cares_65 : decode cX10_cares 65 = .ok (.iaload, 1) := by decide +kernel
theorem dX10_cares_66 : decode cX10_cares 66 = .ok (.iconst (-1), 1) := by decide +kernel
theorem dX10_cares_67 : decode cX10_cares 67 = .ok (.if_icmp .eq 15, 3) := by decide +kernel
theorem dX10_cares_70 : decode cX10_cares 70 = .ok (.aload_n 0, 1) := by decide +kernel
theorem dX10_cares_71 : decode cX10_cares 71 = .ok (.getfield 118, 3) := by decide +kernel
theorem dX10_cares_74 : decode cX10_cares 74 = .ok (.aload_n 0, 1) := by decide +kernel
theorem dX10_cares_75 : decode cX10_cares 75 = .ok (.getfield 115, 3) := by decide +kernel
theorem dX10_cares_78 : decode cX10_cares 78 = .ok (.iload_n 3, 1) := by decide +kernel
theorem dX10_cares_79 : decode cX10_cares 79 = .ok (.iaload, 1) := by decide +kernel
theorem dX10_cares_80 : decode cX10_cares 80 = .ok (.iconst 1, 1) := by decide +kernel
theorem dX10_cares_81 : decode cX10_cares 81 = .ok (.bastore, 1) := by decide +kernel
theorem dX10_cares_82 : decode cX10_cares 82 = .ok (.iinc 3 (-1), 3) := by decide +kernel
theorem dX10_cares_85 : decode cX10_cares 85 = .ok (.goto (-38), 3) := by decide +kernel
theorem dX10_cares_88 : decode cX10_cares 88 = .ok (.iconst 0, 1) := by decide +kernel
theorem dX10_cares_89 : decode cX10_cares 89 = .ok (.istore_n 3, 1) := by decide +kernel
theorem dX10_cares_90 : decode cX10_cares 90 = .ok (.iload_n 3, 1) := by decide +kernel
theorem dX10_cares_91 : decode cX10_cares 91 = .ok (.aload_n 0, 1) := by decide +kernel
theorem dX10_cares_92 : decode cX10_cares 92 = .ok (.invokevirtual 457, 3) := by decide +kernel
theorem dX10_cares_95 : decode cX10_cares 95 = .ok (.if_icmp .ge 39, 3) := by decide +kernel
theorem dX10_cares_98 : decode cX10_cares 98 = .ok (.aload_n 0, 1) := by decide +kernel
theorem dX10_cares_99 : decode cX10_cares 99 = .ok (.getfield 118, 3) := by decide +kernel
theorem dX10_cares_102 : decode cX10_cares 102 = .ok (.iload_n 3, 1) := by decide +kernel
theorem dX10_cares_103 : decode cX10_cares 103 = .ok (.baload, 1) := by decide +kernel
theorem dX10_cares_104 : decode cX10_cares 104 = .ok (.ifCond .ne 24, 3) := by decide +kernel
theorem dX10_cares_107 : decode cX10_cares 107 = .ok (.aload_n 0, 1) := by decide +kernel
theorem dX10_cares_108 : decode cX10_cares 108 = .ok (.getfield 115, 3) := by decide +kernel
theorem dX10_cares_111 : decode cX10_cares 111 = .ok (.iload_n 3, 1) := by decide +kernel
theorem dX10_cares_112 : decode cX10_cares 112 = .ok (.iaload, 1) := by decide +kernel
theorem dX10_cares_113 : decode cX10_cares 113 = .ok (.iconst (-1), 1) := by decide +kernel
theorem dX10_cares_114 : decode cX10_cares 114 = .ok (.if_icmp .ne 14, 3) := by decide +kernel
theorem dX10_cares_117 : decode cX10_cares 117 = .ok (.iload_n 2, 1) := by decide +kernel
theorem dX10_cares_118 : decode cX10_cares 118 = .ok (.aload_n 0, 1) := by decide +kernel
theorem dX10_cares_119 : decode cX10_cares 119 = .ok (.getfield 102, 3) := by decide +kernel
theorem dX10_cares_122 : decode cX10_cares 122 = .ok (.iload_n 3, 1) := by decide +kernel
theorem dX10_cares_123 : decode cX10_cares 123 = .ok (.iaload, 1) := by decide +kernel
theorem dX10_cares_124 : decode cX10_cares 124 = .ok (.invokestatic 343, 3) := by decide +kernel
theorem dX10_cares_127 : decode cX10_cares 127 = .ok (.istore_n 2, 1) := by decide +kernel
theorem dX10_cares_128 : decode cX10_cares 128 = .ok (.iinc 3 1, 3) := by decide +kernel
theorem dX10_cares_131 : decode cX10_cares 131 = .ok (.goto (-41), 3) := by decide +kernel
theorem dX10_cares_134 : decode cX10_cares 134 = .ok (.iconst 0, 1) := by decide +kernel
theorem dX10_cares_135 : decode cX10_cares 135 = .ok (.istore_n 3, 1) := by decide +kernel
theorem dX10_cares_136 : decode cX10_cares 136 = .ok (.aload_n 0, 1) := by decide +kernel
theorem dX10_cares_137 : decode cX10_cares 137 = .ok (.iload_n 1, 1) := by decide +kernel
theorem dX10_cares_138 : decode cX10_cares 138 = .ok (.putfield 87, 3) := by decide +kernel
theorem dX10_cares_141 : decode cX10_cares 141 = .ok (.iconst 0, 1) := by decide +kernel
theorem dX10_cares_142 : decode cX10_cares 142 = .ok (.istore 4, 2) := by decide +kernel
theorem dX10_cares_144 : decode cX10_cares 144 = .ok (.iload 4, 2) := by decide +kernel
theorem dX10_cares_146 : decode cX10_cares 146 = .ok (.bipush 9, 2) := by decide +kernel
theorem dX10_cares_148 : decode cX10_cares 148 = .ok (.if_icmp .gt 34, 3) := by decide +kernel
theorem dX10_cares_151 : decode cX10_cares 151 = .ok (.aload_n 0, 1) := by decide +kernel
theorem dX10_cares_152 : decode cX10_cares 152 = .ok (.iload 4, 2) := by decide +kernel
theorem dX10_cares_154 : decode cX10_cares 154 = .ok (.putfield 320, 3) := by decide +kernel
theorem dX10_cares_157 : decode cX10_cares 157 = .ok (.iload_n 3, 1) := by decide +kernel
theorem dX10_cares_158 : decode cX10_cares 158 = .ok (.aload_n 0, 1) := by decide +kernel
theorem dX10_cares_159 : decode cX10_cares 159 = .ok (.iload_n 2, 1) := by decide +kernel
theorem dX10_cares_160 : decode cX10_cares 160 = .ok (.invokevirtual 463, 3) := by decide +kernel
theorem dX10_cares_163 : decode cX10_cares 163 = .ok (.ifCond .eq 10, 3) := by decide +kernel
theorem dX10_cares_166 : decode cX10_cares 166 = .ok (.iconst 1, 1) := by decide +kernel
theorem dX10_cares_167 : decode cX10_cares 167 = .ok (.iload 4, 2) := by decide +kernel
theorem dX10_cares_169 : decode cX10_cares 169 = .ok (.ishl, 1) := by decide +kernel
theorem dX10_cares_170 : decode cX10_cares 170 = .ok (.goto 4, 3) := by decide +kernel
theorem dX10_cares_173 : decode cX10_cares 173 = .ok (.iconst 0, 1) := by decide +kernel
theorem dX10_cares_174 : decode cX10_cares 174 = .ok (.ior, 1) := by decide +kernel
theorem dX10_cares_175 : decode cX10_cares 175 = .ok (.istore_n 3, 1) := by decide +kernel
theorem dX10_cares_176 : decode cX10_cares 176 = .ok (.iinc 4 1, 3) := by decide +kernel
theorem dX10_cares_179 : decode cX10_cares 179 = .ok (.goto (-35), 3) := by decide +kernel
theorem dX10_cares_182 : decode cX10_cares 182 = .ok (.aload_n 0, 1) := by decide +kernel
theorem dX10_cares_183 : decode cX10_cares 183 = .ok (.iconst (-1), 1) := by decide +kernel
theorem dX10_cares_184 : decode cX10_cares 184 = .ok (.putfield 87, 3) := by decide +kernel
theorem dX10_cares_187 : decode cX10_cares 187 = .ok (.iload_n 3, 1) := by decide +kernel
theorem dX10_cares_188 : decode cX10_cares 188 = .ok (.ireturn, 1) := by decide +kernel
theorem dX10_chance_0 : decode cX10_chance 0 = .ok (.aload_n 0, 1) := by decide +kernel
theorem dX10_chance_1 : decode cX10_chance 1 = .ok (.iconst 0, 1) := by decide +kernel
theorem dX10_chance_2 : decode cX10_chance 2 = .ok (.putfield 124, 3) := by decide +kernel
theorem dX10_chance_5 : decode cX10_chance 5 = .ok (.iload_n 1, 1) := by decide +kernel
theorem dX10_chance_6 : decode cX10_chance 6 = .ok (.ifCond .lt 24, 3) := by decide +kernel
theorem dX10_chance_9 : decode cX10_chance 9 = .ok (.iload_n 2, 1) := by decide +kernel
theorem dX10_chance_10 : decode cX10_chance 10 = .ok (.iconst 1, 1) := by decide +kernel
theorem dX10_chance_11 : decode cX10_chance 11 = .ok (.if_icmp .lt 19, 3) := by decide +kernel
theorem dX10_chance_14 : decode cX10_chance 14 = .ok (.iload_n 2, 1) := by decide +kernel
theorem dX10_chance_15 : decode cX10_chance 15 = .ok (.bipush 60, 2) := by decide +kernel
theorem dX10_chance_17 : decode cX10_chance 17 = .ok (.if_icmp .gt 13, 3) := by decide +kernel
theorem dX10_chance_20 : decode cX10_chance 20 = .ok (.iload_n 3, 1) := by decide +kernel
theorem dX10_chance_21 : decode cX10_chance 21 = .ok (.ifCond .lt 9, 3) := by decide +kernel
theorem dX10_chance_24 : decode cX10_chance 24 = .ok (.iload_n 3, 1) := by decide +kernel
theorem dX10_chance_25 : decode cX10_chance 25 = .ok (.bipush 99, 2) := by decide +kernel
theorem dX10_chance_27 : decode cX10_chance 27 = .ok (.if_icmp .le 5, 3) := by decide +kernel
theorem dX10_chance_30 : decode cX10_chance 30 = .ok (.iconst (-1), 1) := by decide +kernel
theorem dX10_chance_31 : decode cX10_chance 31 = .ok (.ireturn, 1) := by decide +kernel
theorem dX10_chance_32 : decode cX10_chance 32 = .ok (.iload_n 1, 1) := by decide +kernel
theorem dX10_chance_33 : decode cX10_chance 33 = .ok (.istore 4, 2) := by decide +kernel
theorem dX10_chance_35 : decode cX10_chance 35 = .ok (.iconst 0, 1) := by decide +kernel
theorem dX10_chance_36 : decode cX10_chance 36 = .ok (.istore 5, 2) := by decide +kernel
theorem dX10_chance_38 : decode cX10_chance 38 = .ok (.iconst 0, 1) := by decide +kernel
theorem dX10_chance_39 : decode cX10_chance 39 = .ok (.istore 6, 2) := by decide +kernel
theorem dX10_chance_41 : decode cX10_chance 41 = .ok (.iload 6, 2) := by decide +kernel
theorem dX10_chance_43 : decode cX10_chance 43 = .ok (.bipush 10, 2) := by decide +kernel
theorem dX10_chance_45 : decode cX10_chance 45 = .ok (.if_icmp .ge 77, 3) := by decide +kernel
theorem dX10_chance_48 : decode cX10_chance 48 = .ok (.aload_n 0, 1) := by decide +kernel
theorem dX10_chance_49 : decode cX10_chance 49 = .ok (.iconst 1, 1) := by decide +kernel
theorem dX10_chance_50 : decode cX10_chance 50 = .ok (.iconst 0, 1) := by decide +kernel
theorem dX10_chance_51 : decode cX10_chance 51 = .ok (.invokevirtual 391, 3) := by decide +kernel
theorem dX10_chance_54 : decode cX10_chance 54 = .ok (.aload_n 0, 1) := by decide +kernel
theorem dX10_chance_55 : decode cX10_chance 55 = .ok (.getfield 63, 3) := by decide +kernel
theorem dX10_chance_58 : decode cX10_chance 58 = .ok (.iconst 1, 1) := by decide +kernel
theorem dX10_chance_59 : decode cX10_chance 59 = .ok (.iload 4, 2) := by decide +kernel
theorem dX10_chance_61 : decode cX10_chance 61 = .ok (.iastore, 1) := by decide +kernel
theorem dX10_chance_62 : decode cX10_chance 62 = .ok (.iconst 0, 1) := by decide +kernel
theorem dX10_chance_63 : decode cX10_chance 63 = .ok (.istore 7, 2) := by decide +kernel
theorem dX10_chance_65 : decode cX10_chance 65 = .ok (.iload 7, 2) := by decide +kernel
theorem dX10_chance_67 : decode cX10_chance 67 = .ok (.iload_n 2, 1) := by decide +kernel
theorem dX10_chance_68 : decode cX10_chance 68 = .ok (.if_icmp .ge 15, 3) := by decide +kernel
theorem dX10_chance_71 : decode cX10_chance 71 = .ok (.aload_n 0, 1) := by decide +kernel
theorem dX10_chance_72 : decode cX10_chance 72 = .ok (.iconst 1, 1) := by decide +kernel
theorem dX10_chance_73 : decode cX10_chance 73 = .ok (.iconst 1, 1) := by decide +kernel
theorem dX10_chance_74 : decode cX10_chance 74 = .ok (.invokevirtual 387, 3) := by decide +kernel
theorem dX10_chance_77 : decode cX10_chance 77 = .ok (.iinc 7 1, 3) := by decide +kernel
theorem dX10_chance_80 : decode cX10_chance 80 = .ok (.goto (-15), 3) := by decide +kernel
theorem dX10_chance_83 : decode cX10_chance 83 = .ok (.aload_n 0, 1) := by decide +kernel
theorem dX10_chance_84 : decode cX10_chance 84 = .ok (.getfield 63, 3) := by decide +kernel
theorem dX10_chance_87 : decode cX10_chance 87 = .ok (.iconst 1, 1) := by decide +kernel
theorem dX10_chance_88 : decode cX10_chance 88 = .ok (.iaload, 1) := by decide +kernel
theorem dX10_chance_89 : decode cX10_chance 89 = .ok (.istore 4, 2) := by decide +kernel
theorem dX10_chance_91 : decode cX10_chance 91 = .ok (.iload 5, 2) := by decide +kernel
theorem dX10_chance_93 : decode cX10_chance 93 = .ok (.aload_n 0, 1) := by decide +kernel
theorem dX10_chance_94 : decode cX10_chance 94 = .ok (.iconst 1, 1) := by decide +kernel
theorem dX10_chance_95 : decode cX10_chance 95 = .ok (.invokevirtual 423, 3) := by decide +kernel
theorem dX10_chance_98 : decode cX10_chance 98 = .ok (.aload_n 0, 1) := by decide +kernel
theorem dX10_chance_99 : decode cX10_chance 99 = .ok (.iconst 0, 1) := by decide +kernel
theorem dX10_chance_100 : decode cX10_chance 100 = .ok (.invokevirtual 423, 3) := by decide +kernel
theorem dX10_chance_103 : decode cX10_chance 103 = .ok (.isub, 1) := by decide +kernel
theorem dX10_chance_104 : decode cX10_chance 104 = .ok (.iload_n 3, 1) := by decide +kernel
theorem dX10_chance_105 : decode cX10_chance 105 = .ok (.if_icmp .lt 7, 3) := by decide +kernel
theorem dX10_chance_108 : decode cX10_chance 108 = .ok (.iconst 1, 1) := by decide +kernel
theorem dX10_chance_109 : decode cX10_chance 109 = .ok (.goto 4, 3) := by decide +kernel
theorem dX10_chance_112 : decode cX10_chance 112 = .ok (.iconst 0, 1) := by decide +kernel
theorem dX10_chance_113 : decode cX10_chance 113 = .ok (.iadd, 1) := by decide +kernel
theorem dX10_chance_114 : decode cX10_chance 114 = .ok (.istore 5, 2) := by decide +kernel
theorem dX10_chance_116 : decode cX10_chance 116 = .ok (.iinc 6 1, 3) := by decide +kernel
theorem dX10_chance_119 : decode cX10_chance 119 = .ok (.goto (-78), 3) := by decide +kernel
theorem dX10_chance_122 : decode cX10_chance 122 = .ok (.iload 5, 2) := by decide +kernel
theorem dX10_chance_124 : decode cX10_chance 124 = .ok (.ireturn, 1) := by decide +kernel
theorem dX10_tried_0 : decode cX10_tried 0 = .ok (.aload_n 0, 1) := by decide +kernel
theorem dX10_tried_1 : decode cX10_tried 1 = .ok (.iconst 0, 1) := by decide +kernel
theorem dX10_tried_2 : decode cX10_tried 2 = .ok (.putfield 124, 3) := by decide +kernel
theorem dX10_tried_5 : decode cX10_tried 5 = .ok (.iload_n 1, 1) := by decide +kernel
theorem dX10_tried_6 : decode cX10_tried 6 = .ok (.iconst 2, 1) := by decide +kernel
theorem dX10_tried_7 : decode cX10_tried 7 = .ok (.if_icmp .ne 11, 3) := by decide +kernel
theorem dX10_tried_10 : decode cX10_tried 10 = .ok (.aload_n 0, 1) := by decide +kernel
theorem dX10_tried_11 : decode cX10_tried 11 = .ok (.iload_n 2, 1) := by decide +kernel
theorem dX10_tried_12 : decode cX10_tried 12 = .ok (.invokevirtual 397, 3) := by decide +kernel
theorem dX10_tried_15 : decode cX10_tried 15 = .ok (.goto 21, 3) := by decide +kernel
theorem dX10_tried_18 : decode cX10_tried 18 = .ok (.iload_n 1, 1) := by decide +kernel
theorem dX10_tried_19 : decode cX10_tried 19 = .ok (.ifCond .lt 16, 3) := by decide +kernel
theorem dX10_tried_22 : decode cX10_tried 22 = .ok (.iload_n 1, 1) := by decide +kernel
theorem dX10_tried_23 : decode cX10_tried 23 = .ok (.iconst 5, 1) := by decide +kernel
theorem dX10_tried_24 : decode cX10_tried 24 = .ok (.if_icmp .gt 11, 3) := by decide +kernel
theorem dX10_tried_27 : decode cX10_tried 27 = .ok (.iload_n 2, 1) := by decide +kernel
theorem dX10_tried_28 : decode cX10_tried 28 = .ok (.ifCond .ne 7, 3) := by decide +kernel
theorem dX10_tried_31 : decode cX10_tried 31 = .ok (.iconst 1, 1) := by decide +kernel
theorem dX10_tried_32 : decode cX10_tried 32 = .ok (.goto 4, 3) := by decide +kernel
theorem dX10_tried_35 : decode cX10_tried 35 = .ok (.iconst 0, 1) := by decide +kernel
theorem dX10_tried_36 : decode cX10_tried 36 = .ok (.istore 4, 2) := by decide +kernel
theorem dX10_tried_38 : decode cX10_tried 38 = .ok (.iload 4, 2) := by decide +kernel
theorem dX10_tried_40 : decode cX10_tried 40 = .ok (.ifCond .eq 13, 3) := by decide +kernel
theorem dX10_tried_43 : decode cX10_tried 43 = .ok (.iload_n 3, 1) := by decide +kernel
theorem dX10_tried_44 : decode cX10_tried 44 = .ok (.ifCond .lt 9, 3) := by decide +kernel
theorem dX10_tried_47 : decode cX10_tried 47 = .ok (.iload_n 3, 1) := by decide +kernel
theorem dX10_tried_48 : decode cX10_tried 48 = .ok (.bipush 60, 2) := by decide +kernel
theorem dX10_tried_50 : decode cX10_tried 50 = .ok (.if_icmp .le 5, 3) := by decide +kernel
theorem dX10_tried_53 : decode cX10_tried 53 = .ok (.iconst (-1), 1) := by decide +kernel
theorem dX10_tried_54 : decode cX10_tried 54 = .ok (.ireturn, 1) := by decide +kernel
theorem dX10_tried_55 : decode cX10_tried 55 = .ok (.aload_n 0, 1) := by decide +kernel
theorem dX10_tried_56 : decode cX10_tried 56 = .ok (.iload_n 1, 1) := by decide +kernel
theorem dX10_tried_57 : decode cX10_tried 57 = .ok (.putfield 317, 3) := by decide +kernel
theorem dX10_tried_60 : decode cX10_tried 60 = .ok (.aload_n 0, 1) := by decide +kernel
theorem dX10_tried_61 : decode cX10_tried 61 = .ok (.iconst 1, 1) := by decide +kernel
theorem dX10_tried_62 : decode cX10_tried 62 = .ok (.iconst 0, 1) := by decide +kernel
theorem dX10_tried_63 : decode cX10_tried 63 = .ok (.invokevirtual 391, 3) := by decide +kernel
theorem dX10_tried_66 : decode cX10_tried 66 = .ok (.iload_n 1, 1) := by decide +kernel
theorem dX10_tried_67 : decode cX10_tried 67 = .ok (.iconst 2, 1) := by decide +kernel
theorem dX10_tried_68 : decode cX10_tried 68 = .ok (.if_icmp .ne 13, 3) := by decide +kernel
theorem dX10_tried_71 : decode cX10_tried 71 = .ok (.aload_n 0, 1) := by decide +kernel
theorem dX10_tried_72 : decode cX10_tried 72 = .ok (.getfield 84, 3) := by decide +kernel
theorem dX10_tried_75 : decode cX10_tried 75 = .ok (.bipush 10, 2) := by decide +kernel
theorem dX10_tried_77 : decode cX10_tried 77 = .ok (.iload_n 2, 1) := by decide +kernel
theorem dX10_tried_78 : decode cX10_tried 78 = .ok (.iadd, 1) := by decide +kernel
theorem dX10_tried_79 : decode cX10_tried 79 = .ok (.iconst 0, 1) := by decide +kernel
theorem dX10_tried_80 : decode cX10_tried 80 = .ok (.iastore, 1) := by decide +kernel
theorem dX10_tried_81 : decode cX10_tried 81 = .ok (.aload_n 0, 1) := by decide +kernel
theorem dX10_tried_82 : decode cX10_tried 82 = .ok (.iload_n 3, 1) := by decide +kernel
theorem dX10_tried_83 : decode cX10_tried 83 = .ok (.invokevirtual 394, 3) := by decide +kernel
theorem dX10_tried_86 : decode cX10_tried 86 = .ok (.aload_n 0, 1) := by decide +kernel
theorem dX10_tried_87 : decode cX10_tried 87 = .ok (.iconst 0, 1) := by decide +kernel
theorem dX10_tried_88 : decode cX10_tried 88 = .ok (.putfield 317, 3) := by decide +kernel
theorem dX10_tried_91 : decode cX10_tried 91 = .ok (.aload_n 0, 1) := by decide +kernel
theorem dX10_tried_92 : decode cX10_tried 92 = .ok (.iconst 1, 1) := by decide +kernel
theorem dX10_tried_93 : decode cX10_tried 93 = .ok (.invokevirtual 466, 3) := by decide +kernel
theorem dX10_tried_96 : decode cX10_tried 96 = .ok (.ireturn, 1) := by decide +kernel
theorem dX10_undo_0 : decode cX10_undo 0 = .ok (.aload_n 0, 1) := by decide +kernel
theorem dX10_undo_1 : decode cX10_undo 1 = .ok (.iconst 0, 1) := by decide +kernel
theorem dX10_undo_2 : decode cX10_undo 2 = .ok (.putfield 124, 3) := by decide +kernel
theorem dX10_undo_5 : decode cX10_undo 5 = .ok (.aload_n 0, 1) := by decide +kernel
theorem dX10_undo_6 : decode cX10_undo 6 = .ok (.getfield 284, 3) := by decide +kernel
theorem dX10_undo_9 : decode cX10_undo 9 = .ok (.ifCond .ne 5, 3) := by decide +kernel
theorem dX10_undo_12 : decode cX10_undo 12 = .ok (.iconst (-1), 1) := by decide +kernel
theorem dX10_undo_13 : decode cX10_undo 13 = .ok (.ireturn, 1) := by decide +kernel
theorem dX10_undo_14 : decode cX10_undo 14 = .ok (.aload_n 0, 1) := by decide +kernel
theorem dX10_undo_15 : decode cX10_undo 15 = .ok (.dup, 1) := by decide +kernel
theorem dX10_undo_16 : decode cX10_undo 16 = .ok (.getfield 284, 3) := by decide +kernel
theorem dX10_undo_19 : decode cX10_undo 19 = .ok (.iconst 1, 1) := by decide +kernel
theorem dX10_undo_20 : decode cX10_undo 20 = .ok (.isub, 1) := by decide +kernel
theorem dX10_undo_21 : decode cX10_undo 21 = .ok (.putfield 284, 3) := by decide +kernel
theorem dX10_undo_24 : decode cX10_undo 24 = .ok (.aload_n 0, 1) := by decide +kernel
theorem dX10_undo_25 : decode cX10_undo 25 = .ok (.iconst 0, 1) := by decide +kernel
theorem dX10_undo_26 : decode cX10_undo 26 = .ok (.iconst 3, 1) := by decide +kernel
theorem dX10_undo_27 : decode cX10_undo 27 = .ok (.aload_n 0, 1) := by decide +kernel
theorem dX10_undo_28 : decode cX10_undo 28 = .ok (.getfield 284, 3) := by decide +kernel
theorem dX10_undo_31 : decode cX10_undo 31 = .ok (.iadd, 1) := by decide +kernel
theorem dX10_undo_32 : decode cX10_undo 32 = .ok (.invokevirtual 391, 3) := by decide +kernel
theorem dX10_undo_35 : decode cX10_undo 35 = .ok (.aload_n 0, 1) := by decide +kernel
theorem dX10_undo_36 : decode cX10_undo 36 = .ok (.getfield 284, 3) := by decide +kernel
theorem dX10_undo_39 : decode cX10_undo 39 = .ok (.ireturn, 1) := by decide +kernel
theorem dX10_keep_0 : decode cX10_keep 0 = .ok (.aload_n 0, 1) := by decide +kernel
theorem dX10_keep_1 : decode cX10_keep 1 = .ok (.iconst 0, 1) := by decide +kernel
theorem dX10_keep_2 : decode cX10_keep 2 = .ok (.putfield 124, 3) := by decide +kernel
theorem dX10_keep_5 : decode cX10_keep 5 = .ok (.aload_n 0, 1) := by decide +kernel
theorem dX10_keep_6 : decode cX10_keep 6 = .ok (.iconst 2, 1) := by decide +kernel
theorem dX10_keep_7 : decode cX10_keep 7 = .ok (.iconst 0, 1) := by decide +kernel
theorem dX10_keep_8 : decode cX10_keep 8 = .ok (.invokevirtual 391, 3) := by decide +kernel
theorem dX10_keep_11 : decode cX10_keep 11 = .ok (.aload_n 0, 1) := by decide +kernel
theorem dX10_keep_12 : decode cX10_keep 12 = .ok (.iconst 1, 1) := by decide +kernel
theorem dX10_keep_13 : decode cX10_keep 13 = .ok (.putfield 280, 3) := by decide +kernel
theorem dX10_keep_16 : decode cX10_keep 16 = .ok (.aload_n 0, 1) := by decide +kernel
theorem dX10_keep_17 : decode cX10_keep 17 = .ok (.getfield 60, 3) := by decide +kernel
theorem dX10_keep_20 : decode cX10_keep 20 = .ok (.iconst 0, 1) := by decide +kernel
theorem dX10_keep_21 : decode cX10_keep 21 = .ok (.iaload, 1) := by decide +kernel
theorem dX10_keep_22 : decode cX10_keep 22 = .ok (.ireturn, 1) := by decide +kernel
theorem dX10_back_0 : decode cX10_back 0 = .ok (.aload_n 0, 1) := by decide +kernel
theorem dX10_back_1 : decode cX10_back 1 = .ok (.iconst 0, 1) := by decide +kernel
theorem dX10_back_2 : decode cX10_back 2 = .ok (.putfield 124, 3) := by decide +kernel
theorem dX10_back_5 : decode cX10_back 5 = .ok (.aload_n 0, 1) := by decide +kernel
theorem dX10_back_6 : decode cX10_back 6 = .ok (.getfield 280, 3) := by decide +kernel
theorem dX10_back_9 : decode cX10_back 9 = .ok (.ifCond .ne 5, 3) := by decide +kernel
theorem dX10_back_12 : decode cX10_back 12 = .ok (.iconst (-1), 1) := by decide +kernel
theorem dX10_back_13 : decode cX10_back 13 = .ok (.ireturn, 1) := by decide +kernel
theorem dX10_back_14 : decode cX10_back 14 = .ok (.aload_n 0, 1) := by decide +kernel
theorem dX10_back_15 : decode cX10_back 15 = .ok (.iconst 0, 1) := by decide +kernel
theorem dX10_back_16 : decode cX10_back 16 = .ok (.iconst 2, 1) := by decide +kernel
theorem dX10_back_17 : decode cX10_back 17 = .ok (.invokevirtual 391, 3) := by decide +kernel
theorem dX10_back_20 : decode cX10_back 20 = .ok (.aload_n 0, 1) := by decide +kernel
theorem dX10_back_21 : decode cX10_back 21 = .ok (.iconst 0, 1) := by decide +kernel
theorem dX10_back_22 : decode cX10_back 22 = .ok (.putfield 284, 3) := by decide +kernel
theorem dX10_back_25 : decode cX10_back 25 = .ok (.aload_n 0, 1) := by decide +kernel
theorem dX10_back_26 : decode cX10_back 26 = .ok (.getfield 60, 3) := by decide +kernel
theorem dX10_back_29 : decode cX10_back 29 = .ok (.iconst 0, 1) := by decide +kernel
theorem dX10_back_30 : decode cX10_back 30 = .ok (.iaload, 1) := by decide +kernel
theorem dX10_back_31 : decode cX10_back 31 = .ok (.ireturn, 1) := by decide +kernel
theorem dX10_count_0 : decode cX10_count 0 = .ok (.aload_n 0, 1) := by decide +kernel
theorem dX10_count_1 : decode cX10_count 1 = .ok (.iconst 0, 1) := by decide +kernel
theorem dX10_count_2 : decode cX10_count 2 = .ok (.putfield 124, 3) := by decide +kernel
theorem dX10_count_5 : decode cX10_count 5 = .ok (.iload_n 1, 1) := by decide +kernel
theorem dX10_count_6 : decode cX10_count 6 = .ok (.tableswitch 146 0 11 #[62, 69, 76, 84, 91, 106, 112, 118, 124, 131, 136, 141], 62) := by decide +kernel
theorem dX10_count_68 : decode cX10_count 68 = .ok (.aload_n 0, 1) := by decide +kernel
theorem dX10_count_69 : decode cX10_count 69 = .ok (.getfield 13, 3) := by decide +kernel
theorem dX10_count_72 : decode cX10_count 72 = .ok (.iconst 0, 1) := by decide +kernel
theorem dX10_count_73 : decode cX10_count 73 = .ok (.iaload, 1) := by decide +kernel
theorem dX10_count_74 : decode cX10_count 74 = .ok (.ireturn, 1) := by decide +kernel
theorem dX10_count_75 : decode cX10_count 75 = .ok (.aload_n 0, 1) := by decide +kernel
theorem dX10_count_76 : decode cX10_count 76 = .ok (.getfield 13, 3) := by decide +kernel
theorem dX10_count_79 : decode cX10_count 79 = .ok (.iconst 1, 1) := by decide +kernel
theorem dX10_count_80 : decode cX10_count 80 = .ok (.iaload, 1) := by decide +kernel
theorem dX10_count_81 : decode cX10_count 81 = .ok (.ireturn, 1) := by decide +kernel
theorem dX10_count_82 : decode cX10_count 82 = .ok (.aload_n 0, 1) := by decide +kernel
theorem dX10_count_83 : decode cX10_count 83 = .ok (.getfield 13, 3) := by decide +kernel
theorem dX10_count_86 : decode cX10_count 86 = .ok (.bipush 6, 2) := by decide +kernel
theorem dX10_count_88 : decode cX10_count 88 = .ok (.iaload, 1) := by decide +kernel
theorem dX10_count_89 : decode cX10_count 89 = .ok (.ireturn, 1) := by decide +kernel
theorem dX10_count_90 : decode cX10_count 90 = .ok (.aload_n 0, 1) := by decide +kernel
theorem dX10_count_91 : decode cX10_count 91 = .ok (.getfield 60, 3) := by decide +kernel
theorem dX10_count_94 : decode cX10_count 94 = .ok (.iconst 0, 1) := by decide +kernel
theorem dX10_count_95 : decode cX10_count 95 = .ok (.iaload, 1) := by decide +kernel
theorem dX10_count_96 : decode cX10_count 96 = .ok (.ireturn, 1) := by decide +kernel
theorem dX10_count_97 : decode cX10_count 97 = .ok (.aload_n 0, 1) := by decide +kernel
theorem dX10_count_98 : decode cX10_count 98 = .ok (.iconst 0, 1) := by decide +kernel
theorem dX10_count_99 : decode cX10_count 99 = .ok (.invokevirtual 406, 3) := by decide +kernel
theorem dX10_count_102 : decode cX10_count 102 = .ok (.aload_n 0, 1) := by decide +kernel
theorem dX10_count_103 : decode cX10_count 103 = .ok (.iconst 1, 1) := by decide +kernel
theorem dX10_count_104 : decode cX10_count 104 = .ok (.invokevirtual 406, 3) := by decide +kernel
theorem dX10_count_107 : decode cX10_count 107 = .ok (.ior, 1) := by decide +kernel
theorem dX10_count_108 : decode cX10_count 108 = .ok (.invokestatic 429, 3) := by decide +kernel
theorem dX10_count_111 : decode cX10_count 111 = .ok (.ireturn, 1) := by decide +kernel
theorem dX10_count_112 : decode cX10_count 112 = .ok (.aload_n 0, 1) := by decide +kernel
theorem dX10_count_113 : decode cX10_count 113 = .ok (.iconst 0, 1) := by decide +kernel
theorem dX10_count_114 : decode cX10_count 114 = .ok (.invokevirtual 466, 3) := by decide +kernel
theorem dX10_count_117 : decode cX10_count 117 = .ok (.ireturn, 1) := by decide +kernel
theorem dX10_count_118 : decode cX10_count 118 = .ok (.aload_n 0, 1) := by decide +kernel
theorem dX10_count_119 : decode cX10_count 119 = .ok (.iconst 0, 1) := by decide +kernel
theorem dX10_count_120 : decode cX10_count 120 = .ok (.invokevirtual 426, 3) := by decide +kernel
theorem dX10_count_123 : decode cX10_count 123 = .ok (.ireturn, 1) := by decide +kernel
theorem dX10_count_124 : decode cX10_count 124 = .ok (.aload_n 0, 1) := by decide +kernel
theorem dX10_count_125 : decode cX10_count 125 = .ok (.iconst 0, 1) := by decide +kernel
theorem dX10_count_126 : decode cX10_count 126 = .ok (.invokevirtual 423, 3) := by decide +kernel
theorem dX10_count_129 : decode cX10_count 129 = .ok (.ireturn, 1) := by decide +kernel
theorem dX10_count_130 : decode cX10_count 130 = .ok (.aload_n 0, 1) := by decide +kernel
theorem dX10_count_131 : decode cX10_count 131 = .ok (.getfield 66, 3) := by decide +kernel
theorem dX10_count_134 : decode cX10_count 134 = .ok (.iconst 0, 1) := by decide +kernel
theorem dX10_count_135 : decode cX10_count 135 = .ok (.iaload, 1) := by decide +kernel
theorem dX10_count_136 : decode cX10_count 136 = .ok (.ireturn, 1) := by decide +kernel
theorem dX10_count_137 : decode cX10_count 137 = .ok (.aload_n 0, 1) := by decide +kernel
theorem dX10_count_138 : decode cX10_count 138 = .ok (.getfield 277, 3) := by decide +kernel
theorem dX10_count_141 : decode cX10_count 141 = .ok (.ireturn, 1) := by decide +kernel
theorem dX10_count_142 : decode cX10_count 142 = .ok (.aload_n 0, 1) := by decide +kernel
theorem dX10_count_143 : decode cX10_count 143 = .ok (.invokevirtual 457, 3) := by decide +kernel
theorem dX10_count_146 : decode cX10_count 146 = .ok (.ireturn, 1) := by decide +kernel
theorem dX10_count_147 : decode cX10_count 147 = .ok (.aload_n 0, 1) := by decide +kernel
theorem dX10_count_148 : decode cX10_count 148 = .ok (.getfield 284, 3) := by decide +kernel
theorem dX10_count_151 : decode cX10_count 151 = .ok (.ireturn, 1) := by decide +kernel
theorem dX10_count_152 : decode cX10_count 152 = .ok (.iconst (-1), 1) := by decide +kernel
theorem dX10_count_153 : decode cX10_count 153 = .ok (.ireturn, 1) := by decide +kernel
theorem dJ6_bitCount_0f7a4_0 : decode cJ6_bitCount_0f7a4 0 = .ok (.iload_n 0, 1) := by decide +kernel
theorem dJ6_bitCount_0f7a4_1 : decode cJ6_bitCount_0f7a4 1 = .ok (.iload_n 0, 1) := by decide +kernel
theorem dJ6_bitCount_0f7a4_2 : decode cJ6_bitCount_0f7a4 2 = .ok (.iconst 1, 1) := by decide +kernel
theorem dJ6_bitCount_0f7a4_3 : decode cJ6_bitCount_0f7a4 3 = .ok (.iushr, 1) := by decide +kernel
theorem dJ6_bitCount_0f7a4_4 : decode cJ6_bitCount_0f7a4 4 = .ok (.ldc_w 265, 3) := by decide +kernel
theorem dJ6_bitCount_0f7a4_7 : decode cJ6_bitCount_0f7a4 7 = .ok (.iand, 1) := by decide +kernel
theorem dJ6_bitCount_0f7a4_8 : decode cJ6_bitCount_0f7a4 8 = .ok (.isub, 1) := by decide +kernel
theorem dJ6_bitCount_0f7a4_9 : decode cJ6_bitCount_0f7a4 9 = .ok (.istore_n 0, 1) := by decide +kernel
theorem dJ6_bitCount_0f7a4_10 : decode cJ6_bitCount_0f7a4 10 = .ok (.iload_n 0, 1) := by decide +kernel
theorem dJ6_bitCount_0f7a4_11 : decode cJ6_bitCount_0f7a4 11 = .ok (.ldc_w 266, 3) := by decide +kernel
theorem dJ6_bitCount_0f7a4_14 : decode cJ6_bitCount_0f7a4 14 = .ok (.iand, 1) := by decide +kernel
theorem dJ6_bitCount_0f7a4_15 : decode cJ6_bitCount_0f7a4 15 = .ok (.iload_n 0, 1) := by decide +kernel
theorem dJ6_bitCount_0f7a4_16 : decode cJ6_bitCount_0f7a4 16 = .ok (.iconst 2, 1) := by decide +kernel
theorem dJ6_bitCount_0f7a4_17 : decode cJ6_bitCount_0f7a4 17 = .ok (.iushr, 1) := by decide +kernel
theorem dJ6_bitCount_0f7a4_18 : decode cJ6_bitCount_0f7a4 18 = .ok (.ldc_w 266, 3) := by decide +kernel
theorem dJ6_bitCount_0f7a4_21 : decode cJ6_bitCount_0f7a4 21 = .ok (.iand, 1) := by decide +kernel
theorem dJ6_bitCount_0f7a4_22 : decode cJ6_bitCount_0f7a4 22 = .ok (.iadd, 1) := by decide +kernel
theorem dJ6_bitCount_0f7a4_23 : decode cJ6_bitCount_0f7a4 23 = .ok (.istore_n 0, 1) := by decide +kernel
theorem dJ6_bitCount_0f7a4_24 : decode cJ6_bitCount_0f7a4 24 = .ok (.iload_n 0, 1) := by decide +kernel
theorem dJ6_bitCount_0f7a4_25 : decode cJ6_bitCount_0f7a4 25 = .ok (.iload_n 0, 1) := by decide +kernel
theorem dJ6_bitCount_0f7a4_26 : decode cJ6_bitCount_0f7a4 26 = .ok (.iconst 4, 1) := by decide +kernel
theorem dJ6_bitCount_0f7a4_27 : decode cJ6_bitCount_0f7a4 27 = .ok (.iushr, 1) := by decide +kernel
theorem dJ6_bitCount_0f7a4_28 : decode cJ6_bitCount_0f7a4 28 = .ok (.iadd, 1) := by decide +kernel
theorem dJ6_bitCount_0f7a4_29 : decode cJ6_bitCount_0f7a4 29 = .ok (.ldc_w 267, 3) := by decide +kernel
theorem dJ6_bitCount_0f7a4_32 : decode cJ6_bitCount_0f7a4 32 = .ok (.iand, 1) := by decide +kernel
theorem dJ6_bitCount_0f7a4_33 : decode cJ6_bitCount_0f7a4 33 = .ok (.istore_n 0, 1) := by decide +kernel
theorem dJ6_bitCount_0f7a4_34 : decode cJ6_bitCount_0f7a4 34 = .ok (.iload_n 0, 1) := by decide +kernel
theorem dJ6_bitCount_0f7a4_35 : decode cJ6_bitCount_0f7a4 35 = .ok (.iload_n 0, 1) := by decide +kernel
theorem dJ6_bitCount_0f7a4_36 : decode cJ6_bitCount_0f7a4 36 = .ok (.bipush 8, 2) := by decide +kernel
theorem dJ6_bitCount_0f7a4_38 : decode cJ6_bitCount_0f7a4 38 = .ok (.iushr, 1) := by decide +kernel
theorem dJ6_bitCount_0f7a4_39 : decode cJ6_bitCount_0f7a4 39 = .ok (.iadd, 1) := by decide +kernel
theorem dJ6_bitCount_0f7a4_40 : decode cJ6_bitCount_0f7a4 40 = .ok (.istore_n 0, 1) := by decide +kernel
theorem dJ6_bitCount_0f7a4_41 : decode cJ6_bitCount_0f7a4 41 = .ok (.iload_n 0, 1) := by decide +kernel
theorem dJ6_bitCount_0f7a4_42 : decode cJ6_bitCount_0f7a4 42 = .ok (.iload_n 0, 1) := by decide +kernel
theorem dJ6_bitCount_0f7a4_43 : decode cJ6_bitCount_0f7a4 43 = .ok (.bipush 16, 2) := by decide +kernel
theorem dJ6_bitCount_0f7a4_45 : decode cJ6_bitCount_0f7a4 45 = .ok (.iushr, 1) := by decide +kernel
theorem dJ6_bitCount_0f7a4_46 : decode cJ6_bitCount_0f7a4 46 = .ok (.iadd, 1) := by decide +kernel
theorem dJ6_bitCount_0f7a4_47 : decode cJ6_bitCount_0f7a4 47 = .ok (.istore_n 0, 1) := by decide +kernel
theorem dJ6_bitCount_0f7a4_48 : decode cJ6_bitCount_0f7a4 48 = .ok (.iload_n 0, 1) := by decide +kernel
theorem dJ6_bitCount_0f7a4_49 : decode cJ6_bitCount_0f7a4 49 = .ok (.bipush 63, 2) := by decide +kernel
theorem dJ6_bitCount_0f7a4_51 : decode cJ6_bitCount_0f7a4 51 = .ok (.iand, 1) := by decide +kernel
theorem dJ6_bitCount_0f7a4_52 : decode cJ6_bitCount_0f7a4 52 = .ok (.ireturn, 1) := by decide +kernel
theorem dJ9_abs_0f7a4_0 : decode cJ9_abs_0f7a4 0 = .ok (.iload_n 0, 1) := by decide +kernel
theorem dJ9_abs_0f7a4_1 : decode cJ9_abs_0f7a4 1 = .ok (.ifCond .ge 8, 3) := by decide +kernel
theorem dJ9_abs_0f7a4_4 : decode cJ9_abs_0f7a4 4 = .ok (.iload_n 0, 1) := by decide +kernel
theorem dJ9_abs_0f7a4_5 : decode cJ9_abs_0f7a4 5 = .ok (.ineg, 1) := by decide +kernel
theorem dJ9_abs_0f7a4_6 : decode cJ9_abs_0f7a4 6 = .ok (.goto 4, 3) := by decide +kernel
theorem dJ9_abs_0f7a4_9 : decode cJ9_abs_0f7a4 9 = .ok (.iload_n 0, 1) := by decide +kernel
theorem dJ9_abs_0f7a4_10 : decode cJ9_abs_0f7a4 10 = .ok (.ireturn, 1) := by decide +kernel
theorem dJ9_abs_067f4_0 : decode cJ9_abs_067f4 0 = .ok (.lload_n 0, 1) := by decide +kernel
theorem dJ9_abs_067f4_1 : decode cJ9_abs_067f4 1 = .ok (.lconst 0, 1) := by decide +kernel
theorem dJ9_abs_067f4_2 : decode cJ9_abs_067f4 2 = .ok (.lcmp, 1) := by decide +kernel
theorem dJ9_abs_067f4_3 : decode cJ9_abs_067f4 3 = .ok (.ifCond .ge 8, 3) := by decide +kernel
theorem dJ9_abs_067f4_6 : decode cJ9_abs_067f4 6 = .ok (.lload_n 0, 1) := by decide +kernel
theorem dJ9_abs_067f4_7 : decode cJ9_abs_067f4 7 = .ok (.lneg, 1) := by decide +kernel
theorem dJ9_abs_067f4_8 : decode cJ9_abs_067f4 8 = .ok (.goto 4, 3) := by decide +kernel
theorem dJ9_abs_067f4_11 : decode cJ9_abs_067f4 11 = .ok (.lload_n 0, 1) := by decide +kernel
theorem dJ9_abs_067f4_12 : decode cJ9_abs_067f4 12 = .ok (.lreturn, 1) := by decide +kernel
theorem dJ9_max_7cf53_0 : decode cJ9_max_7cf53 0 = .ok (.iload_n 0, 1) := by decide +kernel
theorem dJ9_max_7cf53_1 : decode cJ9_max_7cf53 1 = .ok (.iload_n 1, 1) := by decide +kernel
theorem dJ9_max_7cf53_2 : decode cJ9_max_7cf53 2 = .ok (.if_icmp .lt 7, 3) := by decide +kernel
theorem dJ9_max_7cf53_5 : decode cJ9_max_7cf53 5 = .ok (.iload_n 0, 1) := by decide +kernel
theorem dJ9_max_7cf53_6 : decode cJ9_max_7cf53 6 = .ok (.goto 4, 3) := by decide +kernel
theorem dJ9_max_7cf53_9 : decode cJ9_max_7cf53 9 = .ok (.iload_n 1, 1) := by decide +kernel
theorem dJ9_max_7cf53_10 : decode cJ9_max_7cf53 10 = .ok (.ireturn, 1) := by decide +kernel
theorem dJ9_max_f86c9_0 : decode cJ9_max_f86c9 0 = .ok (.lload_n 0, 1) := by decide +kernel
theorem dJ9_max_f86c9_1 : decode cJ9_max_f86c9 1 = .ok (.lload_n 2, 1) := by decide +kernel
theorem dJ9_max_f86c9_2 : decode cJ9_max_f86c9 2 = .ok (.lcmp, 1) := by decide +kernel
theorem dJ9_max_f86c9_3 : decode cJ9_max_f86c9 3 = .ok (.ifCond .lt 7, 3) := by decide +kernel
theorem dJ9_max_f86c9_6 : decode cJ9_max_f86c9 6 = .ok (.lload_n 0, 1) := by decide +kernel
theorem dJ9_max_f86c9_7 : decode cJ9_max_f86c9 7 = .ok (.goto 4, 3) := by decide +kernel
theorem dJ9_max_f86c9_10 : decode cJ9_max_f86c9 10 = .ok (.lload_n 2, 1) := by decide +kernel
theorem dJ9_max_f86c9_11 : decode cJ9_max_f86c9 11 = .ok (.lreturn, 1) := by decide +kernel
theorem dJ9_min_7cf53_0 : decode cJ9_min_7cf53 0 = .ok (.iload_n 0, 1) := by decide +kernel
theorem dJ9_min_7cf53_1 : decode cJ9_min_7cf53 1 = .ok (.iload_n 1, 1) := by decide +kernel
theorem dJ9_min_7cf53_2 : decode cJ9_min_7cf53 2 = .ok (.if_icmp .gt 7, 3) := by decide +kernel
theorem dJ9_min_7cf53_5 : decode cJ9_min_7cf53 5 = .ok (.iload_n 0, 1) := by decide +kernel
theorem dJ9_min_7cf53_6 : decode cJ9_min_7cf53 6 = .ok (.goto 4, 3) := by decide +kernel
theorem dJ9_min_7cf53_9 : decode cJ9_min_7cf53 9 = .ok (.iload_n 1, 1) := by decide +kernel
theorem dJ9_min_7cf53_10 : decode cJ9_min_7cf53 10 = .ok (.ireturn, 1) := by decide +kernel
theorem dJ9_min_f86c9_0 : decode cJ9_min_f86c9 0 = .ok (.lload_n 0, 1) := by decide +kernel
theorem dJ9_min_f86c9_1 : decode cJ9_min_f86c9 1 = .ok (.lload_n 2, 1) := by decide +kernel
theorem dJ9_min_f86c9_2 : decode cJ9_min_f86c9 2 = .ok (.lcmp, 1) := by decide +kernel
theorem dJ9_min_f86c9_3 : decode cJ9_min_f86c9 3 = .ok (.ifCond .gt 7, 3) := by decide +kernel
theorem dJ9_min_f86c9_6 : decode cJ9_min_f86c9 6 = .ok (.lload_n 0, 1) := by decide +kernel
theorem dJ9_min_f86c9_7 : decode cJ9_min_f86c9 7 = .ok (.goto 4, 3) := by decide +kernel
theorem dJ9_min_f86c9_10 : decode cJ9_min_f86c9 10 = .ok (.lload_n 2, 1) := by decide +kernel
theorem dJ9_min_f86c9_11 : decode cJ9_min_f86c9 11 = .ok (.lreturn, 1) := by decide +kernel
theorem dJ0_length_8abf5_0 : decode cJ0_length_8abf5 0 = .ok (.aload_n 0, 1) := by decide +kernel
theorem dJ0_length_8abf5_1 : decode cJ0_length_8abf5 1 = .ok (.getfield 9, 3) := by decide +kernel
theorem dJ0_length_8abf5_4 : decode cJ0_length_8abf5 4 = .ok (.arraylength, 1) := by decide +kernel
theorem dJ0_length_8abf5_5 : decode cJ0_length_8abf5 5 = .ok (.aload_n 0, 1) := by decide +kernel
theorem dJ0_length_8abf5_6 : decode cJ0_length_8abf5 6 = .ok (.invokevirtual 335, 3) := by decide +kernel
theorem dJ0_length_8abf5_9 : decode cJ0_length_8abf5 9 = .ok (.ishr, 1) := by decide +kernel
theorem dJ0_length_8abf5_10 : decode cJ0_length_8abf5 10 = .ok (.ireturn, 1) := by decide +kernel
theorem dJ0_charAt_5068e_0 : decode cJ0_charAt_5068e 0 = .ok (.aload_n 0, 1) := by decide +kernel
theorem dJ0_charAt_5068e_1 : decode cJ0_charAt_5068e 1 = .ok (.invokevirtual 492, 3) := by decide +kernel
theorem dJ0_charAt_5068e_4 : decode cJ0_charAt_5068e 4 = .ok (.ifCond .eq 12, 3) := by decide +kernel
theorem dJ0_charAt_5068e_7 : decode cJ0_charAt_5068e 7 = .ok (.aload_n 0, 1) := by decide +kernel
theorem dJ0_charAt_5068e_8 : decode cJ0_charAt_5068e 8 = .ok (.getfield 9, 3) := by decide +kernel
theorem dJ0_charAt_5068e_11 : decode cJ0_charAt_5068e 11 = .ok (.iload_n 1, 1) := by decide +kernel
theorem dJ0_charAt_5068e_12 : decode cJ0_charAt_5068e 12 = .ok (.invokestatic 495, 3) := by decide +kernel
theorem dJ0_charAt_5068e_15 : decode cJ0_charAt_5068e 15 = .ok (.ireturn, 1) := by decide +kernel
theorem dJ0_charAt_5068e_16 : decode cJ0_charAt_5068e 16 = .ok (.aload_n 0, 1) := by decide +kernel
theorem dJ0_charAt_5068e_17 : decode cJ0_charAt_5068e 17 = .ok (.getfield 9, 3) := by decide +kernel
theorem dJ0_charAt_5068e_20 : decode cJ0_charAt_5068e 20 = .ok (.iload_n 1, 1) := by decide +kernel
theorem dJ0_charAt_5068e_21 : decode cJ0_charAt_5068e 21 = .ok (.invokestatic 498, 3) := by decide +kernel
theorem dJ0_charAt_5068e_24 : decode cJ0_charAt_5068e 24 = .ok (.ireturn, 1) := by decide +kernel
theorem dJ0_coder_7d493_0 : decode cJ0_coder_7d493 0 = .ok (.getstatic 38, 3) := by decide +kernel
theorem dJ0_coder_7d493_3 : decode cJ0_coder_7d493 3 = .ok (.ifCond .eq 10, 3) := by decide +kernel
theorem dJ0_coder_7d493_6 : decode cJ0_coder_7d493 6 = .ok (.aload_n 0, 1) := by decide +kernel
theorem dJ0_coder_7d493_7 : decode cJ0_coder_7d493 7 = .ok (.getfield 15, 3) := by decide +kernel
theorem dJ0_coder_7d493_10 : decode cJ0_coder_7d493 10 = .ok (.goto 4, 3) := by decide +kernel
theorem dJ0_coder_7d493_13 : decode cJ0_coder_7d493 13 = .ok (.iconst 1, 1) := by decide +kernel
theorem dJ0_coder_7d493_14 : decode cJ0_coder_7d493 14 = .ok (.ireturn, 1) := by decide +kernel
theorem dJ0_isLatin1_aae02_0 : decode cJ0_isLatin1_aae02 0 = .ok (.getstatic 38, 3) := by decide +kernel
theorem dJ0_isLatin1_aae02_3 : decode cJ0_isLatin1_aae02 3 = .ok (.ifCond .eq 14, 3) := by decide +kernel
theorem dJ0_isLatin1_aae02_6 : decode cJ0_isLatin1_aae02 6 = .ok (.aload_n 0, 1) := by decide +kernel
theorem dJ0_isLatin1_aae02_7 : decode cJ0_isLatin1_aae02 7 = .ok (.getfield 15, 3) := by decide +kernel
theorem dJ0_isLatin1_aae02_10 : decode cJ0_isLatin1_aae02 10 = .ok (.ifCond .ne 7, 3) := by decide +kernel
theorem dJ0_isLatin1_aae02_13 : decode cJ0_isLatin1_aae02 13 = .ok (.iconst 1, 1) := by decide +kernel
theorem dJ0_isLatin1_aae02_14 : decode cJ0_isLatin1_aae02 14 = .ok (.goto 4, 3) := by decide +kernel
theorem dJ0_isLatin1_aae02_17 : decode cJ0_isLatin1_aae02 17 = .ok (.iconst 0, 1) := by decide +kernel
theorem dJ0_isLatin1_aae02_18 : decode cJ0_isLatin1_aae02 18 = .ok (.ireturn, 1) := by decide +kernel
theorem dJ0_checkIndex_df160_0 : decode cJ0_checkIndex_df160 0 = .ok (.iload_n 0, 1) := by decide +kernel
theorem dJ0_checkIndex_df160_1 : decode cJ0_checkIndex_df160 1 = .ok (.iload_n 1, 1) := by decide +kernel
theorem dJ0_checkIndex_df160_2 : decode cJ0_checkIndex_df160 2 = .ok (.getstatic 1053, 3) := by decide +kernel
theorem dJ0_checkIndex_df160_5 : decode cJ0_checkIndex_df160 5 = .ok (.invokestatic 1059, 3) := by decide +kernel
theorem dJ0_checkIndex_df160_8 : decode cJ0_checkIndex_df160 8 = .ok (.pop, 1) := by decide +kernel
theorem dJ0_checkIndex_df160_9 : decode cJ0_checkIndex_df160 9 = .ok (.return_, 1) := by decide +kernel
theorem dJ1_charAt_3b067_0 : decode cJ1_charAt_3b067 0 = .ok (.iload_n 1, 1) := by decide +kernel
theorem dJ1_charAt_3b067_1 : decode cJ1_charAt_3b067 1 = .ok (.aload_n 0, 1) := by decide +kernel
theorem dJ1_charAt_3b067_2 : decode cJ1_charAt_3b067 2 = .ok (.arraylength, 1) := by decide +kernel
theorem dJ1_charAt_3b067_3 : decode cJ1_charAt_3b067 3 = .ok (.invokestatic 9, 3) := by decide +kernel
theorem dJ1_charAt_3b067_6 : decode cJ1_charAt_3b067 6 = .ok (.aload_n 0, 1) := by decide +kernel
theorem dJ1_charAt_3b067_7 : decode cJ1_charAt_3b067 7 = .ok (.iload_n 1, 1) := by decide +kernel
theorem dJ1_charAt_3b067_8 : decode cJ1_charAt_3b067 8 = .ok (.baload, 1) := by decide +kernel
theorem dJ1_charAt_3b067_9 : decode cJ1_charAt_3b067 9 = .ok (.sipush 255, 3) := by decide +kernel
theorem dJ1_charAt_3b067_12 : decode cJ1_charAt_3b067 12 = .ok (.iand, 1) := by decide +kernel
theorem dJ1_charAt_3b067_13 : decode cJ1_charAt_3b067 13 = .ok (.i2c, 1) := by decide +kernel
theorem dJ1_charAt_3b067_14 : decode cJ1_charAt_3b067 14 = .ok (.ireturn, 1) := by decide +kernel
theorem dJ2_getChar_3b067_0 : decode cJ2_getChar_3b067 0 = .ok (.getstatic 44, 3) := by decide +kernel
theorem dJ2_getChar_3b067_3 : decode cJ2_getChar_3b067 3 = .ok (.ifCond .ne 25, 3) := by decide +kernel
theorem dJ2_getChar_3b067_6 : decode cJ2_getChar_3b067 6 = .ok (.iload_n 1, 1) := by decide +kernel
theorem dJ2_getChar_3b067_7 : decode cJ2_getChar_3b067 7 = .ok (.ifCond .lt 11, 3) := by decide +kernel
theorem dJ2_getChar_3b067_10 : decode cJ2_getChar_3b067 10 = .ok (.iload_n 1, 1) := by decide +kernel
theorem dJ2_getChar_3b067_11 : decode cJ2_getChar_3b067 11 = .ok (.aload_n 0, 1) := by decide +kernel
theorem dJ2_getChar_3b067_12 : decode cJ2_getChar_3b067 12 = .ok (.invokestatic 48, 3) := by decide +kernel
theorem dJ2_getChar_3b067_15 : decode cJ2_getChar_3b067 15 = .ok (.if_icmp .lt 13, 3) := by decide +kernel
theorem dJ2_getChar_3b067_18 : decode cJ2_getChar_3b067 18 = .ok (.new 52, 3) := by decide +kernel
theorem dJ2_getChar_3b067_21 : decode cJ2_getChar_3b067 21 = .ok (.dup, 1) := by decide +kernel
theorem dJ2_getChar_3b067_22 : decode cJ2_getChar_3b067 22 = .ok (.ldc 54, 2) := by decide +kernel
theorem dJ2_getChar_3b067_24 : decode cJ2_getChar_3b067 24 = .ok (.invokespecial 56, 3) := by decide +kernel
theorem dJ2_getChar_3b067_27 : decode cJ2_getChar_3b067 27 = .ok (.athrow, 1) := by decide +kernel
theorem dJ2_getChar_3b067_28 : decode cJ2_getChar_3b067 28 = .ok (.iload_n 1, 1) := by decide +kernel
theorem dJ2_getChar_3b067_29 : decode cJ2_getChar_3b067 29 = .ok (.iconst 1, 1) := by decide +kernel
theorem dJ2_getChar_3b067_30 : decode cJ2_getChar_3b067 30 = .ok (.ishl, 1) := by decide +kernel
theorem dJ2_getChar_3b067_31 : decode cJ2_getChar_3b067 31 = .ok (.istore_n 1, 1) := by decide +kernel
theorem dJ2_getChar_3b067_32 : decode cJ2_getChar_3b067 32 = .ok (.aload_n 0, 1) := by decide +kernel
theorem dJ2_getChar_3b067_33 : decode cJ2_getChar_3b067 33 = .ok (.iload_n 1, 1) := by decide +kernel
theorem dJ2_getChar_3b067_34 : decode cJ2_getChar_3b067 34 = .ok (.iinc 1 1, 3) := by decide +kernel
theorem dJ2_getChar_3b067_37 : decode cJ2_getChar_3b067 37 = .ok (.baload, 1) := by decide +kernel
theorem dJ2_getChar_3b067_38 : decode cJ2_getChar_3b067 38 = .ok (.sipush 255, 3) := by decide +kernel
theorem dJ2_getChar_3b067_41 : decode cJ2_getChar_3b067 41 = .ok (.iand, 1) := by decide +kernel
theorem dJ2_getChar_3b067_42 : decode cJ2_getChar_3b067 42 = .ok (.getstatic 59, 3) := by decide +kernel
theorem dJ2_getChar_3b067_45 : decode cJ2_getChar_3b067 45 = .ok (.ishl, 1) := by decide +kernel
theorem dJ2_getChar_3b067_46 : decode cJ2_getChar_3b067 46 = .ok (.aload_n 0, 1) := by decide +kernel
theorem dJ2_getChar_3b067_47 : decode cJ2_getChar_3b067 47 = .ok (.iload_n 1, 1) := by decide +kernel
theorem dJ2_getChar_3b067_48 : decode cJ2_getChar_3b067 48 = .ok (.baload, 1) := by decide +kernel
theorem dJ2_getChar_3b067_49 : decode cJ2_getChar_3b067 49 = .ok (.sipush 255, 3) := by decide +kernel
theorem dJ2_getChar_3b067_52 : decode cJ2_getChar_3b067 52 = .ok (.iand, 1) := by decide +kernel
theorem dJ2_getChar_3b067_53 : decode cJ2_getChar_3b067 53 = .ok (.getstatic 63, 3) := by decide +kernel
theorem dJ2_getChar_3b067_56 : decode cJ2_getChar_3b067 56 = .ok (.ishl, 1) := by decide +kernel
theorem dJ2_getChar_3b067_57 : decode cJ2_getChar_3b067 57 = .ok (.ior, 1) := by decide +kernel
theorem dJ2_getChar_3b067_58 : decode cJ2_getChar_3b067 58 = .ok (.i2c, 1) := by decide +kernel
theorem dJ2_getChar_3b067_59 : decode cJ2_getChar_3b067 59 = .ok (.ireturn, 1) := by decide +kernel
theorem dJ2_length_9d52b_0 : decode cJ2_length_9d52b 0 = .ok (.aload_n 0, 1) := by decide +kernel
theorem dJ2_length_9d52b_1 : decode cJ2_length_9d52b 1 = .ok (.arraylength, 1) := by decide +kernel
theorem dJ2_length_9d52b_2 : decode cJ2_length_9d52b 2 = .ok (.iconst 1, 1) := by decide +kernel
theorem dJ2_length_9d52b_3 : decode cJ2_length_9d52b 3 = .ok (.ishr, 1) := by decide +kernel
theorem dJ2_length_9d52b_4 : decode cJ2_length_9d52b 4 = .ok (.ireturn, 1) := by decide +kernel
theorem dJ2_charAt_3b067_0 : decode cJ2_charAt_3b067 0 = .ok (.iload_n 1, 1) := by decide +kernel
theorem dJ2_charAt_3b067_1 : decode cJ2_charAt_3b067 1 = .ok (.aload_n 0, 1) := by decide +kernel
theorem dJ2_charAt_3b067_2 : decode cJ2_charAt_3b067 2 = .ok (.invokestatic 67, 3) := by decide +kernel
theorem dJ2_charAt_3b067_5 : decode cJ2_charAt_3b067 5 = .ok (.aload_n 0, 1) := by decide +kernel
theorem dJ2_charAt_3b067_6 : decode cJ2_charAt_3b067 6 = .ok (.iload_n 1, 1) := by decide +kernel
theorem dJ2_charAt_3b067_7 : decode cJ2_charAt_3b067 7 = .ok (.invokestatic 71, 3) := by decide +kernel
theorem dJ2_charAt_3b067_10 : decode cJ2_charAt_3b067 10 = .ok (.ireturn, 1) := by decide +kernel
theorem dJ2_checkIndex_2214a_0 : decode cJ2_checkIndex_2214a 0 = .ok (.iload_n 0, 1) := by decide +kernel
theorem dJ2_checkIndex_2214a_1 : decode cJ2_checkIndex_2214a 1 = .ok (.aload_n 1, 1) := by decide +kernel
theorem dJ2_checkIndex_2214a_2 : decode cJ2_checkIndex_2214a 2 = .ok (.invokestatic 48, 3) := by decide +kernel
theorem dJ2_checkIndex_2214a_5 : decode cJ2_checkIndex_2214a 5 = .ok (.invokestatic 414, 3) := by decide +kernel
theorem dJ2_checkIndex_2214a_8 : decode cJ2_checkIndex_2214a 8 = .ok (.return_, 1) := by decide +kernel
theorem dJ3_checkIndex_8e157_0 : decode cJ3_checkIndex_8e157 0 = .ok (.iload_n 0, 1) := by decide +kernel
theorem dJ3_checkIndex_8e157_1 : decode cJ3_checkIndex_8e157 1 = .ok (.ifCond .lt 8, 3) := by decide +kernel
theorem dJ3_checkIndex_8e157_4 : decode cJ3_checkIndex_8e157 4 = .ok (.iload_n 0, 1) := by decide +kernel
theorem dJ3_checkIndex_8e157_5 : decode cJ3_checkIndex_8e157 5 = .ok (.iload_n 1, 1) := by decide +kernel
theorem dJ3_checkIndex_8e157_6 : decode cJ3_checkIndex_8e157 6 = .ok (.if_icmp .lt 10, 3) := by decide +kernel
theorem dJ3_checkIndex_8e157_9 : decode cJ3_checkIndex_8e157 9 = .ok (.aload_n 2, 1) := by decide +kernel
theorem dJ3_checkIndex_8e157_10 : decode cJ3_checkIndex_8e157 10 = .ok (.iload_n 0, 1) := by decide +kernel
theorem dJ3_checkIndex_8e157_11 : decode cJ3_checkIndex_8e157 11 = .ok (.iload_n 1, 1) := by decide +kernel
theorem dJ3_checkIndex_8e157_12 : decode cJ3_checkIndex_8e157 12 = .ok (.invokestatic 95, 3) := by decide +kernel
theorem dJ3_checkIndex_8e157_15 : decode cJ3_checkIndex_8e157 15 = .ok (.athrow, 1) := by decide +kernel
theorem dJ3_checkIndex_8e157_16 : decode cJ3_checkIndex_8e157 16 = .ok (.iload_n 0, 1) := by decide +kernel
theorem dJ3_checkIndex_8e157_17 : decode cJ3_checkIndex_8e157 17 = .ok (.ireturn, 1) := by decide +kernel
theorem dL_doll_0 : decode cL_doll 0 = .ok (.aload_n 3, 1) := by decide +kernel
theorem dL_doll_1 : decode cL_doll 1 = .ok (.iconst 0, 1) := by decide +kernel
theorem dL_doll_2 : decode cL_doll 2 = .ok (.aload_n 0, 1) := by decide +kernel
theorem dL_doll_3 : decode cL_doll 3 = .ok (.iload_n 1, 1) := by decide +kernel
theorem dL_doll_4 : decode cL_doll 4 = .ok (.iload_n 2, 1) := by decide +kernel
theorem dL_doll_5 : decode cL_doll 5 = .ok (.invokevirtual 7, 3) := by decide +kernel
theorem dL_doll_8 : decode cL_doll 8 = .ok (.i2l, 1) := by decide +kernel
theorem dL_doll_9 : decode cL_doll 9 = .ok (.lastore, 1) := by decide +kernel
theorem dL_doll_10 : decode cL_doll 10 = .ok (.goto 11, 3) := by decide +kernel
theorem dL_doll_13 : decode cL_doll 13 = .ok (.astore 4, 2) := by decide +kernel
theorem dL_doll_15 : decode cL_doll 15 = .ok (.iconst 1, 1) := by decide +kernel
theorem dL_doll_16 : decode cL_doll 16 = .ok (.ireturn, 1) := by decide +kernel
theorem dL_doll_17 : decode cL_doll 17 = .ok (.astore 4, 2) := by decide +kernel
theorem dL_doll_19 : decode cL_doll 19 = .ok (.iconst 2, 1) := by decide +kernel
theorem dL_doll_20 : decode cL_doll 20 = .ok (.ireturn, 1) := by decide +kernel
theorem dL_doll_21 : decode cL_doll 21 = .ok (.iconst 0, 1) := by decide +kernel
theorem dL_doll_22 : decode cL_doll 22 = .ok (.ireturn, 1) := by decide +kernel
theorem dL_law_0 : decode cL_law 0 = .ok (.new 8, 3) := by decide +kernel
theorem dL_law_3 : decode cL_law 3 = .ok (.dup, 1) := by decide +kernel
theorem dL_law_4 : decode cL_law 4 = .ok (.invokespecial 17, 3) := by decide +kernel
theorem dL_law_7 : decode cL_law 7 = .ok (.astore_n 1, 1) := by decide +kernel
theorem dL_law_8 : decode cL_law 8 = .ok (.new 18, 3) := by decide +kernel
theorem dL_law_11 : decode cL_law 11 = .ok (.dup, 1) := by decide +kernel
theorem dL_law_12 : decode cL_law 12 = .ok (.invokespecial 20, 3) := by decide +kernel
theorem dL_law_15 : decode cL_law 15 = .ok (.astore_n 2, 1) := by decide +kernel
theorem dL_law_16 : decode cL_law 16 = .ok (.iconst 1, 1) := by decide +kernel
theorem dL_law_17 : decode cL_law 17 = .ok (.newarray .long, 2) := by decide +kernel
theorem dL_law_19 : decode cL_law 19 = .ok (.astore_n 3, 1) := by decide +kernel
theorem dL_law_20 : decode cL_law 20 = .ok (.iconst 0, 1) := by decide +kernel
theorem dL_law_21 : decode cL_law 21 = .ok (.istore 4, 2) := by decide +kernel
theorem dL_law_23 : decode cL_law 23 = .ok (.iload 4, 2) := by decide +kernel
theorem dL_law_25 : decode cL_law 25 = .ok (.aload_n 0, 1) := by decide +kernel
theorem dL_law_26 : decode cL_law 26 = .ok (.arraylength, 1) := by decide +kernel
theorem dL_law_27 : decode cL_law 27 = .ok (.bipush 6, 2) := by decide +kernel
theorem dL_law_29 : decode cL_law 29 = .ok (.isub, 1) := by decide +kernel
theorem dL_law_30 : decode cL_law 30 = .ok (.if_icmp .gt 1476, 3) := by decide +kernel
theorem dL_law_33 : decode cL_law 33 = .ok (.aload_n 0, 1) := by decide +kernel
theorem dL_law_34 : decode cL_law 34 = .ok (.iload 4, 2) := by decide +kernel
theorem dL_law_36 : decode cL_law 36 = .ok (.iaload, 1) := by decide +kernel
theorem dL_law_37 : decode cL_law 37 = .ok (.bipush 63, 2) := by decide +kernel
theorem dL_law_39 : decode cL_law 39 = .ok (.iand, 1) := by decide +kernel
theorem dL_law_40 : decode cL_law 40 = .ok (.tableswitch 1460 0 38 #[172, 245, 270, 295, 332, 400, 437, 474, 499, 537, 562, 599, 636, 661, 686, 735, 748, 761, 810, 847, 896, 909, 934, 984, 1033, 1046, 1059, 1096, 1121, 1146, 1223, 1248, 1273, 1298, 1347, 1396, 1409, 1422, 1435], 172) := by decide +kernel
theorem dL_law_212 : decode cL_law 212 = .ok (.aload_n 1, 1) := by decide +kernel
theorem dL_law_213 : decode cL_law 213 = .ok (.aload_n 0, 1) := by decide +kernel
theorem dL_law_214 : decode cL_law 214 = .ok (.iload 4, 2) := by decide +kernel
theorem dL_law_216 : decode cL_law 216 = .ok (.iconst 1, 1) := by decide +kernel
theorem dL_law_217 : decode cL_law 217 = .ok (.iadd, 1) := by decide +kernel
theorem dL_law_218 : decode cL_law 218 = .ok (.iaload, 1) := by decide +kernel
theorem dL_law_219 : decode cL_law 219 = .ok (.aload_n 0, 1) := by decide +kernel
theorem dL_law_220 : decode cL_law 220 = .ok (.iload 4, 2) := by decide +kernel
theorem dL_law_222 : decode cL_law 222 = .ok (.iconst 2, 1) := by decide +kernel
theorem dL_law_223 : decode cL_law 223 = .ok (.iadd, 1) := by decide +kernel
theorem dL_law_224 : decode cL_law 224 = .ok (.iaload, 1) := by decide +kernel
theorem dL_law_225 : decode cL_law 225 = .ok (.aload_n 0, 1) := by decide +kernel
theorem dL_law_226 : decode cL_law 226 = .ok (.iload 4, 2) := by decide +kernel
theorem dL_law_228 : decode cL_law 228 = .ok (.iconst 3, 1) := by decide +kernel
theorem dL_law_229 : decode cL_law 229 = .ok (.iadd, 1) := by decide +kernel
theorem dL_law_230 : decode cL_law 230 = .ok (.iaload, 1) := by decide +kernel
theorem dL_law_231 : decode cL_law 231 = .ok (.aload_n 0, 1) := by decide +kernel
theorem dL_law_232 : decode cL_law 232 = .ok (.iload 4, 2) := by decide +kernel
theorem dL_law_234 : decode cL_law 234 = .ok (.iconst 4, 1) := by decide +kernel
theorem dL_law_235 : decode cL_law 235 = .ok (.iadd, 1) := by decide +kernel
theorem dL_law_236 : decode cL_law 236 = .ok (.iaload, 1) := by decide +kernel
theorem dL_law_237 : decode cL_law 237 = .ok (.aload_n 0, 1) := by decide +kernel
theorem dL_law_238 : decode cL_law 238 = .ok (.iload 4, 2) := by decide +kernel
theorem dL_law_240 : decode cL_law 240 = .ok (.iconst 5, 1) := by decide +kernel
theorem dL_law_241 : decode cL_law 241 = .ok (.iadd, 1) := by decide +kernel
theorem dL_law_242 : decode cL_law 242 = .ok (.iaload, 1) := by decide +kernel
theorem dL_law_243 : decode cL_law 243 = .ok (.invokevirtual 21, 3) := by decide +kernel
theorem dL_law_246 : decode cL_law 246 = .ok (.aload_n 2, 1) := by decide +kernel
theorem dL_law_247 : decode cL_law 247 = .ok (.aload_n 0, 1) := by decide +kernel
theorem dL_law_248 : decode cL_law 248 = .ok (.iload 4, 2) := by decide +kernel
theorem dL_law_250 : decode cL_law 250 = .ok (.iconst 1, 1) := by decide +kernel
theorem dL_law_251 : decode cL_law 251 = .ok (.iadd, 1) := by decide +kernel
theorem dL_law_252 : decode cL_law 252 = .ok (.iaload, 1) := by decide +kernel
theorem dL_law_253 : decode cL_law 253 = .ok (.aload_n 0, 1) := by decide +kernel
theorem dL_law_254 : decode cL_law 254 = .ok (.iload 4, 2) := by decide +kernel
theorem dL_law_256 : decode cL_law 256 = .ok (.iconst 2, 1) := by decide +kernel
theorem dL_law_257 : decode cL_law 257 = .ok (.iadd, 1) := by decide +kernel
theorem dL_law_258 : decode cL_law 258 = .ok (.iaload, 1) := by decide +kernel
theorem dL_law_259 : decode cL_law 259 = .ok (.aload_n 0, 1) := by decide +kernel
theorem dL_law_260 : decode cL_law 260 = .ok (.iload 4, 2) := by decide +kernel
theorem dL_law_262 : decode cL_law 262 = .ok (.iconst 3, 1) := by decide +kernel
theorem dL_law_263 : decode cL_law 263 = .ok (.iadd, 1) := by decide +kernel
theorem dL_law_264 : decode cL_law 264 = .ok (.iaload, 1) := by decide +kernel
theorem dL_law_265 : decode cL_law 265 = .ok (.aload_n 0, 1) := by decide +kernel
theorem dL_law_266 : decode cL_law 266 = .ok (.iload 4, 2) := by decide +kernel
theorem dL_law_268 : decode cL_law 268 = .ok (.iconst 4, 1) := by decide +kernel
theorem dL_law_269 : decode cL_law 269 = .ok (.iadd, 1) := by decide +kernel
theorem dL_law_270 : decode cL_law 270 = .ok (.iaload, 1) := by decide +kernel
theorem dL_law_271 : decode cL_law 271 = .ok (.aload_n 0, 1) := by decide +kernel
theorem dL_law_272 : decode cL_law 272 = .ok (.iload 4, 2) := by decide +kernel
theorem dL_law_274 : decode cL_law 274 = .ok (.iconst 5, 1) := by decide +kernel
theorem dL_law_275 : decode cL_law 275 = .ok (.iadd, 1) := by decide +kernel
theorem dL_law_276 : decode cL_law 276 = .ok (.iaload, 1) := by decide +kernel
theorem dL_law_277 : decode cL_law 277 = .ok (.invokevirtual 25, 3) := by decide +kernel
theorem dL_law_280 : decode cL_law 280 = .ok (.if_icmp .eq 1220, 3) := by decide +kernel
theorem dL_law_283 : decode cL_law 283 = .ok (.iconst 0, 1) := by decide +kernel
theorem dL_law_284 : decode cL_law 284 = .ok (.ireturn, 1) := by decide +kernel
theorem dL_law_285 : decode cL_law 285 = .ok (.aload_n 1, 1) := by decide +kernel
theorem dL_law_286 : decode cL_law 286 = .ok (.aload_n 0, 1) := by decide +kernel
theorem dL_law_287 : decode cL_law 287 = .ok (.iload 4, 2) := by decide +kernel
theorem dL_law_289 : decode cL_law 289 = .ok (.iconst 1, 1) := by decide +kernel
theorem dL_law_290 : decode cL_law 290 = .ok (.iadd, 1) := by decide +kernel
theorem dL_law_291 : decode cL_law 291 = .ok (.iaload, 1) := by decide +kernel
theorem dL_law_292 : decode cL_law 292 = .ok (.invokevirtual 26, 3) := by decide +kernel
theorem dL_law_295 : decode cL_law 295 = .ok (.aload_n 2, 1) := by decide +kernel
theorem dL_law_296 : decode cL_law 296 = .ok (.aload_n 0, 1) := by decide +kernel
theorem dL_law_297 : decode cL_law 297 = .ok (.iload 4, 2) := by decide +kernel
theorem dL_law_299 : decode cL_law 299 = .ok (.iconst 1, 1) := by decide +kernel
theorem dL_law_300 : decode cL_law 300 = .ok (.iadd, 1) := by decide +kernel
theorem dL_law_301 : decode cL_law 301 = .ok (.iaload, 1) := by decide +kernel
theorem dL_law_302 : decode cL_law 302 = .ok (.invokevirtual 30, 3) := by decide +kernel
theorem dL_law_305 : decode cL_law 305 = .ok (.if_icmp .eq 1195, 3) := by decide +kernel
theorem dL_law_308 : decode cL_law 308 = .ok (.iconst 0, 1) := by decide +kernel
theorem dL_law_309 : decode cL_law 309 = .ok (.ireturn, 1) := by decide +kernel
theorem dL_law_310 : decode cL_law 310 = .ok (.aload_n 1, 1) := by decide +kernel
theorem dL_law_311 : decode cL_law 311 = .ok (.aload_n 0, 1) := by decide +kernel
theorem dL_law_312 : decode cL_law 312 = .ok (.iload 4, 2) := by decide +kernel
theorem dL_law_314 : decode cL_law 314 = .ok (.iconst 1, 1) := by decide +kernel
theorem dL_law_315 : decode cL_law 315 = .ok (.iadd, 1) := by decide +kernel
theorem dL_law_316 : decode cL_law 316 = .ok (.iaload, 1) := by decide +kernel
theorem dL_law_317 : decode cL_law 317 = .ok (.invokevirtual 31, 3) := by decide +kernel
theorem dL_law_320 : decode cL_law 320 = .ok (.aload_n 2, 1) := by decide +kernel
theorem dL_law_321 : decode cL_law 321 = .ok (.aload_n 0, 1) := by decide +kernel
theorem dL_law_322 : decode cL_law 322 = .ok (.iload 4, 2) := by decide +kernel
theorem dL_law_324 : decode cL_law 324 = .ok (.iconst 1, 1) := by decide +kernel
theorem dL_law_325 : decode cL_law 325 = .ok (.iadd, 1) := by decide +kernel
theorem dL_law_326 : decode cL_law 326 = .ok (.iaload, 1) := by decide +kernel
theorem dL_law_327 : decode cL_law 327 = .ok (.invokevirtual 34, 3) := by decide +kernel
theorem dL_law_330 : decode cL_law 330 = .ok (.if_icmp .eq 1170, 3) := by decide +kernel
theorem dL_law_333 : decode cL_law 333 = .ok (.iconst 0, 1) := by decide +kernel
theorem dL_law_334 : decode cL_law 334 = .ok (.ireturn, 1) := by decide +kernel
theorem dL_law_335 : decode cL_law 335 = .ok (.aload_n 1, 1) := by decide +kernel
theorem dL_law_336 : decode cL_law 336 = .ok (.aload_n 0, 1) := by decide +kernel
theorem dL_law_337 : decode cL_law 337 = .ok (.iload 4, 2) := by decide +kernel
theorem dL_law_339 : decode cL_law 339 = .ok (.iconst 1, 1) := by decide +kernel
theorem dL_law_340 : decode cL_law 340 = .ok (.iadd, 1) := by decide +kernel
theorem dL_law_341 : decode cL_law 341 = .ok (.iaload, 1) := by decide +kernel
theorem dL_law_342 : decode cL_law 342 = .ok (.aload_n 0, 1) := by decide +kernel
theorem dL_law_343 : decode cL_law 343 = .ok (.iload 4, 2) := by decide +kernel
theorem dL_law_345 : decode cL_law 345 = .ok (.iconst 2, 1) := by decide +kernel
theorem dL_law_346 : decode cL_law 346 = .ok (.iadd, 1) := by decide +kernel
theorem dL_law_347 : decode cL_law 347 = .ok (.iaload, 1) := by decide +kernel
theorem dL_law_348 : decode cL_law 348 = .ok (.invokevirtual 35, 3) := by decide +kernel
theorem dL_law_351 : decode cL_law 351 = .ok (.aload_n 2, 1) := by decide +kernel
theorem dL_law_352 : decode cL_law 352 = .ok (.aload_n 0, 1) := by decide +kernel
theorem dL_law_353 : decode cL_law 353 = .ok (.iload 4, 2) := by decide +kernel
theorem dL_law_355 : decode cL_law 355 = .ok (.iconst 1, 1) := by decide +kernel
theorem dL_law_356 : decode cL_law 356 = .ok (.iadd, 1) := by decide +kernel
theorem dL_law_357 : decode cL_law 357 = .ok (.iaload, 1) := by decide +kernel
theorem dL_law_358 : decode cL_law 358 = .ok (.aload_n 0, 1) := by decide +kernel
theorem dL_law_359 : decode cL_law 359 = .ok (.iload 4, 2) := by decide +kernel
theorem dL_law_361 : decode cL_law 361 = .ok (.iconst 2, 1) := by decide +kernel
theorem dL_law_362 : decode cL_law 362 = .ok (.iadd, 1) := by decide +kernel
theorem dL_law_363 : decode cL_law 363 = .ok (.iaload, 1) := by decide +kernel
theorem dL_law_364 : decode cL_law 364 = .ok (.invokevirtual 38, 3) := by decide +kernel
theorem dL_law_367 : decode cL_law 367 = .ok (.if_icmp .eq 1133, 3) := by decide +kernel
theorem dL_law_370 : decode cL_law 370 = .ok (.iconst 0, 1) := by decide +kernel
theorem dL_law_371 : decode cL_law 371 = .ok (.ireturn, 1) := by decide +kernel
theorem dL_law_372 : decode cL_law 372 = .ok (.aload_n 1, 1) := by decide +kernel
theorem dL_law_373 : decode cL_law 373 = .ok (.aload_n 0, 1) := by decide +kernel
theorem dL_law_374 : decode cL_law 374 = .ok (.iload 4, 2) := by decide +kernel
theorem dL_law_376 : decode cL_law 376 = .ok (.iconst 1, 1) := by decide +kernel
theorem dL_law_377 : decode cL_law 377 = .ok (.iadd, 1) := by decide +kernel
theorem dL_law_378 : decode cL_law 378 = .ok (.iaload, 1) := by decide +kernel
theorem dL_law_379 : decode cL_law 379 = .ok (.aload_n 0, 1) := by decide +kernel
theorem dL_law_380 : decode cL_law 380 = .ok (.iload 4, 2) := by decide +kernel
theorem dL_law_382 : decode cL_law 382 = .ok (.iconst 2, 1) := by decide +kernel
theorem dL_law_383 : decode cL_law 383 = .ok (.iadd, 1) := by decide +kernel
theorem dL_law_384 : decode cL_law 384 = .ok (.iaload, 1) := by decide +kernel
theorem dL_law_385 : decode cL_law 385 = .ok (.aload_n 3, 1) := by decide +kernel
theorem dL_law_386 : decode cL_law 386 = .ok (.invokestatic 39, 3) := by decide +kernel
theorem dL_law_389 : decode cL_law 389 = .ok (.istore 5, 2) := by decide +kernel
theorem dL_law_391 : decode cL_law 391 = .ok (.aload_n 2, 1) := by decide +kernel
theorem dL_law_392 : decode cL_law 392 = .ok (.aload_n 0, 1) := by decide +kernel
theorem dL_law_393 : decode cL_law 393 = .ok (.iload 4, 2) := by decide +kernel
theorem dL_law_395 : decode cL_law 395 = .ok (.iconst 1, 1) := by decide +kernel
theorem dL_law_396 : decode cL_law 396 = .ok (.iadd, 1) := by decide +kernel
theorem dL_law_397 : decode cL_law 397 = .ok (.iaload, 1) := by decide +kernel
theorem dL_law_398 : decode cL_law 398 = .ok (.aload_n 0, 1) := by decide +kernel
theorem dL_law_399 : decode cL_law 399 = .ok (.iload 4, 2) := by decide +kernel
theorem dL_law_401 : decode cL_law 401 = .ok (.iconst 2, 1) := by decide +kernel
theorem dL_law_402 : decode cL_law 402 = .ok (.iadd, 1) := by decide +kernel
theorem dL_law_403 : decode cL_law 403 = .ok (.iaload, 1) := by decide +kernel
theorem dL_law_404 : decode cL_law 404 = .ok (.invokevirtual 44, 3) := by decide +kernel
theorem dL_law_407 : decode cL_law 407 = .ok (.istore 6, 2) := by decide +kernel
theorem dL_law_409 : decode cL_law 409 = .ok (.aload_n 2, 1) := by decide +kernel
theorem dL_law_410 : decode cL_law 410 = .ok (.invokevirtual 45, 3) := by decide +kernel
theorem dL_law_413 : decode cL_law 413 = .ok (.iload 5, 2) := by decide +kernel
theorem dL_law_415 : decode cL_law 415 = .ok (.if_icmp .eq 5, 3) := by decide +kernel
theorem dL_law_418 : decode cL_law 418 = .ok (.iconst 0, 1) := by decide +kernel
theorem dL_law_419 : decode cL_law 419 = .ok (.ireturn, 1) := by decide +kernel
theorem dL_law_420 : decode cL_law 420 = .ok (.iload 5, 2) := by decide +kernel
theorem dL_law_422 : decode cL_law 422 = .ok (.ifCond .ne 15, 3) := by decide +kernel
theorem dL_law_425 : decode cL_law 425 = .ok (.aload_n 3, 1) := by decide +kernel
theorem dL_law_426 : decode cL_law 426 = .ok (.iconst 0, 1) := by decide +kernel
theorem dL_law_427 : decode cL_law 427 = .ok (.laload, 1) := by decide +kernel
theorem dL_law_428 : decode cL_law 428 = .ok (.iload 6, 2) := by decide +kernel
theorem dL_law_430 : decode cL_law 430 = .ok (.i2l, 1) := by decide +kernel
theorem dL_law_431 : decode cL_law 431 = .ok (.lcmp, 1) := by decide +kernel
theorem dL_law_432 : decode cL_law 432 = .ok (.ifCond .eq 5, 3) := by decide +kernel
theorem dL_law_435 : decode cL_law 435 = .ok (.iconst 0, 1) := by decide +kernel
theorem dL_law_436 : decode cL_law 436 = .ok (.ireturn, 1) := by decide +kernel
theorem dL_law_437 : decode cL_law 437 = .ok (.goto 1063, 3) := by decide +kernel
theorem dL_law_440 : decode cL_law 440 = .ok (.aload_n 1, 1) := by decide +kernel
theorem dL_law_441 : decode cL_law 441 = .ok (.aload_n 0, 1) := by decide +kernel
theorem dL_law_442 : decode cL_law 442 = .ok (.iload 4, 2) := by decide +kernel
theorem dL_law_444 : decode cL_law 444 = .ok (.iconst 1, 1) := by decide +kernel
theorem dL_law_445 : decode cL_law 445 = .ok (.iadd, 1) := by decide +kernel
theorem dL_law_446 : decode cL_law 446 = .ok (.iaload, 1) := by decide +kernel
theorem dL_law_447 : decode cL_law 447 = .ok (.aload_n 0, 1) := by decide +kernel
theorem dL_law_448 : decode cL_law 448 = .ok (.iload 4, 2) := by decide +kernel
theorem dL_law_450 : decode cL_law 450 = .ok (.iconst 2, 1) := by decide +kernel
theorem dL_law_451 : decode cL_law 451 = .ok (.iadd, 1) := by decide +kernel
theorem dL_law_452 : decode cL_law 452 = .ok (.iaload, 1) := by decide +kernel
theorem dL_law_453 : decode cL_law 453 = .ok (.invokevirtual 49, 3) := by decide +kernel
theorem dL_law_456 : decode cL_law 456 = .ok (.aload_n 2, 1) := by decide +kernel
theorem dL_law_457 : decode cL_law 457 = .ok (.aload_n 0, 1) := by decide +kernel
theorem dL_law_458 : decode cL_law 458 = .ok (.iload 4, 2) := by decide +kernel
theorem dL_law_460 : decode cL_law 460 = .ok (.iconst 1, 1) := by decide +kernel
theorem dL_law_461 : decode cL_law 461 = .ok (.iadd, 1) := by decide +kernel
theorem dL_law_462 : decode cL_law 462 = .ok (.iaload, 1) := by decide +kernel
theorem dL_law_463 : decode cL_law 463 = .ok (.aload_n 0, 1) := by decide +kernel
theorem dL_law_464 : decode cL_law 464 = .ok (.iload 4, 2) := by decide +kernel
theorem dL_law_466 : decode cL_law 466 = .ok (.iconst 2, 1) := by decide +kernel
theorem dL_law_467 : decode cL_law 467 = .ok (.iadd, 1) := by decide +kernel
theorem dL_law_468 : decode cL_law 468 = .ok (.iaload, 1) := by decide +kernel
theorem dL_law_469 : decode cL_law 469 = .ok (.invokevirtual 52, 3) := by decide +kernel
theorem dL_law_472 : decode cL_law 472 = .ok (.if_icmp .eq 1028, 3) := by decide +kernel
theorem dL_law_475 : decode cL_law 475 = .ok (.iconst 0, 1) := by decide +kernel
theorem dL_law_476 : decode cL_law 476 = .ok (.ireturn, 1) := by decide +kernel
theorem dL_law_477 : decode cL_law 477 = .ok (.aload_n 1, 1) := by decide +kernel
theorem dL_law_478 : decode cL_law 478 = .ok (.aload_n 0, 1) := by decide +kernel
theorem dL_law_479 : decode cL_law 479 = .ok (.iload 4, 2) := by decide +kernel
theorem dL_law_481 : decode cL_law 481 = .ok (.iconst 1, 1) := by decide +kernel
theorem dL_law_482 : decode cL_law 482 = .ok (.iadd, 1) := by decide +kernel
theorem dL_law_483 : decode cL_law 483 = .ok (.iaload, 1) := by decide +kernel
theorem dL_law_484 : decode cL_law 484 = .ok (.aload_n 0, 1) := by decide +kernel
theorem dL_law_485 : decode cL_law 485 = .ok (.iload 4, 2) := by decide +kernel
theorem dL_law_487 : decode cL_law 487 = .ok (.iconst 2, 1) := by decide +kernel
theorem dL_law_488 : decode cL_law 488 = .ok (.iadd, 1) := by decide +kernel
theorem dL_law_489 : decode cL_law 489 = .ok (.iaload, 1) := by decide +kernel
theorem dL_law_490 : decode cL_law 490 = .ok (.invokevirtual 53, 3) := by decide +kernel
theorem dL_law_493 : decode cL_law 493 = .ok (.aload_n 2, 1) := by decide +kernel
theorem dL_law_494 : decode cL_law 494 = .ok (.aload_n 0, 1) := by decide +kernel
theorem dL_law_495 : decode cL_law 495 = .ok (.iload 4, 2) := by decide +kernel
theorem dL_law_497 : decode cL_law 497 = .ok (.iconst 1, 1) := by decide +kernel
theorem dL_law_498 : decode cL_law 498 = .ok (.iadd, 1) := by decide +kernel
theorem dL_law_499 : decode cL_law 499 = .ok (.iaload, 1) := by decide +kernel
theorem dL_law_500 : decode cL_law 500 = .ok (.aload_n 0, 1) := by decide +kernel
theorem dL_law_501 : decode cL_law 501 = .ok (.iload 4, 2) := by decide +kernel
theorem dL_law_503 : decode cL_law 503 = .ok (.iconst 2, 1) := by decide +kernel
theorem dL_law_504 : decode cL_law 504 = .ok (.iadd, 1) := by decide +kernel
theorem dL_law_505 : decode cL_law 505 = .ok (.iaload, 1) := by decide +kernel
theorem dL_law_506 : decode cL_law 506 = .ok (.invokevirtual 56, 3) := by decide +kernel
theorem dL_law_509 : decode cL_law 509 = .ok (.if_icmp .eq 991, 3) := by decide +kernel
theorem dL_law_512 : decode cL_law 512 = .ok (.iconst 0, 1) := by decide +kernel
theorem dL_law_513 : decode cL_law 513 = .ok (.ireturn, 1) := by decide +kernel
theorem dL_law_514 : decode cL_law 514 = .ok (.aload_n 1, 1) := by decide +kernel
theorem dL_law_515 : decode cL_law 515 = .ok (.aload_n 0, 1) := by decide +kernel
theorem dL_law_516 : decode cL_law 516 = .ok (.iload 4, 2) := by decide +kernel
theorem dL_law_518 : decode cL_law 518 = .ok (.iconst 1, 1) := by decide +kernel
theorem dL_law_519 : decode cL_law 519 = .ok (.iadd, 1) := by decide +kernel
theorem dL_law_520 : decode cL_law 520 = .ok (.iaload, 1) := by decide +kernel
theorem dL_law_521 : decode cL_law 521 = .ok (.invokevirtual 57, 3) := by decide +kernel
theorem dL_law_524 : decode cL_law 524 = .ok (.aload_n 2, 1) := by decide +kernel
theorem dL_law_525 : decode cL_law 525 = .ok (.aload_n 0, 1) := by decide +kernel
theorem dL_law_526 : decode cL_law 526 = .ok (.iload 4, 2) := by decide +kernel
theorem dL_law_528 : decode cL_law 528 = .ok (.iconst 1, 1) := by decide +kernel
theorem dL_law_529 : decode cL_law 529 = .ok (.iadd, 1) := by decide +kernel
theorem dL_law_530 : decode cL_law 530 = .ok (.iaload, 1) := by decide +kernel
theorem dL_law_531 : decode cL_law 531 = .ok (.invokevirtual 60, 3) := by decide +kernel
theorem dL_law_534 : decode cL_law 534 = .ok (.if_icmp .eq 966, 3) := by decide +kernel
theorem dL_law_537 : decode cL_law 537 = .ok (.iconst 0, 1) := by decide +kernel
theorem dL_law_538 : decode cL_law 538 = .ok (.ireturn, 1) := by decide +kernel
theorem dL_law_539 : decode cL_law 539 = .ok (.aload_n 1, 1) := by decide +kernel
theorem dL_law_540 : decode cL_law 540 = .ok (.aload_n 0, 1) := by decide +kernel
theorem dL_law_541 : decode cL_law 541 = .ok (.iload 4, 2) := by decide +kernel
theorem dL_law_543 : decode cL_law 543 = .ok (.iconst 1, 1) := by decide +kernel
theorem dL_law_544 : decode cL_law 544 = .ok (.iadd, 1) := by decide +kernel
theorem dL_law_545 : decode cL_law 545 = .ok (.iaload, 1) := by decide +kernel
theorem dL_law_546 : decode cL_law 546 = .ok (.aload_n 0, 1) := by decide +kernel
theorem dL_law_547 : decode cL_law 547 = .ok (.iload 4, 2) := by decide +kernel
theorem dL_law_549 : decode cL_law 549 = .ok (.iconst 2, 1) := by decide +kernel
theorem dL_law_550 : decode cL_law 550 = .ok (.iadd, 1) := by decide +kernel
theorem dL_law_551 : decode cL_law 551 = .ok (.iaload, 1) := by decide +kernel
theorem dL_law_552 : decode cL_law 552 = .ok (.invokevirtual 61, 3) := by decide +kernel
theorem dL_law_555 : decode cL_law 555 = .ok (.aload_n 2, 1) := by decide +kernel
theorem dL_law_556 : decode cL_law 556 = .ok (.aload_n 0, 1) := by decide +kernel
theorem dL_law_557 : decode cL_law 557 = .ok (.iload 4, 2) := by decide +kernel
theorem dL_law_559 : decode cL_law 559 = .ok (.iconst 1, 1) := by decide +kernel
theorem dL_law_560 : decode cL_law 560 = .ok (.iadd, 1) := by decide +kernel
theorem dL_law_561 : decode cL_law 561 = .ok (.iaload, 1) := by decide +kernel
theorem dL_law_562 : decode cL_law 562 = .ok (.aload_n 0, 1) := by decide +kernel
theorem dL_law_563 : decode cL_law 563 = .ok (.iload 4, 2) := by decide +kernel
theorem dL_law_565 : decode cL_law 565 = .ok (.iconst 2, 1) := by decide +kernel
theorem dL_law_566 : decode cL_law 566 = .ok (.iadd, 1) := by decide +kernel
theorem dL_law_567 : decode cL_law 567 = .ok (.iaload, 1) := by decide +kernel
theorem dL_law_568 : decode cL_law 568 = .ok (.invokevirtual 65, 3) := by decide +kernel
theorem dL_law_571 : decode cL_law 571 = .ok (.lcmp, 1) := by decide +kernel
theorem dL_law_572 : decode cL_law 572 = .ok (.ifCond .eq 928, 3) := by decide +kernel
theorem dL_law_575 : decode cL_law 575 = .ok (.iconst 0, 1) := by decide +kernel
theorem dL_law_576 : decode cL_law 576 = .ok (.ireturn, 1) := by decide +kernel
theorem dL_law_577 : decode cL_law 577 = .ok (.aload_n 1, 1) := by decide +kernel
theorem dL_law_578 : decode cL_law 578 = .ok (.aload_n 0, 1) := by decide +kernel
theorem dL_law_579 : decode cL_law 579 = .ok (.iload 4, 2) := by decide +kernel
theorem dL_law_581 : decode cL_law 581 = .ok (.iconst 1, 1) := by decide +kernel
theorem dL_law_582 : decode cL_law 582 = .ok (.iadd, 1) := by decide +kernel
theorem dL_law_583 : decode cL_law 583 = .ok (.iaload, 1) := by decide +kernel
theorem dL_law_584 : decode cL_law 584 = .ok (.invokevirtual 66, 3) := by decide +kernel
theorem dL_law_587 : decode cL_law 587 = .ok (.aload_n 2, 1) := by decide +kernel
theorem dL_law_588 : decode cL_law 588 = .ok (.aload_n 0, 1) := by decide +kernel
theorem dL_law_589 : decode cL_law 589 = .ok (.iload 4, 2) := by decide +kernel
theorem dL_law_591 : decode cL_law 591 = .ok (.iconst 1, 1) := by decide +kernel
theorem dL_law_592 : decode cL_law 592 = .ok (.iadd, 1) := by decide +kernel
theorem dL_law_593 : decode cL_law 593 = .ok (.iaload, 1) := by decide +kernel
theorem dL_law_594 : decode cL_law 594 = .ok (.invokevirtual 69, 3) := by decide +kernel
theorem dL_law_597 : decode cL_law 597 = .ok (.if_icmp .eq 903, 3) := by decide +kernel
theorem dL_law_600 : decode cL_law 600 = .ok (.iconst 0, 1) := by decide +kernel
theorem dL_law_601 : decode cL_law 601 = .ok (.ireturn, 1) := by decide +kernel
theorem dL_law_602 : decode cL_law 602 = .ok (.aload_n 1, 1) := by decide +kernel
theorem dL_law_603 : decode cL_law 603 = .ok (.aload_n 0, 1) := by decide +kernel
theorem dL_law_604 : decode cL_law 604 = .ok (.iload 4, 2) := by decide +kernel
theorem dL_law_606 : decode cL_law 606 = .ok (.iconst 1, 1) := by decide +kernel
theorem dL_law_607 : decode cL_law 607 = .ok (.iadd, 1) := by decide +kernel
theorem dL_law_608 : decode cL_law 608 = .ok (.iaload, 1) := by decide +kernel
theorem dL_law_609 : decode cL_law 609 = .ok (.aload_n 0, 1) := by decide +kernel
theorem dL_law_610 : decode cL_law 610 = .ok (.iload 4, 2) := by decide +kernel
theorem dL_law_612 : decode cL_law 612 = .ok (.iconst 2, 1) := by decide +kernel
theorem dL_law_613 : decode cL_law 613 = .ok (.iadd, 1) := by decide +kernel
theorem dL_law_614 : decode cL_law 614 = .ok (.iaload, 1) := by decide +kernel
theorem dL_law_615 : decode cL_law 615 = .ok (.invokevirtual 70, 3) := by decide +kernel
theorem dL_law_618 : decode cL_law 618 = .ok (.aload_n 2, 1) := by decide +kernel
theorem dL_law_619 : decode cL_law 619 = .ok (.aload_n 0, 1) := by decide +kernel
theorem dL_law_620 : decode cL_law 620 = .ok (.iload 4, 2) := by decide +kernel
theorem dL_law_622 : decode cL_law 622 = .ok (.iconst 1, 1) := by decide +kernel
theorem dL_law_623 : decode cL_law 623 = .ok (.iadd, 1) := by decide +kernel
theorem dL_law_624 : decode cL_law 624 = .ok (.iaload, 1) := by decide +kernel
theorem dL_law_625 : decode cL_law 625 = .ok (.aload_n 0, 1) := by decide +kernel
theorem dL_law_626 : decode cL_law 626 = .ok (.iload 4, 2) := by decide +kernel
theorem dL_law_628 : decode cL_law 628 = .ok (.iconst 2, 1) := by decide +kernel
theorem dL_law_629 : decode cL_law 629 = .ok (.iadd, 1) := by decide +kernel
theorem dL_law_630 : decode cL_law 630 = .ok (.iaload, 1) := by decide +kernel
theorem dL_law_631 : decode cL_law 631 = .ok (.invokevirtual 74, 3) := by decide +kernel
theorem dL_law_634 : decode cL_law 634 = .ok (.if_icmp .eq 866, 3) := by decide +kernel
theorem dL_law_637 : decode cL_law 637 = .ok (.iconst 0, 1) := by decide +kernel
theorem dL_law_638 : decode cL_law 638 = .ok (.ireturn, 1) := by decide +kernel
theorem dL_law_639 : decode cL_law 639 = .ok (.aload_n 1, 1) := by decide +kernel
theorem dL_law_640 : decode cL_law 640 = .ok (.aload_n 0, 1) := by decide +kernel
theorem dL_law_641 : decode cL_law 641 = .ok (.iload 4, 2) := by decide +kernel
theorem dL_law_643 : decode cL_law 643 = .ok (.iconst 1, 1) := by decide +kernel
theorem dL_law_644 : decode cL_law 644 = .ok (.iadd, 1) := by decide +kernel
theorem dL_law_645 : decode cL_law 645 = .ok (.iaload, 1) := by decide +kernel
theorem dL_law_646 : decode cL_law 646 = .ok (.aload_n 0, 1) := by decide +kernel
theorem dL_law_647 : decode cL_law 647 = .ok (.iload 4, 2) := by decide +kernel
theorem dL_law_649 : decode cL_law 649 = .ok (.iconst 2, 1) := by decide +kernel
theorem dL_law_650 : decode cL_law 650 = .ok (.iadd, 1) := by decide +kernel
theorem dL_law_651 : decode cL_law 651 = .ok (.iaload, 1) := by decide +kernel
theorem dL_law_652 : decode cL_law 652 = .ok (.invokevirtual 75, 3) := by decide +kernel
theorem dL_law_655 : decode cL_law 655 = .ok (.aload_n 2, 1) := by decide +kernel
theorem dL_law_656 : decode cL_law 656 = .ok (.aload_n 0, 1) := by decide +kernel
theorem dL_law_657 : decode cL_law 657 = .ok (.iload 4, 2) := by decide +kernel
theorem dL_law_659 : decode cL_law 659 = .ok (.iconst 1, 1) := by decide +kernel
theorem dL_law_660 : decode cL_law 660 = .ok (.iadd, 1) := by decide +kernel
theorem dL_law_661 : decode cL_law 661 = .ok (.iaload, 1) := by decide +kernel
theorem dL_law_662 : decode cL_law 662 = .ok (.aload_n 0, 1) := by decide +kernel
theorem dL_law_663 : decode cL_law 663 = .ok (.iload 4, 2) := by decide +kernel
theorem dL_law_665 : decode cL_law 665 = .ok (.iconst 2, 1) := by decide +kernel
theorem dL_law_666 : decode cL_law 666 = .ok (.iadd, 1) := by decide +kernel
theorem dL_law_667 : decode cL_law 667 = .ok (.iaload, 1) := by decide +kernel
theorem dL_law_668 : decode cL_law 668 = .ok (.invokevirtual 78, 3) := by decide +kernel
theorem dL_law_671 : decode cL_law 671 = .ok (.if_icmp .eq 829, 3) := by decide +kernel
theorem dL_law_674 : decode cL_law 674 = .ok (.iconst 0, 1) := by decide +kernel
theorem dL_law_675 : decode cL_law 675 = .ok (.ireturn, 1) := by decide +kernel
theorem dL_law_676 : decode cL_law 676 = .ok (.aload_n 1, 1) := by decide +kernel
theorem dL_law_677 : decode cL_law 677 = .ok (.aload_n 0, 1) := by decide +kernel
theorem dL_law_678 : decode cL_law 678 = .ok (.iload 4, 2) := by decide +kernel
theorem dL_law_680 : decode cL_law 680 = .ok (.iconst 1, 1) := by decide +kernel
theorem dL_law_681 : decode cL_law 681 = .ok (.iadd, 1) := by decide +kernel
theorem dL_law_682 : decode cL_law 682 = .ok (.iaload, 1) := by decide +kernel
theorem dL_law_683 : decode cL_law 683 = .ok (.invokevirtual 79, 3) := by decide +kernel
theorem dL_law_686 : decode cL_law 686 = .ok (.aload_n 2, 1) := by decide +kernel
theorem dL_law_687 : decode cL_law 687 = .ok (.aload_n 0, 1) := by decide +kernel
theorem dL_law_688 : decode cL_law 688 = .ok (.iload 4, 2) := by decide +kernel
theorem dL_law_690 : decode cL_law 690 = .ok (.iconst 1, 1) := by decide +kernel
theorem dL_law_691 : decode cL_law 691 = .ok (.iadd, 1) := by decide +kernel
theorem dL_law_692 : decode cL_law 692 = .ok (.iaload, 1) := by decide +kernel
theorem dL_law_693 : decode cL_law 693 = .ok (.invokevirtual 82, 3) := by decide +kernel
theorem dL_law_696 : decode cL_law 696 = .ok (.if_icmp .eq 804, 3) := by decide +kernel
theorem dL_law_699 : decode cL_law 699 = .ok (.iconst 0, 1) := by decide +kernel
theorem dL_law_700 : decode cL_law 700 = .ok (.ireturn, 1) := by decide +kernel
theorem dL_law_701 : decode cL_law 701 = .ok (.aload_n 1, 1) := by decide +kernel
theorem dL_law_702 : decode cL_law 702 = .ok (.aload_n 0, 1) := by decide +kernel
theorem dL_law_703 : decode cL_law 703 = .ok (.iload 4, 2) := by decide +kernel
theorem dL_law_705 : decode cL_law 705 = .ok (.iconst 1, 1) := by decide +kernel
theorem dL_law_706 : decode cL_law 706 = .ok (.iadd, 1) := by decide +kernel
theorem dL_law_707 : decode cL_law 707 = .ok (.iaload, 1) := by decide +kernel
theorem dL_law_708 : decode cL_law 708 = .ok (.invokevirtual 83, 3) := by decide +kernel
theorem dL_law_711 : decode cL_law 711 = .ok (.aload_n 2, 1) := by decide +kernel
theorem dL_law_712 : decode cL_law 712 = .ok (.aload_n 0, 1) := by decide +kernel
theorem dL_law_713 : decode cL_law 713 = .ok (.iload 4, 2) := by decide +kernel
theorem dL_law_715 : decode cL_law 715 = .ok (.iconst 1, 1) := by decide +kernel
theorem dL_law_716 : decode cL_law 716 = .ok (.iadd, 1) := by decide +kernel
theorem dL_law_717 : decode cL_law 717 = .ok (.iaload, 1) := by decide +kernel
theorem dL_law_718 : decode cL_law 718 = .ok (.invokevirtual 86, 3) := by decide +kernel
theorem dL_law_721 : decode cL_law 721 = .ok (.if_icmp .eq 779, 3) := by decide +kernel
theorem dL_law_724 : decode cL_law 724 = .ok (.iconst 0, 1) := by decide +kernel
theorem dL_law_725 : decode cL_law 725 = .ok (.ireturn, 1) := by decide +kernel
theorem dL_law_726 : decode cL_law 726 = .ok (.aload_n 1, 1) := by decide +kernel
theorem dL_law_727 : decode cL_law 727 = .ok (.aload_n 0, 1) := by decide +kernel
theorem dL_law_728 : decode cL_law 728 = .ok (.iload 4, 2) := by decide +kernel
theorem dL_law_730 : decode cL_law 730 = .ok (.iconst 1, 1) := by decide +kernel
theorem dL_law_731 : decode cL_law 731 = .ok (.iadd, 1) := by decide +kernel
theorem dL_law_732 : decode cL_law 732 = .ok (.iaload, 1) := by decide +kernel
theorem dL_law_733 : decode cL_law 733 = .ok (.aload_n 0, 1) := by decide +kernel
theorem dL_law_734 : decode cL_law 734 = .ok (.iload 4, 2) := by decide +kernel
theorem dL_law_736 : decode cL_law 736 = .ok (.iconst 2, 1) := by decide +kernel
theorem dL_law_737 : decode cL_law 737 = .ok (.iadd, 1) := by decide +kernel
theorem dL_law_738 : decode cL_law 738 = .ok (.iaload, 1) := by decide +kernel
theorem dL_law_739 : decode cL_law 739 = .ok (.aload_n 0, 1) := by decide +kernel
theorem dL_law_740 : decode cL_law 740 = .ok (.iload 4, 2) := by decide +kernel
theorem dL_law_742 : decode cL_law 742 = .ok (.iconst 3, 1) := by decide +kernel
theorem dL_law_743 : decode cL_law 743 = .ok (.iadd, 1) := by decide +kernel
theorem dL_law_744 : decode cL_law 744 = .ok (.iaload, 1) := by decide +kernel
theorem dL_law_745 : decode cL_law 745 = .ok (.invokevirtual 87, 3) := by decide +kernel
theorem dL_law_748 : decode cL_law 748 = .ok (.aload_n 2, 1) := by decide +kernel
theorem dL_law_749 : decode cL_law 749 = .ok (.aload_n 0, 1) := by decide +kernel
theorem dL_law_750 : decode cL_law 750 = .ok (.iload 4, 2) := by decide +kernel
theorem dL_law_752 : decode cL_law 752 = .ok (.iconst 1, 1) := by decide +kernel
theorem dL_law_753 : decode cL_law 753 = .ok (.iadd, 1) := by decide +kernel
theorem dL_law_754 : decode cL_law 754 = .ok (.iaload, 1) := by decide +kernel
theorem dL_law_755 : decode cL_law 755 = .ok (.aload_n 0, 1) := by decide +kernel
theorem dL_law_756 : decode cL_law 756 = .ok (.iload 4, 2) := by decide +kernel
theorem dL_law_758 : decode cL_law 758 = .ok (.iconst 2, 1) := by decide +kernel
theorem dL_law_759 : decode cL_law 759 = .ok (.iadd, 1) := by decide +kernel
theorem dL_law_760 : decode cL_law 760 = .ok (.iaload, 1) := by decide +kernel
theorem dL_law_761 : decode cL_law 761 = .ok (.aload_n 0, 1) := by decide +kernel
theorem dL_law_762 : decode cL_law 762 = .ok (.iload 4, 2) := by decide +kernel
theorem dL_law_764 : decode cL_law 764 = .ok (.iconst 3, 1) := by decide +kernel
theorem dL_law_765 : decode cL_law 765 = .ok (.iadd, 1) := by decide +kernel
theorem dL_law_766 : decode cL_law 766 = .ok (.iaload, 1) := by decide +kernel
theorem dL_law_767 : decode cL_law 767 = .ok (.invokevirtual 91, 3) := by decide +kernel
theorem dL_law_770 : decode cL_law 770 = .ok (.if_icmp .eq 730, 3) := by decide +kernel
theorem dL_law_773 : decode cL_law 773 = .ok (.iconst 0, 1) := by decide +kernel
theorem dL_law_774 : decode cL_law 774 = .ok (.ireturn, 1) := by decide +kernel
theorem dL_law_775 : decode cL_law 775 = .ok (.aload_n 1, 1) := by decide +kernel
theorem dL_law_776 : decode cL_law 776 = .ok (.invokevirtual 92, 3) := by decide +kernel
theorem dL_law_779 : decode cL_law 779 = .ok (.aload_n 2, 1) := by decide +kernel
theorem dL_law_780 : decode cL_law 780 = .ok (.invokevirtual 95, 3) := by decide +kernel
theorem dL_law_783 : decode cL_law 783 = .ok (.if_icmp .eq 717, 3) := by decide +kernel
theorem dL_law_786 : decode cL_law 786 = .ok (.iconst 0, 1) := by decide +kernel
theorem dL_law_787 : decode cL_law 787 = .ok (.ireturn, 1) := by decide +kernel
theorem dL_law_788 : decode cL_law 788 = .ok (.aload_n 1, 1) := by decide +kernel
theorem dL_law_789 : decode cL_law 789 = .ok (.invokevirtual 96, 3) := by decide +kernel
theorem dL_law_792 : decode cL_law 792 = .ok (.aload_n 2, 1) := by decide +kernel
theorem dL_law_793 : decode cL_law 793 = .ok (.invokevirtual 99, 3) := by decide +kernel
theorem dL_law_796 : decode cL_law 796 = .ok (.if_icmp .eq 704, 3) := by decide +kernel
theorem dL_law_799 : decode cL_law 799 = .ok (.iconst 0, 1) := by decide +kernel
theorem dL_law_800 : decode cL_law 800 = .ok (.ireturn, 1) := by decide +kernel
theorem dL_law_801 : decode cL_law 801 = .ok (.aload_n 1, 1) := by decide +kernel
theorem dL_law_802 : decode cL_law 802 = .ok (.aload_n 0, 1) := by decide +kernel
theorem dL_law_803 : decode cL_law 803 = .ok (.iload 4, 2) := by decide +kernel
theorem dL_law_805 : decode cL_law 805 = .ok (.iconst 1, 1) := by decide +kernel
theorem dL_law_806 : decode cL_law 806 = .ok (.iadd, 1) := by decide +kernel
theorem dL_law_807 : decode cL_law 807 = .ok (.iaload, 1) := by decide +kernel
theorem dL_law_808 : decode cL_law 808 = .ok (.aload_n 0, 1) := by decide +kernel
theorem dL_law_809 : decode cL_law 809 = .ok (.iload 4, 2) := by decide +kernel
theorem dL_law_811 : decode cL_law 811 = .ok (.iconst 2, 1) := by decide +kernel
theorem dL_law_812 : decode cL_law 812 = .ok (.iadd, 1) := by decide +kernel
theorem dL_law_813 : decode cL_law 813 = .ok (.iaload, 1) := by decide +kernel
theorem dL_law_814 : decode cL_law 814 = .ok (.aload_n 0, 1) := by decide +kernel
theorem dL_law_815 : decode cL_law 815 = .ok (.iload 4, 2) := by decide +kernel
theorem dL_law_817 : decode cL_law 817 = .ok (.iconst 3, 1) := by decide +kernel
theorem dL_law_818 : decode cL_law 818 = .ok (.iadd, 1) := by decide +kernel
theorem dL_law_819 : decode cL_law 819 = .ok (.iaload, 1) := by decide +kernel
theorem dL_law_820 : decode cL_law 820 = .ok (.invokevirtual 100, 3) := by decide +kernel
theorem dL_law_823 : decode cL_law 823 = .ok (.aload_n 2, 1) := by decide +kernel
theorem dL_law_824 : decode cL_law 824 = .ok (.aload_n 0, 1) := by decide +kernel
theorem dL_law_825 : decode cL_law 825 = .ok (.iload 4, 2) := by decide +kernel
theorem dL_law_827 : decode cL_law 827 = .ok (.iconst 1, 1) := by decide +kernel
theorem dL_law_828 : decode cL_law 828 = .ok (.iadd, 1) := by decide +kernel
theorem dL_law_829 : decode cL_law 829 = .ok (.iaload, 1) := by decide +kernel
theorem dL_law_830 : decode cL_law 830 = .ok (.aload_n 0, 1) := by decide +kernel
theorem dL_law_831 : decode cL_law 831 = .ok (.iload 4, 2) := by decide +kernel
theorem dL_law_833 : decode cL_law 833 = .ok (.iconst 2, 1) := by decide +kernel
theorem dL_law_834 : decode cL_law 834 = .ok (.iadd, 1) := by decide +kernel
theorem dL_law_835 : decode cL_law 835 = .ok (.iaload, 1) := by decide +kernel
theorem dL_law_836 : decode cL_law 836 = .ok (.aload_n 0, 1) := by decide +kernel
theorem dL_law_837 : decode cL_law 837 = .ok (.iload 4, 2) := by decide +kernel
theorem dL_law_839 : decode cL_law 839 = .ok (.iconst 3, 1) := by decide +kernel
theorem dL_law_840 : decode cL_law 840 = .ok (.iadd, 1) := by decide +kernel
theorem dL_law_841 : decode cL_law 841 = .ok (.iaload, 1) := by decide +kernel
theorem dL_law_842 : decode cL_law 842 = .ok (.invokevirtual 103, 3) := by decide +kernel
theorem dL_law_845 : decode cL_law 845 = .ok (.if_icmp .eq 655, 3) := by decide +kernel
theorem dL_law_848 : decode cL_law 848 = .ok (.iconst 0, 1) := by decide +kernel
theorem dL_law_849 : decode cL_law 849 = .ok (.ireturn, 1) := by decide +kernel
theorem dL_law_850 : decode cL_law 850 = .ok (.aload_n 1, 1) := by decide +kernel
theorem dL_law_851 : decode cL_law 851 = .ok (.aload_n 0, 1) := by decide +kernel
theorem dL_law_852 : decode cL_law 852 = .ok (.iload 4, 2) := by decide +kernel
theorem dL_law_854 : decode cL_law 854 = .ok (.iconst 1, 1) := by decide +kernel
theorem dL_law_855 : decode cL_law 855 = .ok (.iadd, 1) := by decide +kernel
theorem dL_law_856 : decode cL_law 856 = .ok (.iaload, 1) := by decide +kernel
theorem dL_law_857 : decode cL_law 857 = .ok (.aload_n 0, 1) := by decide +kernel
theorem dL_law_858 : decode cL_law 858 = .ok (.iload 4, 2) := by decide +kernel
theorem dL_law_860 : decode cL_law 860 = .ok (.iconst 2, 1) := by decide +kernel
theorem dL_law_861 : decode cL_law 861 = .ok (.iadd, 1) := by decide +kernel
theorem dL_law_862 : decode cL_law 862 = .ok (.iaload, 1) := by decide +kernel
theorem dL_law_863 : decode cL_law 863 = .ok (.invokevirtual 104, 3) := by decide +kernel
theorem dL_law_866 : decode cL_law 866 = .ok (.aload_n 2, 1) := by decide +kernel
theorem dL_law_867 : decode cL_law 867 = .ok (.aload_n 0, 1) := by decide +kernel
theorem dL_law_868 : decode cL_law 868 = .ok (.iload 4, 2) := by decide +kernel
theorem dL_law_870 : decode cL_law 870 = .ok (.iconst 1, 1) := by decide +kernel
theorem dL_law_871 : decode cL_law 871 = .ok (.iadd, 1) := by decide +kernel
theorem dL_law_872 : decode cL_law 872 = .ok (.iaload, 1) := by decide +kernel
theorem dL_law_873 : decode cL_law 873 = .ok (.aload_n 0, 1) := by decide +kernel
theorem dL_law_874 : decode cL_law 874 = .ok (.iload 4, 2) := by decide +kernel
theorem dL_law_876 : decode cL_law 876 = .ok (.iconst 2, 1) := by decide +kernel
theorem dL_law_877 : decode cL_law 877 = .ok (.iadd, 1) := by decide +kernel
theorem dL_law_878 : decode cL_law 878 = .ok (.iaload, 1) := by decide +kernel
theorem dL_law_879 : decode cL_law 879 = .ok (.invokevirtual 107, 3) := by decide +kernel
theorem dL_law_882 : decode cL_law 882 = .ok (.if_icmp .eq 618, 3) := by decide +kernel
theorem dL_law_885 : decode cL_law 885 = .ok (.iconst 0, 1) := by decide +kernel
theorem dL_law_886 : decode cL_law 886 = .ok (.ireturn, 1) := by decide +kernel
theorem dL_law_887 : decode cL_law 887 = .ok (.aload_n 1, 1) := by decide +kernel
theorem dL_law_888 : decode cL_law 888 = .ok (.aload_n 0, 1) := by decide +kernel
theorem dL_law_889 : decode cL_law 889 = .ok (.iload 4, 2) := by decide +kernel
theorem dL_law_891 : decode cL_law 891 = .ok (.iconst 1, 1) := by decide +kernel
theorem dL_law_892 : decode cL_law 892 = .ok (.iadd, 1) := by decide +kernel
theorem dL_law_893 : decode cL_law 893 = .ok (.iaload, 1) := by decide +kernel
theorem dL_law_894 : decode cL_law 894 = .ok (.aload_n 0, 1) := by decide +kernel
theorem dL_law_895 : decode cL_law 895 = .ok (.iload 4, 2) := by decide +kernel
theorem dL_law_897 : decode cL_law 897 = .ok (.iconst 2, 1) := by decide +kernel
theorem dL_law_898 : decode cL_law 898 = .ok (.iadd, 1) := by decide +kernel
theorem dL_law_899 : decode cL_law 899 = .ok (.iaload, 1) := by decide +kernel
theorem dL_law_900 : decode cL_law 900 = .ok (.aload_n 0, 1) := by decide +kernel
theorem dL_law_901 : decode cL_law 901 = .ok (.iload 4, 2) := by decide +kernel
theorem dL_law_903 : decode cL_law 903 = .ok (.iconst 3, 1) := by decide +kernel
theorem dL_law_904 : decode cL_law 904 = .ok (.iadd, 1) := by decide +kernel
theorem dL_law_905 : decode cL_law 905 = .ok (.iaload, 1) := by decide +kernel
theorem dL_law_906 : decode cL_law 906 = .ok (.invokevirtual 108, 3) := by decide +kernel
theorem dL_law_909 : decode cL_law 909 = .ok (.aload_n 2, 1) := by decide +kernel
theorem dL_law_910 : decode cL_law 910 = .ok (.aload_n 0, 1) := by decide +kernel
theorem dL_law_911 : decode cL_law 911 = .ok (.iload 4, 2) := by decide +kernel
theorem dL_law_913 : decode cL_law 913 = .ok (.iconst 1, 1) := by decide +kernel
theorem dL_law_914 : decode cL_law 914 = .ok (.iadd, 1) := by decide +kernel
theorem dL_law_915 : decode cL_law 915 = .ok (.iaload, 1) := by decide +kernel
theorem dL_law_916 : decode cL_law 916 = .ok (.aload_n 0, 1) := by decide +kernel
theorem dL_law_917 : decode cL_law 917 = .ok (.iload 4, 2) := by decide +kernel
theorem dL_law_919 : decode cL_law 919 = .ok (.iconst 2, 1) := by decide +kernel
theorem dL_law_920 : decode cL_law 920 = .ok (.iadd, 1) := by decide +kernel
theorem dL_law_921 : decode cL_law 921 = .ok (.iaload, 1) := by decide +kernel
theorem dL_law_922 : decode cL_law 922 = .ok (.aload_n 0, 1) := by decide +kernel
theorem dL_law_923 : decode cL_law 923 = .ok (.iload 4, 2) := by decide +kernel
theorem dL_law_925 : decode cL_law 925 = .ok (.iconst 3, 1) := by decide +kernel
theorem dL_law_926 : decode cL_law 926 = .ok (.iadd, 1) := by decide +kernel
theorem dL_law_927 : decode cL_law 927 = .ok (.iaload, 1) := by decide +kernel
theorem dL_law_928 : decode cL_law 928 = .ok (.invokevirtual 111, 3) := by decide +kernel
theorem dL_law_931 : decode cL_law 931 = .ok (.if_icmp .eq 569, 3) := by decide +kernel
theorem dL_law_934 : decode cL_law 934 = .ok (.iconst 0, 1) := by decide +kernel
theorem dL_law_935 : decode cL_law 935 = .ok (.ireturn, 1) := by decide +kernel
theorem dL_law_936 : decode cL_law 936 = .ok (.aload_n 1, 1) := by decide +kernel
theorem dL_law_937 : decode cL_law 937 = .ok (.invokevirtual 112, 3) := by decide +kernel
theorem dL_law_940 : decode cL_law 940 = .ok (.aload_n 2, 1) := by decide +kernel
theorem dL_law_941 : decode cL_law 941 = .ok (.invokevirtual 115, 3) := by decide +kernel
theorem dL_law_944 : decode cL_law 944 = .ok (.if_icmp .eq 556, 3) := by decide +kernel
theorem dL_law_947 : decode cL_law 947 = .ok (.iconst 0, 1) := by decide +kernel
theorem dL_law_948 : decode cL_law 948 = .ok (.ireturn, 1) := by decide +kernel
theorem dL_law_949 : decode cL_law 949 = .ok (.aload_n 1, 1) := by decide +kernel
theorem dL_law_950 : decode cL_law 950 = .ok (.aload_n 0, 1) := by decide +kernel
theorem dL_law_951 : decode cL_law 951 = .ok (.iload 4, 2) := by decide +kernel
theorem dL_law_953 : decode cL_law 953 = .ok (.iconst 1, 1) := by decide +kernel
theorem dL_law_954 : decode cL_law 954 = .ok (.iadd, 1) := by decide +kernel
theorem dL_law_955 : decode cL_law 955 = .ok (.iaload, 1) := by decide +kernel
theorem dL_law_956 : decode cL_law 956 = .ok (.invokevirtual 116, 3) := by decide +kernel
theorem dL_law_959 : decode cL_law 959 = .ok (.aload_n 2, 1) := by decide +kernel
theorem dL_law_960 : decode cL_law 960 = .ok (.aload_n 0, 1) := by decide +kernel
theorem dL_law_961 : decode cL_law 961 = .ok (.iload 4, 2) := by decide +kernel
theorem dL_law_963 : decode cL_law 963 = .ok (.iconst 1, 1) := by decide +kernel
theorem dL_law_964 : decode cL_law 964 = .ok (.iadd, 1) := by decide +kernel
theorem dL_law_965 : decode cL_law 965 = .ok (.iaload, 1) := by decide +kernel
theorem dL_law_966 : decode cL_law 966 = .ok (.invokevirtual 119, 3) := by decide +kernel
theorem dL_law_969 : decode cL_law 969 = .ok (.if_icmp .eq 531, 3) := by decide +kernel
theorem dL_law_972 : decode cL_law 972 = .ok (.iconst 0, 1) := by decide +kernel
theorem dL_law_973 : decode cL_law 973 = .ok (.ireturn, 1) := by decide +kernel
theorem dL_law_974 : decode cL_law 974 = .ok (.aload_n 1, 1) := by decide +kernel
theorem dL_law_975 : decode cL_law 975 = .ok (.aload_n 0, 1) := by decide +kernel
theorem dL_law_976 : decode cL_law 976 = .ok (.iload 4, 2) := by decide +kernel
theorem dL_law_978 : decode cL_law 978 = .ok (.iconst 1, 1) := by decide +kernel
theorem dL_law_979 : decode cL_law 979 = .ok (.iadd, 1) := by decide +kernel
theorem dL_law_980 : decode cL_law 980 = .ok (.iaload, 1) := by decide +kernel
theorem dL_law_981 : decode cL_law 981 = .ok (.aload_n 0, 1) := by decide +kernel
theorem dL_law_982 : decode cL_law 982 = .ok (.iload 4, 2) := by decide +kernel
theorem dL_law_984 : decode cL_law 984 = .ok (.iconst 2, 1) := by decide +kernel
theorem dL_law_985 : decode cL_law 985 = .ok (.iadd, 1) := by decide +kernel
theorem dL_law_986 : decode cL_law 986 = .ok (.iaload, 1) := by decide +kernel
theorem dL_law_987 : decode cL_law 987 = .ok (.aload_n 0, 1) := by decide +kernel
theorem dL_law_988 : decode cL_law 988 = .ok (.iload 4, 2) := by decide +kernel
theorem dL_law_990 : decode cL_law 990 = .ok (.iconst 3, 1) := by decide +kernel
theorem dL_law_991 : decode cL_law 991 = .ok (.iadd, 1) := by decide +kernel
theorem dL_law_992 : decode cL_law 992 = .ok (.iaload, 1) := by decide +kernel
theorem dL_law_993 : decode cL_law 993 = .ok (.invokevirtual 120, 3) := by decide +kernel
theorem dL_law_996 : decode cL_law 996 = .ok (.aload_n 2, 1) := by decide +kernel
theorem dL_law_997 : decode cL_law 997 = .ok (.aload_n 0, 1) := by decide +kernel
theorem dL_law_998 : decode cL_law 998 = .ok (.iload 4, 2) := by decide +kernel
theorem dL_law_1000 : decode cL_law 1000 = .ok (.iconst 1, 1) := by decide +kernel
theorem dL_law_1001 : decode cL_law 1001 = .ok (.iadd, 1) := by decide +kernel
theorem dL_law_1002 : decode cL_law 1002 = .ok (.iaload, 1) := by decide +kernel
theorem dL_law_1003 : decode cL_law 1003 = .ok (.aload_n 0, 1) := by decide +kernel
theorem dL_law_1004 : decode cL_law 1004 = .ok (.iload 4, 2) := by decide +kernel
theorem dL_law_1006 : decode cL_law 1006 = .ok (.iconst 2, 1) := by decide +kernel
theorem dL_law_1007 : decode cL_law 1007 = .ok (.iadd, 1) := by decide +kernel
theorem dL_law_1008 : decode cL_law 1008 = .ok (.iaload, 1) := by decide +kernel
theorem dL_law_1009 : decode cL_law 1009 = .ok (.aload_n 0, 1) := by decide +kernel
theorem dL_law_1010 : decode cL_law 1010 = .ok (.iload 4, 2) := by decide +kernel
theorem dL_law_1012 : decode cL_law 1012 = .ok (.iconst 3, 1) := by decide +kernel
theorem dL_law_1013 : decode cL_law 1013 = .ok (.iadd, 1) := by decide +kernel
theorem dL_law_1014 : decode cL_law 1014 = .ok (.iaload, 1) := by decide +kernel
theorem dL_law_1015 : decode cL_law 1015 = .ok (.invokevirtual 124, 3) := by decide +kernel
theorem dL_law_1018 : decode cL_law 1018 = .ok (.lcmp, 1) := by decide +kernel
theorem dL_law_1019 : decode cL_law 1019 = .ok (.ifCond .eq 481, 3) := by decide +kernel
theorem dL_law_1022 : decode cL_law 1022 = .ok (.iconst 0, 1) := by decide +kernel
theorem dL_law_1023 : decode cL_law 1023 = .ok (.ireturn, 1) := by decide +kernel
theorem dL_law_1024 : decode cL_law 1024 = .ok (.aload_n 1, 1) := by decide +kernel
theorem dL_law_1025 : decode cL_law 1025 = .ok (.aload_n 0, 1) := by decide +kernel
theorem dL_law_1026 : decode cL_law 1026 = .ok (.iload 4, 2) := by decide +kernel
theorem dL_law_1028 : decode cL_law 1028 = .ok (.iconst 1, 1) := by decide +kernel
theorem dL_law_1029 : decode cL_law 1029 = .ok (.iadd, 1) := by decide +kernel
theorem dL_law_1030 : decode cL_law 1030 = .ok (.iaload, 1) := by decide +kernel
theorem dL_law_1031 : decode cL_law 1031 = .ok (.aload_n 0, 1) := by decide +kernel
theorem dL_law_1032 : decode cL_law 1032 = .ok (.iload 4, 2) := by decide +kernel
theorem dL_law_1034 : decode cL_law 1034 = .ok (.iconst 2, 1) := by decide +kernel
theorem dL_law_1035 : decode cL_law 1035 = .ok (.iadd, 1) := by decide +kernel
theorem dL_law_1036 : decode cL_law 1036 = .ok (.iaload, 1) := by decide +kernel
theorem dL_law_1037 : decode cL_law 1037 = .ok (.aload_n 0, 1) := by decide +kernel
theorem dL_law_1038 : decode cL_law 1038 = .ok (.iload 4, 2) := by decide +kernel
theorem dL_law_1040 : decode cL_law 1040 = .ok (.iconst 3, 1) := by decide +kernel
theorem dL_law_1041 : decode cL_law 1041 = .ok (.iadd, 1) := by decide +kernel
theorem dL_law_1042 : decode cL_law 1042 = .ok (.iaload, 1) := by decide +kernel
theorem dL_law_1043 : decode cL_law 1043 = .ok (.invokevirtual 125, 3) := by decide +kernel
theorem dL_law_1046 : decode cL_law 1046 = .ok (.aload_n 2, 1) := by decide +kernel
theorem dL_law_1047 : decode cL_law 1047 = .ok (.aload_n 0, 1) := by decide +kernel
theorem dL_law_1048 : decode cL_law 1048 = .ok (.iload 4, 2) := by decide +kernel
theorem dL_law_1050 : decode cL_law 1050 = .ok (.iconst 1, 1) := by decide +kernel
theorem dL_law_1051 : decode cL_law 1051 = .ok (.iadd, 1) := by decide +kernel
theorem dL_law_1052 : decode cL_law 1052 = .ok (.iaload, 1) := by decide +kernel
theorem dL_law_1053 : decode cL_law 1053 = .ok (.aload_n 0, 1) := by decide +kernel
theorem dL_law_1054 : decode cL_law 1054 = .ok (.iload 4, 2) := by decide +kernel
theorem dL_law_1056 : decode cL_law 1056 = .ok (.iconst 2, 1) := by decide +kernel
theorem dL_law_1057 : decode cL_law 1057 = .ok (.iadd, 1) := by decide +kernel
theorem dL_law_1058 : decode cL_law 1058 = .ok (.iaload, 1) := by decide +kernel
theorem dL_law_1059 : decode cL_law 1059 = .ok (.aload_n 0, 1) := by decide +kernel
theorem dL_law_1060 : decode cL_law 1060 = .ok (.iload 4, 2) := by decide +kernel
theorem dL_law_1062 : decode cL_law 1062 = .ok (.iconst 3, 1) := by decide +kernel
theorem dL_law_1063 : decode cL_law 1063 = .ok (.iadd, 1) := by decide +kernel
theorem dL_law_1064 : decode cL_law 1064 = .ok (.iaload, 1) := by decide +kernel
theorem dL_law_1065 : decode cL_law 1065 = .ok (.invokevirtual 128, 3) := by decide +kernel
theorem dL_law_1068 : decode cL_law 1068 = .ok (.if_icmp .eq 432, 3) := by decide +kernel
theorem dL_law_1071 : decode cL_law 1071 = .ok (.iconst 0, 1) := by decide +kernel
theorem dL_law_1072 : decode cL_law 1072 = .ok (.ireturn, 1) := by decide +kernel
theorem dL_law_1073 : decode cL_law 1073 = .ok (.aload_n 1, 1) := by decide +kernel
theorem dL_law_1074 : decode cL_law 1074 = .ok (.invokevirtual 129, 3) := by decide +kernel
theorem dL_law_1077 : decode cL_law 1077 = .ok (.aload_n 2, 1) := by decide +kernel
theorem dL_law_1078 : decode cL_law 1078 = .ok (.invokevirtual 132, 3) := by decide +kernel
theorem dL_law_1081 : decode cL_law 1081 = .ok (.if_icmp .eq 419, 3) := by decide +kernel
theorem dL_law_1084 : decode cL_law 1084 = .ok (.iconst 0, 1) := by decide +kernel
theorem dL_law_1085 : decode cL_law 1085 = .ok (.ireturn, 1) := by decide +kernel
theorem dL_law_1086 : decode cL_law 1086 = .ok (.aload_n 1, 1) := by decide +kernel
theorem dL_law_1087 : decode cL_law 1087 = .ok (.invokevirtual 133, 3) := by decide +kernel
theorem dL_law_1090 : decode cL_law 1090 = .ok (.aload_n 2, 1) := by decide +kernel
theorem dL_law_1091 : decode cL_law 1091 = .ok (.invokevirtual 136, 3) := by decide +kernel
theorem dL_law_1094 : decode cL_law 1094 = .ok (.if_icmp .eq 406, 3) := by decide +kernel
theorem dL_law_1097 : decode cL_law 1097 = .ok (.iconst 0, 1) := by decide +kernel
theorem dL_law_1098 : decode cL_law 1098 = .ok (.ireturn, 1) := by decide +kernel
theorem dL_law_1099 : decode cL_law 1099 = .ok (.aload_n 1, 1) := by decide +kernel
theorem dL_law_1100 : decode cL_law 1100 = .ok (.aload_n 0, 1) := by decide +kernel
theorem dL_law_1101 : decode cL_law 1101 = .ok (.iload 4, 2) := by decide +kernel
theorem dL_law_1103 : decode cL_law 1103 = .ok (.iconst 1, 1) := by decide +kernel
theorem dL_law_1104 : decode cL_law 1104 = .ok (.iadd, 1) := by decide +kernel
theorem dL_law_1105 : decode cL_law 1105 = .ok (.iaload, 1) := by decide +kernel
theorem dL_law_1106 : decode cL_law 1106 = .ok (.aload_n 0, 1) := by decide +kernel
theorem dL_law_1107 : decode cL_law 1107 = .ok (.iload 4, 2) := by decide +kernel
theorem dL_law_1109 : decode cL_law 1109 = .ok (.iconst 2, 1) := by decide +kernel
theorem dL_law_1110 : decode cL_law 1110 = .ok (.iadd, 1) := by decide +kernel
theorem dL_law_1111 : decode cL_law 1111 = .ok (.iaload, 1) := by decide +kernel
theorem dL_law_1112 : decode cL_law 1112 = .ok (.invokevirtual 137, 3) := by decide +kernel
theorem dL_law_1115 : decode cL_law 1115 = .ok (.aload_n 2, 1) := by decide +kernel
theorem dL_law_1116 : decode cL_law 1116 = .ok (.aload_n 0, 1) := by decide +kernel
theorem dL_law_1117 : decode cL_law 1117 = .ok (.iload 4, 2) := by decide +kernel
theorem dL_law_1119 : decode cL_law 1119 = .ok (.iconst 1, 1) := by decide +kernel
theorem dL_law_1120 : decode cL_law 1120 = .ok (.iadd, 1) := by decide +kernel
theorem dL_law_1121 : decode cL_law 1121 = .ok (.iaload, 1) := by decide +kernel
theorem dL_law_1122 : decode cL_law 1122 = .ok (.aload_n 0, 1) := by decide +kernel
theorem dL_law_1123 : decode cL_law 1123 = .ok (.iload 4, 2) := by decide +kernel
theorem dL_law_1125 : decode cL_law 1125 = .ok (.iconst 2, 1) := by decide +kernel
theorem dL_law_1126 : decode cL_law 1126 = .ok (.iadd, 1) := by decide +kernel
theorem dL_law_1127 : decode cL_law 1127 = .ok (.iaload, 1) := by decide +kernel
theorem dL_law_1128 : decode cL_law 1128 = .ok (.invokevirtual 140, 3) := by decide +kernel
theorem dL_law_1131 : decode cL_law 1131 = .ok (.if_icmp .eq 369, 3) := by decide +kernel
theorem dL_law_1134 : decode cL_law 1134 = .ok (.iconst 0, 1) := by decide +kernel
theorem dL_law_1135 : decode cL_law 1135 = .ok (.ireturn, 1) := by decide +kernel
theorem dL_law_1136 : decode cL_law 1136 = .ok (.aload_n 1, 1) := by decide +kernel
theorem dL_law_1137 : decode cL_law 1137 = .ok (.aload_n 0, 1) := by decide +kernel
theorem dL_law_1138 : decode cL_law 1138 = .ok (.iload 4, 2) := by decide +kernel
theorem dL_law_1140 : decode cL_law 1140 = .ok (.iconst 1, 1) := by decide +kernel
theorem dL_law_1141 : decode cL_law 1141 = .ok (.iadd, 1) := by decide +kernel
theorem dL_law_1142 : decode cL_law 1142 = .ok (.iaload, 1) := by decide +kernel
theorem dL_law_1143 : decode cL_law 1143 = .ok (.invokevirtual 141, 3) := by decide +kernel
theorem dL_law_1146 : decode cL_law 1146 = .ok (.aload_n 2, 1) := by decide +kernel
theorem dL_law_1147 : decode cL_law 1147 = .ok (.aload_n 0, 1) := by decide +kernel
theorem dL_law_1148 : decode cL_law 1148 = .ok (.iload 4, 2) := by decide +kernel
theorem dL_law_1150 : decode cL_law 1150 = .ok (.iconst 1, 1) := by decide +kernel
theorem dL_law_1151 : decode cL_law 1151 = .ok (.iadd, 1) := by decide +kernel
theorem dL_law_1152 : decode cL_law 1152 = .ok (.iaload, 1) := by decide +kernel
theorem dL_law_1153 : decode cL_law 1153 = .ok (.invokevirtual 144, 3) := by decide +kernel
theorem dL_law_1156 : decode cL_law 1156 = .ok (.if_icmp .eq 344, 3) := by decide +kernel
theorem dL_law_1159 : decode cL_law 1159 = .ok (.iconst 0, 1) := by decide +kernel
theorem dL_law_1160 : decode cL_law 1160 = .ok (.ireturn, 1) := by decide +kernel
theorem dL_law_1161 : decode cL_law 1161 = .ok (.aload_n 1, 1) := by decide +kernel
theorem dL_law_1162 : decode cL_law 1162 = .ok (.aload_n 0, 1) := by decide +kernel
theorem dL_law_1163 : decode cL_law 1163 = .ok (.iload 4, 2) := by decide +kernel
theorem dL_law_1165 : decode cL_law 1165 = .ok (.iconst 1, 1) := by decide +kernel
theorem dL_law_1166 : decode cL_law 1166 = .ok (.iadd, 1) := by decide +kernel
theorem dL_law_1167 : decode cL_law 1167 = .ok (.iaload, 1) := by decide +kernel
theorem dL_law_1168 : decode cL_law 1168 = .ok (.invokevirtual 145, 3) := by decide +kernel
theorem dL_law_1171 : decode cL_law 1171 = .ok (.aload_n 2, 1) := by decide +kernel
theorem dL_law_1172 : decode cL_law 1172 = .ok (.aload_n 0, 1) := by decide +kernel
theorem dL_law_1173 : decode cL_law 1173 = .ok (.iload 4, 2) := by decide +kernel
theorem dL_law_1175 : decode cL_law 1175 = .ok (.iconst 1, 1) := by decide +kernel
theorem dL_law_1176 : decode cL_law 1176 = .ok (.iadd, 1) := by decide +kernel
theorem dL_law_1177 : decode cL_law 1177 = .ok (.iaload, 1) := by decide +kernel
theorem dL_law_1178 : decode cL_law 1178 = .ok (.invokevirtual 148, 3) := by decide +kernel
theorem dL_law_1181 : decode cL_law 1181 = .ok (.if_icmp .eq 319, 3) := by decide +kernel
theorem dL_law_1184 : decode cL_law 1184 = .ok (.iconst 0, 1) := by decide +kernel
theorem dL_law_1185 : decode cL_law 1185 = .ok (.ireturn, 1) := by decide +kernel
theorem dL_law_1186 : decode cL_law 1186 = .ok (.aload_n 1, 1) := by decide +kernel
theorem dL_law_1187 : decode cL_law 1187 = .ok (.aload_n 0, 1) := by decide +kernel
theorem dL_law_1188 : decode cL_law 1188 = .ok (.iload 4, 2) := by decide +kernel
theorem dL_law_1190 : decode cL_law 1190 = .ok (.iconst 1, 1) := by decide +kernel
theorem dL_law_1191 : decode cL_law 1191 = .ok (.iadd, 1) := by decide +kernel
theorem dL_law_1192 : decode cL_law 1192 = .ok (.iaload, 1) := by decide +kernel
theorem dL_law_1193 : decode cL_law 1193 = .ok (.aload_n 0, 1) := by decide +kernel
theorem dL_law_1194 : decode cL_law 1194 = .ok (.iload 4, 2) := by decide +kernel
theorem dL_law_1196 : decode cL_law 1196 = .ok (.iconst 2, 1) := by decide +kernel
theorem dL_law_1197 : decode cL_law 1197 = .ok (.iadd, 1) := by decide +kernel
theorem dL_law_1198 : decode cL_law 1198 = .ok (.iaload, 1) := by decide +kernel
theorem dL_law_1199 : decode cL_law 1199 = .ok (.aload_n 0, 1) := by decide +kernel
theorem dL_law_1200 : decode cL_law 1200 = .ok (.iload 4, 2) := by decide +kernel
theorem dL_law_1202 : decode cL_law 1202 = .ok (.iconst 3, 1) := by decide +kernel
theorem dL_law_1203 : decode cL_law 1203 = .ok (.iadd, 1) := by decide +kernel
theorem dL_law_1204 : decode cL_law 1204 = .ok (.iaload, 1) := by decide +kernel
theorem dL_law_1205 : decode cL_law 1205 = .ok (.aload_n 0, 1) := by decide +kernel
theorem dL_law_1206 : decode cL_law 1206 = .ok (.iload 4, 2) := by decide +kernel
theorem dL_law_1208 : decode cL_law 1208 = .ok (.iconst 4, 1) := by decide +kernel
theorem dL_law_1209 : decode cL_law 1209 = .ok (.iadd, 1) := by decide +kernel
theorem dL_law_1210 : decode cL_law 1210 = .ok (.iaload, 1) := by decide +kernel
theorem dL_law_1211 : decode cL_law 1211 = .ok (.ifCond .eq 7, 3) := by decide +kernel
theorem dL_law_1214 : decode cL_law 1214 = .ok (.iconst 1, 1) := by decide +kernel
theorem dL_law_1215 : decode cL_law 1215 = .ok (.goto 4, 3) := by decide +kernel
theorem dL_law_1218 : decode cL_law 1218 = .ok (.iconst 0, 1) := by decide +kernel
theorem dL_law_1219 : decode cL_law 1219 = .ok (.invokevirtual 149, 3) := by decide +kernel
theorem dL_law_1222 : decode cL_law 1222 = .ok (.aload_n 2, 1) := by decide +kernel
theorem dL_law_1223 : decode cL_law 1223 = .ok (.aload_n 0, 1) := by decide +kernel
theorem dL_law_1224 : decode cL_law 1224 = .ok (.iload 4, 2) := by decide +kernel
theorem dL_law_1226 : decode cL_law 1226 = .ok (.iconst 1, 1) := by decide +kernel
theorem dL_law_1227 : decode cL_law 1227 = .ok (.iadd, 1) := by decide +kernel
theorem dL_law_1228 : decode cL_law 1228 = .ok (.iaload, 1) := by decide +kernel
theorem dL_law_1229 : decode cL_law 1229 = .ok (.aload_n 0, 1) := by decide +kernel
theorem dL_law_1230 : decode cL_law 1230 = .ok (.iload 4, 2) := by decide +kernel
theorem dL_law_1232 : decode cL_law 1232 = .ok (.iconst 2, 1) := by decide +kernel
theorem dL_law_1233 : decode cL_law 1233 = .ok (.iadd, 1) := by decide +kernel
theorem dL_law_1234 : decode cL_law 1234 = .ok (.iaload, 1) := by decide +kernel
theorem dL_law_1235 : decode cL_law 1235 = .ok (.aload_n 0, 1) := by decide +kernel
theorem dL_law_1236 : decode cL_law 1236 = .ok (.iload 4, 2) := by decide +kernel
theorem dL_law_1238 : decode cL_law 1238 = .ok (.iconst 3, 1) := by decide +kernel
theorem dL_law_1239 : decode cL_law 1239 = .ok (.iadd, 1) := by decide +kernel
theorem dL_law_1240 : decode cL_law 1240 = .ok (.iaload, 1) := by decide +kernel
theorem dL_law_1241 : decode cL_law 1241 = .ok (.aload_n 0, 1) := by decide +kernel
theorem dL_law_1242 : decode cL_law 1242 = .ok (.iload 4, 2) := by decide +kernel
theorem dL_law_1244 : decode cL_law 1244 = .ok (.iconst 4, 1) := by decide +kernel
theorem dL_law_1245 : decode cL_law 1245 = .ok (.iadd, 1) := by decide +kernel
theorem dL_law_1246 : decode cL_law 1246 = .ok (.iaload, 1) := by decide +kernel
theorem dL_law_1247 : decode cL_law 1247 = .ok (.ifCond .eq 7, 3) := by decide +kernel
theorem dL_law_1250 : decode cL_law 1250 = .ok (.iconst 1, 1) := by decide +kernel
theorem dL_law_1251 : decode cL_law 1251 = .ok (.goto 4, 3) := by decide +kernel
theorem dL_law_1254 : decode cL_law 1254 = .ok (.iconst 0, 1) := by decide +kernel
theorem dL_law_1255 : decode cL_law 1255 = .ok (.invokevirtual 153, 3) := by decide +kernel
theorem dL_law_1258 : decode cL_law 1258 = .ok (.if_icmp .eq 242, 3) := by decide +kernel
theorem dL_law_1261 : decode cL_law 1261 = .ok (.iconst 0, 1) := by decide +kernel
theorem dL_law_1262 : decode cL_law 1262 = .ok (.ireturn, 1) := by decide +kernel
theorem dL_law_1263 : decode cL_law 1263 = .ok (.aload_n 1, 1) := by decide +kernel
theorem dL_law_1264 : decode cL_law 1264 = .ok (.aload_n 0, 1) := by decide +kernel
theorem dL_law_1265 : decode cL_law 1265 = .ok (.iload 4, 2) := by decide +kernel
theorem dL_law_1267 : decode cL_law 1267 = .ok (.iconst 1, 1) := by decide +kernel
theorem dL_law_1268 : decode cL_law 1268 = .ok (.iadd, 1) := by decide +kernel
theorem dL_law_1269 : decode cL_law 1269 = .ok (.iaload, 1) := by decide +kernel
theorem dL_law_1270 : decode cL_law 1270 = .ok (.invokevirtual 154, 3) := by decide +kernel
theorem dL_law_1273 : decode cL_law 1273 = .ok (.aload_n 2, 1) := by decide +kernel
theorem dL_law_1274 : decode cL_law 1274 = .ok (.aload_n 0, 1) := by decide +kernel
theorem dL_law_1275 : decode cL_law 1275 = .ok (.iload 4, 2) := by decide +kernel
theorem dL_law_1277 : decode cL_law 1277 = .ok (.iconst 1, 1) := by decide +kernel
theorem dL_law_1278 : decode cL_law 1278 = .ok (.iadd, 1) := by decide +kernel
theorem dL_law_1279 : decode cL_law 1279 = .ok (.iaload, 1) := by decide +kernel
theorem dL_law_1280 : decode cL_law 1280 = .ok (.invokevirtual 157, 3) := by decide +kernel
theorem dL_law_1283 : decode cL_law 1283 = .ok (.if_icmp .eq 217, 3) := by decide +kernel
theorem dL_law_1286 : decode cL_law 1286 = .ok (.iconst 0, 1) := by decide +kernel
theorem dL_law_1287 : decode cL_law 1287 = .ok (.ireturn, 1) := by decide +kernel
theorem dL_law_1288 : decode cL_law 1288 = .ok (.aload_n 1, 1) := by decide +kernel
theorem dL_law_1289 : decode cL_law 1289 = .ok (.aload_n 0, 1) := by decide +kernel
theorem dL_law_1290 : decode cL_law 1290 = .ok (.iload 4, 2) := by decide +kernel
theorem dL_law_1292 : decode cL_law 1292 = .ok (.iconst 1, 1) := by decide +kernel
theorem dL_law_1293 : decode cL_law 1293 = .ok (.iadd, 1) := by decide +kernel
theorem dL_law_1294 : decode cL_law 1294 = .ok (.iaload, 1) := by decide +kernel
theorem dL_law_1295 : decode cL_law 1295 = .ok (.invokevirtual 158, 3) := by decide +kernel
theorem dL_law_1298 : decode cL_law 1298 = .ok (.aload_n 2, 1) := by decide +kernel
theorem dL_law_1299 : decode cL_law 1299 = .ok (.aload_n 0, 1) := by decide +kernel
theorem dL_law_1300 : decode cL_law 1300 = .ok (.iload 4, 2) := by decide +kernel
theorem dL_law_1302 : decode cL_law 1302 = .ok (.iconst 1, 1) := by decide +kernel
theorem dL_law_1303 : decode cL_law 1303 = .ok (.iadd, 1) := by decide +kernel
theorem dL_law_1304 : decode cL_law 1304 = .ok (.iaload, 1) := by decide +kernel
theorem dL_law_1305 : decode cL_law 1305 = .ok (.invokevirtual 162, 3) := by decide +kernel
theorem dL_law_1308 : decode cL_law 1308 = .ok (.if_icmp .eq 192, 3) := by decide +kernel
theorem dL_law_1311 : decode cL_law 1311 = .ok (.iconst 0, 1) := by decide +kernel
theorem dL_law_1312 : decode cL_law 1312 = .ok (.ireturn, 1) := by decide +kernel
theorem dL_law_1313 : decode cL_law 1313 = .ok (.aload_n 1, 1) := by decide +kernel
theorem dL_law_1314 : decode cL_law 1314 = .ok (.aload_n 0, 1) := by decide +kernel
theorem dL_law_1315 : decode cL_law 1315 = .ok (.iload 4, 2) := by decide +kernel
theorem dL_law_1317 : decode cL_law 1317 = .ok (.iconst 1, 1) := by decide +kernel
theorem dL_law_1318 : decode cL_law 1318 = .ok (.iadd, 1) := by decide +kernel
theorem dL_law_1319 : decode cL_law 1319 = .ok (.iaload, 1) := by decide +kernel
theorem dL_law_1320 : decode cL_law 1320 = .ok (.invokevirtual 163, 3) := by decide +kernel
theorem dL_law_1323 : decode cL_law 1323 = .ok (.aload_n 2, 1) := by decide +kernel
theorem dL_law_1324 : decode cL_law 1324 = .ok (.aload_n 0, 1) := by decide +kernel
theorem dL_law_1325 : decode cL_law 1325 = .ok (.iload 4, 2) := by decide +kernel
