theorem dX0_init_0 : decode cX0_init 0 = .ok (.aload_n 0, 1) := by decide +kernel
theorem dX0_init_1 : decode cX0_init 1 = .ok (.invokespecial 3, 3) := by decide +kernel
theorem dX0_init_4 : decode cX0_init 4 = .ok (.aload_n 0, 1) := by decide +kernel
theorem dX0_init_5 : decode cX0_init 5 = .ok (.iconst 0, 1) := by decide +kernel
theorem dX0_init_6 : decode cX0_init 6 = .ok (.putfield 9, 3) := by decide +kernel
theorem dX0_init_9 : decode cX0_init 9 = .ok (.aload_n 0, 1) := by decide +kernel
theorem dX0_init_10 : decode cX0_init 10 = .ok (.bipush 20, 2) := by decide +kernel
theorem dX0_init_12 : decode cX0_init 12 = .ok (.newarray .int, 2) := by decide +kernel
theorem dX0_init_14 : decode cX0_init 14 = .ok (.putfield 15, 3) := by decide +kernel
theorem dX0_init_17 : decode cX0_init 17 = .ok (.aload_n 0, 1) := by decide +kernel
theorem dX0_init_18 : decode cX0_init 18 = .ok (.bipush 20, 2) := by decide +kernel
theorem dX0_init_20 : decode cX0_init 20 = .ok (.newarray .int, 2) := by decide +kernel
theorem dX0_init_22 : decode cX0_init 22 = .ok (.putfield 19, 3) := by decide +kernel
theorem dX0_init_25 : decode cX0_init 25 = .ok (.aload_n 0, 1) := by decide +kernel
theorem dX0_init_26 : decode cX0_init 26 = .ok (.bipush 20, 2) := by decide +kernel
theorem dX0_init_28 : decode cX0_init 28 = .ok (.newarray .int, 2) := by decide +kernel
theorem dX0_init_30 : decode cX0_init 30 = .ok (.putfield 22, 3) := by decide +kernel
theorem dX0_init_33 : decode cX0_init 33 = .ok (.return_, 1) := by decide +kernel
theorem dX0_add_0 : decode cX0_add 0 = .ok (.aload_n 0, 1) := by decide +kernel
theorem dX0_add_1 : decode cX0_add 1 = .ok (.getfield 9, 3) := by decide +kernel
theorem dX0_add_4 : decode cX0_add 4 = .ok (.bipush 20, 2) := by decide +kernel
theorem dX0_add_6 : decode cX0_add 6 = .ok (.if_icmp .lt 7, 3) := by decide +kernel
theorem dX0_add_9 : decode cX0_add 9 = .ok (.aload_n 0, 1) := by decide +kernel
theorem dX0_add_10 : decode cX0_add 10 = .ok (.invokevirtual 25, 3) := by decide +kernel
theorem dX0_add_13 : decode cX0_add 13 = .ok (.aload_n 0, 1) := by decide +kernel
theorem dX0_add_14 : decode cX0_add 14 = .ok (.getfield 15, 3) := by decide +kernel
theorem dX0_add_17 : decode cX0_add 17 = .ok (.aload_n 0, 1) := by decide +kernel
theorem dX0_add_18 : decode cX0_add 18 = .ok (.getfield 9, 3) := by decide +kernel
theorem dX0_add_21 : decode cX0_add 21 = .ok (.iload_n 1, 1) := by decide +kernel
theorem dX0_add_22 : decode cX0_add 22 = .ok (.iastore, 1) := by decide +kernel
theorem dX0_add_23 : decode cX0_add 23 = .ok (.aload_n 0, 1) := by decide +kernel
theorem dX0_add_24 : decode cX0_add 24 = .ok (.getfield 19, 3) := by decide +kernel
theorem dX0_add_27 : decode cX0_add 27 = .ok (.aload_n 0, 1) := by decide +kernel
theorem dX0_add_28 : decode cX0_add 28 = .ok (.getfield 9, 3) := by decide +kernel
theorem dX0_add_31 : decode cX0_add 31 = .ok (.iload_n 2, 1) := by decide +kernel
theorem dX0_add_32 : decode cX0_add 32 = .ok (.iastore, 1) := by decide +kernel
theorem dX0_add_33 : decode cX0_add 33 = .ok (.aload_n 0, 1) := by decide +kernel
theorem dX0_add_34 : decode cX0_add 34 = .ok (.getfield 22, 3) := by decide +kernel
theorem dX0_add_37 : decode cX0_add 37 = .ok (.aload_n 0, 1) := by decide +kernel
theorem dX0_add_38 : decode cX0_add 38 = .ok (.getfield 9, 3) := by decide +kernel
theorem dX0_add_41 : decode cX0_add 41 = .ok (.iload_n 3, 1) := by decide +kernel
theorem dX0_add_42 : decode cX0_add 42 = .ok (.iastore, 1) := by decide +kernel
theorem dX0_add_43 : decode cX0_add 43 = .ok (.aload_n 0, 1) := by decide +kernel
theorem dX0_add_44 : decode cX0_add 44 = .ok (.dup, 1) := by decide +kernel
theorem dX0_add_45 : decode cX0_add 45 = .ok (.getfield 9, 3) := by decide +kernel
theorem dX0_add_48 : decode cX0_add 48 = .ok (.iconst 1, 1) := by decide +kernel
theorem dX0_add_49 : decode cX0_add 49 = .ok (.iadd, 1) := by decide +kernel
theorem dX0_add_50 : decode cX0_add 50 = .ok (.putfield 9, 3) := by decide +kernel
theorem dX0_add_53 : decode cX0_add 53 = .ok (.return_, 1) := by decide +kernel
theorem dX0_dropOldest_0 : decode cX0_dropOldest 0 = .ok (.iconst 1, 1) := by decide +kernel
theorem dX0_dropOldest_1 : decode cX0_dropOldest 1 = .ok (.istore_n 1, 1) := by decide +kernel
theorem dX0_dropOldest_2 : decode cX0_dropOldest 2 = .ok (.iload_n 1, 1) := by decide +kernel
theorem dX0_dropOldest_3 : decode cX0_dropOldest 3 = .ok (.bipush 20, 2) := by decide +kernel
theorem dX0_dropOldest_5 : decode cX0_dropOldest 5 = .ok (.if_icmp .ge 51, 3) := by decide +kernel
theorem dX0_dropOldest_8 : decode cX0_dropOldest 8 = .ok (.aload_n 0, 1) := by decide +kernel
theorem dX0_dropOldest_9 : decode cX0_dropOldest 9 = .ok (.getfield 15, 3) := by decide +kernel
theorem dX0_dropOldest_12 : decode cX0_dropOldest 12 = .ok (.iload_n 1, 1) := by decide +kernel
theorem dX0_dropOldest_13 : decode cX0_dropOldest 13 = .ok (.iconst 1, 1) := by decide +kernel
theorem dX0_dropOldest_14 : decode cX0_dropOldest 14 = .ok (.isub, 1) := by decide +kernel
theorem dX0_dropOldest_15 : decode cX0_dropOldest 15 = .ok (.aload_n 0, 1) := by decide +kernel
theorem dX0_dropOldest_16 : decode cX0_dropOldest 16 = .ok (.getfield 15, 3) := by decide +kernel
theorem dX0_dropOldest_19 : decode cX0_dropOldest 19 = .ok (.iload_n 1, 1) := by decide +kernel
theorem dX0_dropOldest_20 : decode cX0_dropOldest 20 = .ok (.iaload, 1) := by decide +kernel
theorem dX0_dropOldest_21 : decode cX0_dropOldest 21 = .ok (.iastore, 1) := by decide +kernel
theorem dX0_dropOldest_22 : decode cX0_dropOldest 22 = .ok (.aload_n 0, 1) := by decide +kernel
theorem dX0_dropOldest_23 : decode cX0_dropOldest 23 = .ok (.getfield 19, 3) := by decide +kernel
theorem dX0_dropOldest_26 : decode cX0_dropOldest 26 = .ok (.iload_n 1, 1) := by decide +kernel
theorem dX0_dropOldest_27 : decode cX0_dropOldest 27 = .ok (.iconst 1, 1) := by decide +kernel
theorem dX0_dropOldest_28 : decode cX0_dropOldest 28 = .ok (.isub, 1) := by decide +kernel
theorem dX0_dropOldest_29 : decode cX0_dropOldest 29 = .ok (.aload_n 0, 1) := by decide +kernel
theorem dX0_dropOldest_30 : decode cX0_dropOldest 30 = .ok (.getfield 19, 3) := by decide +kernel
theorem dX0_dropOldest_33 : decode cX0_dropOldest 33 = .ok (.iload_n 1, 1) := by decide +kernel
theorem dX0_dropOldest_34 : decode cX0_dropOldest 34 = .ok (.iaload, 1) := by decide +kernel
theorem dX0_dropOldest_35 : decode cX0_dropOldest 35 = .ok (.iastore, 1) := by decide +kernel
theorem dX0_dropOldest_36 : decode cX0_dropOldest 36 = .ok (.aload_n 0, 1) := by decide +kernel
theorem dX0_dropOldest_37 : decode cX0_dropOldest 37 = .ok (.getfield 22, 3) := by decide +kernel
theorem dX0_dropOldest_40 : decode cX0_dropOldest 40 = .ok (.iload_n 1, 1) := by decide +kernel
theorem dX0_dropOldest_41 : decode cX0_dropOldest 41 = .ok (.iconst 1, 1) := by decide +kernel
theorem dX0_dropOldest_42 : decode cX0_dropOldest 42 = .ok (.isub, 1) := by decide +kernel
theorem dX0_dropOldest_43 : decode cX0_dropOldest 43 = .ok (.aload_n 0, 1) := by decide +kernel
theorem dX0_dropOldest_44 : decode cX0_dropOldest 44 = .ok (.getfield 22, 3) := by decide +kernel
theorem dX0_dropOldest_47 : decode cX0_dropOldest 47 = .ok (.iload_n 1, 1) := by decide +kernel
theorem dX0_dropOldest_48 : decode cX0_dropOldest 48 = .ok (.iaload, 1) := by decide +kernel
theorem dX0_dropOldest_49 : decode cX0_dropOldest 49 = .ok (.iastore, 1) := by decide +kernel
theorem dX0_dropOldest_50 : decode cX0_dropOldest 50 = .ok (.iinc 1 1, 3) := by decide +kernel
theorem dX0_dropOldest_53 : decode cX0_dropOldest 53 = .ok (.goto (-51), 3) := by decide +kernel
theorem dX0_dropOldest_56 : decode cX0_dropOldest 56 = .ok (.aload_n 0, 1) := by decide +kernel
theorem dX0_dropOldest_57 : decode cX0_dropOldest 57 = .ok (.bipush 19, 2) := by decide +kernel
theorem dX0_dropOldest_59 : decode cX0_dropOldest 59 = .ok (.putfield 9, 3) := by decide +kernel
theorem dX0_dropOldest_62 : decode cX0_dropOldest 62 = .ok (.return_, 1) := by decide +kernel
theorem dX0_undoIn_0 : decode cX0_undoIn 0 = .ok (.aload_n 0, 1) := by decide +kernel
theorem dX0_undoIn_1 : decode cX0_undoIn 1 = .ok (.getfield 9, 3) := by decide +kernel
theorem dX0_undoIn_4 : decode cX0_undoIn 4 = .ok (.ifCond .gt 4, 3) := by decide +kernel
theorem dX0_undoIn_7 : decode cX0_undoIn 7 = .ok (.return_, 1) := by decide +kernel
theorem dX0_undoIn_8 : decode cX0_undoIn 8 = .ok (.aload_n 0, 1) := by decide +kernel
theorem dX0_undoIn_9 : decode cX0_undoIn 9 = .ok (.dup, 1) := by decide +kernel
theorem dX0_undoIn_10 : decode cX0_undoIn 10 = .ok (.getfield 9, 3) := by decide +kernel
theorem dX0_undoIn_13 : decode cX0_undoIn 13 = .ok (.iconst 1, 1) := by decide +kernel
theorem dX0_undoIn_14 : decode cX0_undoIn 14 = .ok (.isub, 1) := by decide +kernel
theorem dX0_undoIn_15 : decode cX0_undoIn 15 = .ok (.putfield 9, 3) := by decide +kernel
theorem dX0_undoIn_18 : decode cX0_undoIn 18 = .ok (.aload_n 0, 1) := by decide +kernel
theorem dX0_undoIn_19 : decode cX0_undoIn 19 = .ok (.getfield 19, 3) := by decide +kernel
theorem dX0_undoIn_22 : decode cX0_undoIn 22 = .ok (.aload_n 0, 1) := by decide +kernel
theorem dX0_undoIn_23 : decode cX0_undoIn 23 = .ok (.getfield 9, 3) := by decide +kernel
theorem dX0_undoIn_26 : decode cX0_undoIn 26 = .ok (.iaload, 1) := by decide +kernel
theorem dX0_undoIn_27 : decode cX0_undoIn 27 = .ok (.istore_n 2, 1) := by decide +kernel
theorem dX0_undoIn_28 : decode cX0_undoIn 28 = .ok (.aload_n 0, 1) := by decide +kernel
theorem dX0_undoIn_29 : decode cX0_undoIn 29 = .ok (.getfield 22, 3) := by decide +kernel
theorem dX0_undoIn_32 : decode cX0_undoIn 32 = .ok (.aload_n 0, 1) := by decide +kernel
theorem dX0_undoIn_33 : decode cX0_undoIn 33 = .ok (.getfield 9, 3) := by decide +kernel
theorem dX0_undoIn_36 : decode cX0_undoIn 36 = .ok (.iaload, 1) := by decide +kernel
theorem dX0_undoIn_37 : decode cX0_undoIn 37 = .ok (.istore_n 3, 1) := by decide +kernel
theorem dX0_undoIn_38 : decode cX0_undoIn 38 = .ok (.aload_n 0, 1) := by decide +kernel
theorem dX0_undoIn_39 : decode cX0_undoIn 39 = .ok (.getfield 15, 3) := by decide +kernel
theorem dX0_undoIn_42 : decode cX0_undoIn 42 = .ok (.aload_n 0, 1) := by decide +kernel
theorem dX0_undoIn_43 : decode cX0_undoIn 43 = .ok (.getfield 9, 3) := by decide +kernel
theorem dX0_undoIn_46 : decode cX0_undoIn 46 = .ok (.iaload, 1) := by decide +kernel
theorem dX0_undoIn_47 : decode cX0_undoIn 47 = .ok (.tableswitch 72 0 3 #[29, 39, 52, 62], 29) := by decide +kernel
theorem dX0_undoIn_76 : decode cX0_undoIn 76 = .ok (.aload_n 1, 1) := by decide +kernel
theorem dX0_undoIn_77 : decode cX0_undoIn 77 = .ok (.getfield 28, 3) := by decide +kernel
theorem dX0_undoIn_80 : decode cX0_undoIn 80 = .ok (.iload_n 2, 1) := by decide +kernel
theorem dX0_undoIn_81 : decode cX0_undoIn 81 = .ok (.iload_n 3, 1) := by decide +kernel
theorem dX0_undoIn_82 : decode cX0_undoIn 82 = .ok (.iastore, 1) := by decide +kernel
theorem dX0_undoIn_83 : decode cX0_undoIn 83 = .ok (.goto 36, 3) := by decide +kernel
theorem dX0_undoIn_86 : decode cX0_undoIn 86 = .ok (.aload_n 1, 1) := by decide +kernel
theorem dX0_undoIn_87 : decode cX0_undoIn 87 = .ok (.iload_n 2, 1) := by decide +kernel
theorem dX0_undoIn_88 : decode cX0_undoIn 88 = .ok (.invokevirtual 33, 3) := by decide +kernel
theorem dX0_undoIn_91 : decode cX0_undoIn 91 = .ok (.aload_n 1, 1) := by decide +kernel
theorem dX0_undoIn_92 : decode cX0_undoIn 92 = .ok (.iload_n 3, 1) := by decide +kernel
theorem dX0_undoIn_93 : decode cX0_undoIn 93 = .ok (.invokevirtual 33, 3) := by decide +kernel
theorem dX0_undoIn_96 : decode cX0_undoIn 96 = .ok (.goto 23, 3) := by decide +kernel
theorem dX0_undoIn_99 : decode cX0_undoIn 99 = .ok (.aload_n 1, 1) := by decide +kernel
theorem dX0_undoIn_100 : decode cX0_undoIn 100 = .ok (.getfield 37, 3) := by decide +kernel
theorem dX0_undoIn_103 : decode cX0_undoIn 103 = .ok (.iload_n 2, 1) := by decide +kernel
theorem dX0_undoIn_104 : decode cX0_undoIn 104 = .ok (.iload_n 3, 1) := by decide +kernel
theorem dX0_undoIn_105 : decode cX0_undoIn 105 = .ok (.iastore, 1) := by decide +kernel
theorem dX0_undoIn_106 : decode cX0_undoIn 106 = .ok (.goto 13, 3) := by decide +kernel
theorem dX0_undoIn_109 : decode cX0_undoIn 109 = .ok (.aload_n 1, 1) := by decide +kernel
theorem dX0_undoIn_110 : decode cX0_undoIn 110 = .ok (.getfield 40, 3) := by decide +kernel
theorem dX0_undoIn_113 : decode cX0_undoIn 113 = .ok (.iload_n 2, 1) := by decide +kernel
theorem dX0_undoIn_114 : decode cX0_undoIn 114 = .ok (.iload_n 3, 1) := by decide +kernel
theorem dX0_undoIn_115 : decode cX0_undoIn 115 = .ok (.iastore, 1) := by decide +kernel
theorem dX0_undoIn_116 : decode cX0_undoIn 116 = .ok (.goto 3, 3) := by decide +kernel
theorem dX0_undoIn_119 : decode cX0_undoIn 119 = .ok (.return_, 1) := by decide +kernel
theorem dX1_init_0 : decode cX1_init 0 = .ok (.aload_n 0, 1) := by decide +kernel
theorem dX1_init_1 : decode cX1_init 1 = .ok (.invokespecial 3, 3) := by decide +kernel
theorem dX1_init_4 : decode cX1_init 4 = .ok (.aload_n 0, 1) := by decide +kernel
theorem dX1_init_5 : decode cX1_init 5 = .ok (.iconst 0, 1) := by decide +kernel
theorem dX1_init_6 : decode cX1_init 6 = .ok (.putfield 9, 3) := by decide +kernel
theorem dX1_init_9 : decode cX1_init 9 = .ok (.aload_n 0, 1) := by decide +kernel
theorem dX1_init_10 : decode cX1_init 10 = .ok (.iconst 0, 1) := by decide +kernel
theorem dX1_init_11 : decode cX1_init 11 = .ok (.putfield 15, 3) := by decide +kernel
theorem dX1_init_14 : decode cX1_init 14 = .ok (.aload_n 0, 1) := by decide +kernel
theorem dX1_init_15 : decode cX1_init 15 = .ok (.bipush 64, 2) := by decide +kernel
theorem dX1_init_17 : decode cX1_init 17 = .ok (.newarray .int, 2) := by decide +kernel
theorem dX1_init_19 : decode cX1_init 19 = .ok (.putfield 19, 3) := by decide +kernel
theorem dX1_init_22 : decode cX1_init 22 = .ok (.aload_n 0, 1) := by decide +kernel
theorem dX1_init_23 : decode cX1_init 23 = .ok (.bipush 64, 2) := by decide +kernel
theorem dX1_init_25 : decode cX1_init 25 = .ok (.newarray .long, 2) := by decide +kernel
theorem dX1_init_27 : decode cX1_init 27 = .ok (.putfield 23, 3) := by decide +kernel
theorem dX1_init_30 : decode cX1_init 30 = .ok (.return_, 1) := by decide +kernel
theorem dX1_clear_0 : decode cX1_clear 0 = .ok (.aload_n 0, 1) := by decide +kernel
theorem dX1_clear_1 : decode cX1_clear 1 = .ok (.iconst 0, 1) := by decide +kernel
theorem dX1_clear_2 : decode cX1_clear 2 = .ok (.putfield 9, 3) := by decide +kernel
theorem dX1_clear_5 : decode cX1_clear 5 = .ok (.aload_n 0, 1) := by decide +kernel
theorem dX1_clear_6 : decode cX1_clear 6 = .ok (.iconst 0, 1) := by decide +kernel
theorem dX1_clear_7 : decode cX1_clear 7 = .ok (.putfield 15, 3) := by decide +kernel
theorem dX1_clear_10 : decode cX1_clear 10 = .ok (.return_, 1) := by decide +kernel
theorem dX1_take_0 : decode cX1_take 0 = .ok (.aload_n 0, 1) := by decide +kernel
theorem dX1_take_1 : decode cX1_take 1 = .ok (.aload_n 1, 1) := by decide +kernel
theorem dX1_take_2 : decode cX1_take 2 = .ok (.getfield 9, 3) := by decide +kernel
theorem dX1_take_5 : decode cX1_take 5 = .ok (.putfield 9, 3) := by decide +kernel
theorem dX1_take_8 : decode cX1_take 8 = .ok (.aload_n 0, 1) := by decide +kernel
theorem dX1_take_9 : decode cX1_take 9 = .ok (.aload_n 1, 1) := by decide +kernel
theorem dX1_take_10 : decode cX1_take 10 = .ok (.getfield 15, 3) := by decide +kernel
theorem dX1_take_13 : decode cX1_take 13 = .ok (.putfield 15, 3) := by decide +kernel
theorem dX1_take_16 : decode cX1_take 16 = .ok (.iconst 0, 1) := by decide +kernel
theorem dX1_take_17 : decode cX1_take 17 = .ok (.istore_n 2, 1) := by decide +kernel
theorem dX1_take_18 : decode cX1_take 18 = .ok (.iload_n 2, 1) := by decide +kernel
theorem dX1_take_19 : decode cX1_take 19 = .ok (.aload_n 0, 1) := by decide +kernel
theorem dX1_take_20 : decode cX1_take 20 = .ok (.getfield 15, 3) := by decide +kernel
theorem dX1_take_23 : decode cX1_take 23 = .ok (.if_icmp .ge 21, 3) := by decide +kernel
theorem dX1_take_26 : decode cX1_take 26 = .ok (.aload_n 0, 1) := by decide +kernel
theorem dX1_take_27 : decode cX1_take 27 = .ok (.getfield 19, 3) := by decide +kernel
theorem dX1_take_30 : decode cX1_take 30 = .ok (.iload_n 2, 1) := by decide +kernel
theorem dX1_take_31 : decode cX1_take 31 = .ok (.aload_n 1, 1) := by decide +kernel
theorem dX1_take_32 : decode cX1_take 32 = .ok (.getfield 19, 3) := by decide +kernel
theorem dX1_take_35 : decode cX1_take 35 = .ok (.iload_n 2, 1) := by decide +kernel
theorem dX1_take_36 : decode cX1_take 36 = .ok (.iaload, 1) := by decide +kernel
theorem dX1_take_37 : decode cX1_take 37 = .ok (.iastore, 1) := by decide +kernel
theorem dX1_take_38 : decode cX1_take 38 = .ok (.iinc 2 1, 3) := by decide +kernel
theorem dX1_take_41 : decode cX1_take 41 = .ok (.goto (-23), 3) := by decide +kernel
theorem dX1_take_44 : decode cX1_take 44 = .ok (.return_, 1) := by decide +kernel
theorem dX1_add_0 : decode cX1_add 0 = .ok (.aload_n 0, 1) := by decide +kernel
theorem dX1_add_1 : decode cX1_add 1 = .ok (.getfield 15, 3) := by decide +kernel
theorem dX1_add_4 : decode cX1_add 4 = .ok (.bipush 64, 2) := by decide +kernel
theorem dX1_add_6 : decode cX1_add 6 = .ok (.if_icmp .ge 23, 3) := by decide +kernel
theorem dX1_add_9 : decode cX1_add 9 = .ok (.aload_n 0, 1) := by decide +kernel
theorem dX1_add_10 : decode cX1_add 10 = .ok (.getfield 19, 3) := by decide +kernel
theorem dX1_add_13 : decode cX1_add 13 = .ok (.aload_n 0, 1) := by decide +kernel
theorem dX1_add_14 : decode cX1_add 14 = .ok (.getfield 15, 3) := by decide +kernel
theorem dX1_add_17 : decode cX1_add 17 = .ok (.iload_n 1, 1) := by decide +kernel
theorem dX1_add_18 : decode cX1_add 18 = .ok (.iastore, 1) := by decide +kernel
theorem dX1_add_19 : decode cX1_add 19 = .ok (.aload_n 0, 1) := by decide +kernel
theorem dX1_add_20 : decode cX1_add 20 = .ok (.dup, 1) := by decide +kernel
theorem dX1_add_21 : decode cX1_add 21 = .ok (.getfield 15, 3) := by decide +kernel
theorem dX1_add_24 : decode cX1_add 24 = .ok (.iconst 1, 1) := by decide +kernel
theorem dX1_add_25 : decode cX1_add 25 = .ok (.iadd, 1) := by decide +kernel
theorem dX1_add_26 : decode cX1_add 26 = .ok (.putfield 15, 3) := by decide +kernel
theorem dX1_add_29 : decode cX1_add 29 = .ok (.iconst 1, 1) := by decide +kernel
theorem dX1_add_30 : decode cX1_add 30 = .ok (.ireturn, 1) := by decide +kernel
theorem dX1_valueFor_0 : decode cX1_valueFor 0 = .ok (.iconst 0, 1) := by decide +kernel
theorem dX1_valueFor_1 : decode cX1_valueFor 1 = .ok (.istore_n 2, 1) := by decide +kernel
theorem dX1_valueFor_2 : decode cX1_valueFor 2 = .ok (.iconst 0, 1) := by decide +kernel
theorem dX1_valueFor_3 : decode cX1_valueFor 3 = .ok (.istore_n 3, 1) := by decide +kernel
theorem dX1_valueFor_4 : decode cX1_valueFor 4 = .ok (.iload_n 3, 1) := by decide +kernel
theorem dX1_valueFor_5 : decode cX1_valueFor 5 = .ok (.aload_n 0, 1) := by decide +kernel
theorem dX1_valueFor_6 : decode cX1_valueFor 6 = .ok (.getfield 15, 3) := by decide +kernel
theorem dX1_valueFor_9 : decode cX1_valueFor 9 = .ok (.if_icmp .ge 186, 3) := by decide +kernel
theorem dX1_valueFor_12 : decode cX1_valueFor 12 = .ok (.aload_n 0, 1) := by decide +kernel
theorem dX1_valueFor_13 : decode cX1_valueFor 13 = .ok (.getfield 19, 3) := by decide +kernel
theorem dX1_valueFor_16 : decode cX1_valueFor 16 = .ok (.iload_n 3, 1) := by decide +kernel
theorem dX1_valueFor_17 : decode cX1_valueFor 17 = .ok (.iaload, 1) := by decide +kernel
theorem dX1_valueFor_18 : decode cX1_valueFor 18 = .ok (.istore 4, 2) := by decide +kernel
theorem dX1_valueFor_20 : decode cX1_valueFor 20 = .ok (.iload 4, 2) := by decide +kernel
theorem dX1_valueFor_22 : decode cX1_valueFor 22 = .ok (.bipush 100, 2) := by decide +kernel
theorem dX1_valueFor_24 : decode cX1_valueFor 24 = .ok (.if_icmp .lt 21, 3) := by decide +kernel
theorem dX1_valueFor_27 : decode cX1_valueFor 27 = .ok (.aload_n 0, 1) := by decide +kernel
theorem dX1_valueFor_28 : decode cX1_valueFor 28 = .ok (.getfield 23, 3) := by decide +kernel
theorem dX1_valueFor_31 : decode cX1_valueFor 31 = .ok (.iload_n 2, 1) := by decide +kernel
theorem dX1_valueFor_32 : decode cX1_valueFor 32 = .ok (.iload 4, 2) := by decide +kernel
theorem dX1_valueFor_34 : decode cX1_valueFor 34 = .ok (.bipush 100, 2) := by decide +kernel
theorem dX1_valueFor_36 : decode cX1_valueFor 36 = .ok (.isub, 1) := by decide +kernel
theorem dX1_valueFor_37 : decode cX1_valueFor 37 = .ok (.i2l, 1) := by decide +kernel
theorem dX1_valueFor_38 : decode cX1_valueFor 38 = .ok (.lastore, 1) := by decide +kernel
theorem dX1_valueFor_39 : decode cX1_valueFor 39 = .ok (.iinc 2 1, 3) := by decide +kernel
theorem dX1_valueFor_42 : decode cX1_valueFor 42 = .ok (.goto 147, 3) := by decide +kernel
theorem dX1_valueFor_45 : decode cX1_valueFor 45 = .ok (.iload 4, 2) := by decide +kernel
theorem dX1_valueFor_47 : decode cX1_valueFor 47 = .ok (.bipush 20, 2) := by decide +kernel
theorem dX1_valueFor_49 : decode cX1_valueFor 49 = .ok (.if_icmp .lt 30, 3) := by decide +kernel
theorem dX1_valueFor_52 : decode cX1_valueFor 52 = .ok (.iload 4, 2) := by decide +kernel
theorem dX1_valueFor_54 : decode cX1_valueFor 54 = .ok (.bipush 26, 2) := by decide +kernel
theorem dX1_valueFor_56 : decode cX1_valueFor 56 = .ok (.if_icmp .gt 23, 3) := by decide +kernel
theorem dX1_valueFor_59 : decode cX1_valueFor 59 = .ok (.aload_n 0, 1) := by decide +kernel
theorem dX1_valueFor_60 : decode cX1_valueFor 60 = .ok (.getfield 23, 3) := by decide +kernel
theorem dX1_valueFor_63 : decode cX1_valueFor 63 = .ok (.iload_n 2, 1) := by decide +kernel
theorem dX1_valueFor_64 : decode cX1_valueFor 64 = .ok (.aload_n 1, 1) := by decide +kernel
theorem dX1_valueFor_65 : decode cX1_valueFor 65 = .ok (.iload 4, 2) := by decide +kernel
theorem dX1_valueFor_67 : decode cX1_valueFor 67 = .ok (.bipush 20, 2) := by decide +kernel
theorem dX1_valueFor_69 : decode cX1_valueFor 69 = .ok (.isub, 1) := by decide +kernel
theorem dX1_valueFor_70 : decode cX1_valueFor 70 = .ok (.iaload, 1) := by decide +kernel
theorem dX1_valueFor_71 : decode cX1_valueFor 71 = .ok (.i2l, 1) := by decide +kernel
theorem dX1_valueFor_72 : decode cX1_valueFor 72 = .ok (.lastore, 1) := by decide +kernel
theorem dX1_valueFor_73 : decode cX1_valueFor 73 = .ok (.iinc 2 1, 3) := by decide +kernel
theorem dX1_valueFor_76 : decode cX1_valueFor 76 = .ok (.goto 113, 3) := by decide +kernel
theorem dX1_valueFor_79 : decode cX1_valueFor 79 = .ok (.iload 4, 2) := by decide +kernel
theorem dX1_valueFor_81 : decode cX1_valueFor 81 = .ok (.bipush 19, 2) := by decide +kernel
theorem dX1_valueFor_83 : decode cX1_valueFor 83 = .ok (.if_icmp .ne 41, 3) := by decide +kernel
theorem dX1_valueFor_86 : decode cX1_valueFor 86 = .ok (.iload_n 2, 1) := by decide +kernel
theorem dX1_valueFor_87 : decode cX1_valueFor 87 = .ok (.iconst 1, 1) := by decide +kernel
theorem dX1_valueFor_88 : decode cX1_valueFor 88 = .ok (.if_icmp .ge 7, 3) := by decide +kernel
theorem dX1_valueFor_91 : decode cX1_valueFor 91 = .ok (.ldc2_w 27, 3) := by decide +kernel
theorem dX1_valueFor_94 : decode cX1_valueFor 94 = .ok (.lreturn, 1) := by decide +kernel
theorem dX1_valueFor_95 : decode cX1_valueFor 95 = .ok (.aload_n 0, 1) := by decide +kernel
theorem dX1_valueFor_96 : decode cX1_valueFor 96 = .ok (.getfield 23, 3) := by decide +kernel
theorem dX1_valueFor_99 : decode cX1_valueFor 99 = .ok (.iload_n 2, 1) := by decide +kernel
theorem dX1_valueFor_100 : decode cX1_valueFor 100 = .ok (.iconst 1, 1) := by decide +kernel
theorem dX1_valueFor_101 : decode cX1_valueFor 101 = .ok (.isub, 1) := by decide +kernel
theorem dX1_valueFor_102 : decode cX1_valueFor 102 = .ok (.aload_n 0, 1) := by decide +kernel
theorem dX1_valueFor_103 : decode cX1_valueFor 103 = .ok (.getfield 23, 3) := by decide +kernel
theorem dX1_valueFor_106 : decode cX1_valueFor 106 = .ok (.iload_n 2, 1) := by decide +kernel
theorem dX1_valueFor_107 : decode cX1_valueFor 107 = .ok (.iconst 1, 1) := by decide +kernel
theorem dX1_valueFor_108 : decode cX1_valueFor 108 = .ok (.isub, 1) := by decide +kernel
theorem dX1_valueFor_109 : decode cX1_valueFor 109 = .ok (.laload, 1) := by decide +kernel
theorem dX1_valueFor_110 : decode cX1_valueFor 110 = .ok (.lconst 0, 1) := by decide +kernel
theorem dX1_valueFor_111 : decode cX1_valueFor 111 = .ok (.lcmp, 1) := by decide +kernel
theorem dX1_valueFor_112 : decode cX1_valueFor 112 = .ok (.ifCond .ne 7, 3) := by decide +kernel
theorem dX1_valueFor_115 : decode cX1_valueFor 115 = .ok (.lconst 1, 1) := by decide +kernel
theorem dX1_valueFor_116 : decode cX1_valueFor 116 = .ok (.goto 4, 3) := by decide +kernel
theorem dX1_valueFor_119 : decode cX1_valueFor 119 = .ok (.lconst 0, 1) := by decide +kernel
theorem dX1_valueFor_120 : decode cX1_valueFor 120 = .ok (.lastore, 1) := by decide +kernel
theorem dX1_valueFor_121 : decode cX1_valueFor 121 = .ok (.goto 68, 3) := by decide +kernel
theorem dX1_valueFor_124 : decode cX1_valueFor 124 = .ok (.iload_n 2, 1) := by decide +kernel
theorem dX1_valueFor_125 : decode cX1_valueFor 125 = .ok (.iconst 2, 1) := by decide +kernel
theorem dX1_valueFor_126 : decode cX1_valueFor 126 = .ok (.if_icmp .ge 7, 3) := by decide +kernel
theorem dX1_valueFor_129 : decode cX1_valueFor 129 = .ok (.ldc2_w 27, 3) := by decide +kernel
theorem dX1_valueFor_132 : decode cX1_valueFor 132 = .ok (.lreturn, 1) := by decide +kernel
theorem dX1_valueFor_133 : decode cX1_valueFor 133 = .ok (.iinc 2 (-1), 3) := by decide +kernel
theorem dX1_valueFor_136 : decode cX1_valueFor 136 = .ok (.iload 4, 2) := by decide +kernel
theorem dX1_valueFor_138 : decode cX1_valueFor 138 = .ok (.aload_n 0, 1) := by decide +kernel
theorem dX1_valueFor_139 : decode cX1_valueFor 139 = .ok (.getfield 23, 3) := by decide +kernel
theorem dX1_valueFor_142 : decode cX1_valueFor 142 = .ok (.iload_n 2, 1) := by decide +kernel
theorem dX1_valueFor_143 : decode cX1_valueFor 143 = .ok (.iconst 1, 1) := by decide +kernel
theorem dX1_valueFor_144 : decode cX1_valueFor 144 = .ok (.isub, 1) := by decide +kernel
theorem dX1_valueFor_145 : decode cX1_valueFor 145 = .ok (.laload, 1) := by decide +kernel
theorem dX1_valueFor_146 : decode cX1_valueFor 146 = .ok (.aload_n 0, 1) := by decide +kernel
theorem dX1_valueFor_147 : decode cX1_valueFor 147 = .ok (.getfield 23, 3) := by decide +kernel
theorem dX1_valueFor_150 : decode cX1_valueFor 150 = .ok (.iload_n 2, 1) := by decide +kernel
theorem dX1_valueFor_151 : decode cX1_valueFor 151 = .ok (.laload, 1) := by decide +kernel
theorem dX1_valueFor_152 : decode cX1_valueFor 152 = .ok (.invokestatic 29, 3) := by decide +kernel
theorem dX1_valueFor_155 : decode cX1_valueFor 155 = .ok (.lstore 5, 2) := by decide +kernel
theorem dX1_valueFor_157 : decode cX1_valueFor 157 = .ok (.lload 5, 2) := by decide +kernel
theorem dX1_valueFor_159 : decode cX1_valueFor 159 = .ok (.ldc2_w 33, 3) := by decide +kernel
theorem dX1_valueFor_162 : decode cX1_valueFor 162 = .ok (.lcmp, 1) := by decide +kernel
theorem dX1_valueFor_163 : decode cX1_valueFor 163 = .ok (.ifCond .gt 12, 3) := by decide +kernel
theorem dX1_valueFor_166 : decode cX1_valueFor 166 = .ok (.lload 5, 2) := by decide +kernel
theorem dX1_valueFor_168 : decode cX1_valueFor 168 = .ok (.ldc2_w 35, 3) := by decide +kernel
theorem dX1_valueFor_171 : decode cX1_valueFor 171 = .ok (.lcmp, 1) := by decide +kernel
theorem dX1_valueFor_172 : decode cX1_valueFor 172 = .ok (.ifCond .ge 7, 3) := by decide +kernel
theorem dX1_valueFor_175 : decode cX1_valueFor 175 = .ok (.ldc2_w 27, 3) := by decide +kernel
theorem dX1_valueFor_178 : decode cX1_valueFor 178 = .ok (.lreturn, 1) := by decide +kernel
theorem dX1_valueFor_179 : decode cX1_valueFor 179 = .ok (.aload_n 0, 1) := by decide +kernel
theorem dX1_valueFor_180 : decode cX1_valueFor 180 = .ok (.getfield 23, 3) := by decide +kernel
theorem dX1_valueFor_183 : decode cX1_valueFor 183 = .ok (.iload_n 2, 1) := by decide +kernel
theorem dX1_valueFor_184 : decode cX1_valueFor 184 = .ok (.iconst 1, 1) := by decide +kernel
theorem dX1_valueFor_185 : decode cX1_valueFor 185 = .ok (.isub, 1) := by decide +kernel
theorem dX1_valueFor_186 : decode cX1_valueFor 186 = .ok (.lload 5, 2) := by decide +kernel
theorem dX1_valueFor_188 : decode cX1_valueFor 188 = .ok (.lastore, 1) := by decide +kernel
theorem dX1_valueFor_189 : decode cX1_valueFor 189 = .ok (.iinc 3 1, 3) := by decide +kernel
theorem dX1_valueFor_192 : decode cX1_valueFor 192 = .ok (.goto (-188), 3) := by decide +kernel
theorem dX1_valueFor_195 : decode cX1_valueFor 195 = .ok (.iload_n 2, 1) := by decide +kernel
theorem dX1_valueFor_196 : decode cX1_valueFor 196 = .ok (.iconst 1, 1) := by decide +kernel
theorem dX1_valueFor_197 : decode cX1_valueFor 197 = .ok (.if_icmp .ne 12, 3) := by decide +kernel
theorem dX1_valueFor_200 : decode cX1_valueFor 200 = .ok (.aload_n 0, 1) := by decide +kernel
theorem dX1_valueFor_201 : decode cX1_valueFor 201 = .ok (.getfield 23, 3) := by decide +kernel
theorem dX1_valueFor_204 : decode cX1_valueFor 204 = .ok (.iconst 0, 1) := by decide +kernel
theorem dX1_valueFor_205 : decode cX1_valueFor 205 = .ok (.laload, 1) := by decide +kernel
theorem dX1_valueFor_206 : decode cX1_valueFor 206 = .ok (.goto 6, 3) := by decide +kernel
theorem dX1_valueFor_209 : decode cX1_valueFor 209 = .ok (.ldc2_w 27, 3) := by decide +kernel
theorem dX1_valueFor_212 : decode cX1_valueFor 212 = .ok (.lreturn, 1) := by decide +kernel
theorem dX1_joined_0 : decode cX1_joined 0 = .ok (.iload_n 0, 1) := by decide +kernel
theorem dX1_joined_1 : decode cX1_joined 1 = .ok (.tableswitch 195 7 18 #[99, 111, 123, 135, 147, 159, 171, 175, 195, 179, 63, 81], 63) := by decide +kernel
theorem dX1_joined_64 : decode cX1_joined 64 = .ok (.lload_n 1, 1) := by decide +kernel
theorem dX1_joined_65 : decode cX1_joined 65 = .ok (.lconst 0, 1) := by decide +kernel
theorem dX1_joined_66 : decode cX1_joined 66 = .ok (.lcmp, 1) := by decide +kernel
theorem dX1_joined_67 : decode cX1_joined 67 = .ok (.ifCond .ne 9, 3) := by decide +kernel
theorem dX1_joined_70 : decode cX1_joined 70 = .ok (.lload_n 3, 1) := by decide +kernel
theorem dX1_joined_71 : decode cX1_joined 71 = .ok (.lconst 0, 1) := by decide +kernel
theorem dX1_joined_72 : decode cX1_joined 72 = .ok (.lcmp, 1) := by decide +kernel
theorem dX1_joined_73 : decode cX1_joined 73 = .ok (.ifCond .eq 7, 3) := by decide +kernel
theorem dX1_joined_76 : decode cX1_joined 76 = .ok (.lconst 1, 1) := by decide +kernel
theorem dX1_joined_77 : decode cX1_joined 77 = .ok (.goto 4, 3) := by decide +kernel
theorem dX1_joined_80 : decode cX1_joined 80 = .ok (.lconst 0, 1) := by decide +kernel
theorem dX1_joined_81 : decode cX1_joined 81 = .ok (.lreturn, 1) := by decide +kernel
theorem dX1_joined_82 : decode cX1_joined 82 = .ok (.lload_n 1, 1) := by decide +kernel
theorem dX1_joined_83 : decode cX1_joined 83 = .ok (.lconst 0, 1) := by decide +kernel
theorem dX1_joined_84 : decode cX1_joined 84 = .ok (.lcmp, 1) := by decide +kernel
theorem dX1_joined_85 : decode cX1_joined 85 = .ok (.ifCond .eq 13, 3) := by decide +kernel
theorem dX1_joined_88 : decode cX1_joined 88 = .ok (.lload_n 3, 1) := by decide +kernel
theorem dX1_joined_89 : decode cX1_joined 89 = .ok (.lconst 0, 1) := by decide +kernel
theorem dX1_joined_90 : decode cX1_joined 90 = .ok (.lcmp, 1) := by decide +kernel
theorem dX1_joined_91 : decode cX1_joined 91 = .ok (.ifCond .eq 7, 3) := by decide +kernel
theorem dX1_joined_94 : decode cX1_joined 94 = .ok (.lconst 1, 1) := by decide +kernel
theorem dX1_joined_95 : decode cX1_joined 95 = .ok (.goto 4, 3) := by decide +kernel
theorem dX1_joined_98 : decode cX1_joined 98 = .ok (.lconst 0, 1) := by decide +kernel
theorem dX1_joined_99 : decode cX1_joined 99 = .ok (.lreturn, 1) := by decide +kernel
theorem dX1_joined_100 : decode cX1_joined 100 = .ok (.lload_n 1, 1) := by decide +kernel
theorem dX1_joined_101 : decode cX1_joined 101 = .ok (.lload_n 3, 1) := by decide +kernel
theorem dX1_joined_102 : decode cX1_joined 102 = .ok (.lcmp, 1) := by decide +kernel
theorem dX1_joined_103 : decode cX1_joined 103 = .ok (.ifCond .ge 7, 3) := by decide +kernel
theorem dX1_joined_106 : decode cX1_joined 106 = .ok (.lconst 1, 1) := by decide +kernel
theorem dX1_joined_107 : decode cX1_joined 107 = .ok (.goto 4, 3) := by decide +kernel
theorem dX1_joined_110 : decode cX1_joined 110 = .ok (.lconst 0, 1) := by decide +kernel
theorem dX1_joined_111 : decode cX1_joined 111 = .ok (.lreturn, 1) := by decide +kernel
theorem dX1_joined_112 : decode cX1_joined 112 = .ok (.lload_n 1, 1) := by decide +kernel
theorem dX1_joined_113 : decode cX1_joined 113 = .ok (.lload_n 3, 1) := by decide +kernel
theorem dX1_joined_114 : decode cX1_joined 114 = .ok (.lcmp, 1) := by decide +kernel
theorem dX1_joined_115 : decode cX1_joined 115 = .ok (.ifCond .gt 7, 3) := by decide +kernel
theorem dX1_joined_118 : decode cX1_joined 118 = .ok (.lconst 1, 1) := by decide +kernel
theorem dX1_joined_119 : decode cX1_joined 119 = .ok (.goto 4, 3) := by decide +kernel
theorem dX1_joined_122 : decode cX1_joined 122 = .ok (.lconst 0, 1) := by decide +kernel
theorem dX1_joined_123 : decode cX1_joined 123 = .ok (.lreturn, 1) := by decide +kernel
theorem dX1_joined_124 : decode cX1_joined 124 = .ok (.lload_n 1, 1) := by decide +kernel
theorem dX1_joined_125 : decode cX1_joined 125 = .ok (.lload_n 3, 1) := by decide +kernel
theorem dX1_joined_126 : decode cX1_joined 126 = .ok (.lcmp, 1) := by decide +kernel
theorem dX1_joined_127 : decode cX1_joined 127 = .ok (.ifCond .ne 7, 3) := by decide +kernel
theorem dX1_joined_130 : decode cX1_joined 130 = .ok (.lconst 1, 1) := by decide +kernel
theorem dX1_joined_131 : decode cX1_joined 131 = .ok (.goto 4, 3) := by decide +kernel
theorem dX1_joined_134 : decode cX1_joined 134 = .ok (.lconst 0, 1) := by decide +kernel
theorem dX1_joined_135 : decode cX1_joined 135 = .ok (.lreturn, 1) := by decide +kernel
theorem dX1_joined_136 : decode cX1_joined 136 = .ok (.lload_n 1, 1) := by decide +kernel
theorem dX1_joined_137 : decode cX1_joined 137 = .ok (.lload_n 3, 1) := by decide +kernel
theorem dX1_joined_138 : decode cX1_joined 138 = .ok (.lcmp, 1) := by decide +kernel
theorem dX1_joined_139 : decode cX1_joined 139 = .ok (.ifCond .eq 7, 3) := by decide +kernel
theorem dX1_joined_142 : decode cX1_joined 142 = .ok (.lconst 1, 1) := by decide +kernel
theorem dX1_joined_143 : decode cX1_joined 143 = .ok (.goto 4, 3) := by decide +kernel
theorem dX1_joined_146 : decode cX1_joined 146 = .ok (.lconst 0, 1) := by decide +kernel
theorem dX1_joined_147 : decode cX1_joined 147 = .ok (.lreturn, 1) := by decide +kernel
theorem dX1_joined_148 : decode cX1_joined 148 = .ok (.lload_n 1, 1) := by decide +kernel
theorem dX1_joined_149 : decode cX1_joined 149 = .ok (.lload_n 3, 1) := by decide +kernel
theorem dX1_joined_150 : decode cX1_joined 150 = .ok (.lcmp, 1) := by decide +kernel
theorem dX1_joined_151 : decode cX1_joined 151 = .ok (.ifCond .lt 7, 3) := by decide +kernel
theorem dX1_joined_154 : decode cX1_joined 154 = .ok (.lconst 1, 1) := by decide +kernel
theorem dX1_joined_155 : decode cX1_joined 155 = .ok (.goto 4, 3) := by decide +kernel
theorem dX1_joined_158 : decode cX1_joined 158 = .ok (.lconst 0, 1) := by decide +kernel
theorem dX1_joined_159 : decode cX1_joined 159 = .ok (.lreturn, 1) := by decide +kernel
theorem dX1_joined_160 : decode cX1_joined 160 = .ok (.lload_n 1, 1) := by decide +kernel
theorem dX1_joined_161 : decode cX1_joined 161 = .ok (.lload_n 3, 1) := by decide +kernel
theorem dX1_joined_162 : decode cX1_joined 162 = .ok (.lcmp, 1) := by decide +kernel
theorem dX1_joined_163 : decode cX1_joined 163 = .ok (.ifCond .le 7, 3) := by decide +kernel
theorem dX1_joined_166 : decode cX1_joined 166 = .ok (.lconst 1, 1) := by decide +kernel
theorem dX1_joined_167 : decode cX1_joined 167 = .ok (.goto 4, 3) := by decide +kernel
theorem dX1_joined_170 : decode cX1_joined 170 = .ok (.lconst 0, 1) := by decide +kernel
theorem dX1_joined_171 : decode cX1_joined 171 = .ok (.lreturn, 1) := by decide +kernel
theorem dX1_joined_172 : decode cX1_joined 172 = .ok (.lload_n 1, 1) := by decide +kernel
theorem dX1_joined_173 : decode cX1_joined 173 = .ok (.lload_n 3, 1) := by decide +kernel
theorem dX1_joined_174 : decode cX1_joined 174 = .ok (.ladd, 1) := by decide +kernel
theorem dX1_joined_175 : decode cX1_joined 175 = .ok (.lreturn, 1) := by decide +kernel
theorem dX1_joined_176 : decode cX1_joined 176 = .ok (.lload_n 1, 1) := by decide +kernel
theorem dX1_joined_177 : decode cX1_joined 177 = .ok (.lload_n 3, 1) := by decide +kernel
theorem dX1_joined_178 : decode cX1_joined 178 = .ok (.lsub, 1) := by decide +kernel
theorem dX1_joined_179 : decode cX1_joined 179 = .ok (.lreturn, 1) := by decide +kernel
theorem dX1_joined_180 : decode cX1_joined 180 = .ok (.lload_n 3, 1) := by decide +kernel
theorem dX1_joined_181 : decode cX1_joined 181 = .ok (.lconst 0, 1) := by decide +kernel
theorem dX1_joined_182 : decode cX1_joined 182 = .ok (.lcmp, 1) := by decide +kernel
theorem dX1_joined_183 : decode cX1_joined 183 = .ok (.ifCond .ne 9, 3) := by decide +kernel
theorem dX1_joined_186 : decode cX1_joined 186 = .ok (.ldc2_w 27, 3) := by decide +kernel
theorem dX1_joined_189 : decode cX1_joined 189 = .ok (.goto 6, 3) := by decide +kernel
theorem dX1_joined_192 : decode cX1_joined 192 = .ok (.lload_n 1, 1) := by decide +kernel
theorem dX1_joined_193 : decode cX1_joined 193 = .ok (.lload_n 3, 1) := by decide +kernel
theorem dX1_joined_194 : decode cX1_joined 194 = .ok (.ldiv, 1) := by decide +kernel
theorem dX1_joined_195 : decode cX1_joined 195 = .ok (.lreturn, 1) := by decide +kernel
theorem dX1_joined_196 : decode cX1_joined 196 = .ok (.lload_n 1, 1) := by decide +kernel
theorem dX1_joined_197 : decode cX1_joined 197 = .ok (.lconst 0, 1) := by decide +kernel
theorem dX1_joined_198 : decode cX1_joined 198 = .ok (.lcmp, 1) := by decide +kernel
theorem dX1_joined_199 : decode cX1_joined 199 = .ok (.ifCond .eq 9, 3) := by decide +kernel
theorem dX1_joined_202 : decode cX1_joined 202 = .ok (.lload_n 3, 1) := by decide +kernel
theorem dX1_joined_203 : decode cX1_joined 203 = .ok (.lconst 0, 1) := by decide +kernel
theorem dX1_joined_204 : decode cX1_joined 204 = .ok (.lcmp, 1) := by decide +kernel
theorem dX1_joined_205 : decode cX1_joined 205 = .ok (.ifCond .ne 5, 3) := by decide +kernel
theorem dX1_joined_208 : decode cX1_joined 208 = .ok (.lconst 0, 1) := by decide +kernel
theorem dX1_joined_209 : decode cX1_joined 209 = .ok (.lreturn, 1) := by decide +kernel
theorem dX1_joined_210 : decode cX1_joined 210 = .ok (.ldc2_w 33, 3) := by decide +kernel
theorem dX1_joined_213 : decode cX1_joined 213 = .ok (.lload_n 1, 1) := by decide +kernel
theorem dX1_joined_214 : decode cX1_joined 214 = .ok (.lconst 0, 1) := by decide +kernel
theorem dX1_joined_215 : decode cX1_joined 215 = .ok (.lcmp, 1) := by decide +kernel
theorem dX1_joined_216 : decode cX1_joined 216 = .ok (.ifCond .ge 8, 3) := by decide +kernel
theorem dX1_joined_219 : decode cX1_joined 219 = .ok (.lload_n 1, 1) := by decide +kernel
theorem dX1_joined_220 : decode cX1_joined 220 = .ok (.lneg, 1) := by decide +kernel
theorem dX1_joined_221 : decode cX1_joined 221 = .ok (.goto 4, 3) := by decide +kernel
theorem dX1_joined_224 : decode cX1_joined 224 = .ok (.lload_n 1, 1) := by decide +kernel
theorem dX1_joined_225 : decode cX1_joined 225 = .ok (.ldiv, 1) := by decide +kernel
theorem dX1_joined_226 : decode cX1_joined 226 = .ok (.lstore 5, 2) := by decide +kernel
theorem dX1_joined_228 : decode cX1_joined 228 = .ok (.lload_n 3, 1) := by decide +kernel
theorem dX1_joined_229 : decode cX1_joined 229 = .ok (.lload 5, 2) := by decide +kernel
theorem dX1_joined_231 : decode cX1_joined 231 = .ok (.lcmp, 1) := by decide +kernel
theorem dX1_joined_232 : decode cX1_joined 232 = .ok (.ifCond .gt 11, 3) := by decide +kernel
theorem dX1_joined_235 : decode cX1_joined 235 = .ok (.lload_n 3, 1) := by decide +kernel
theorem dX1_joined_236 : decode cX1_joined 236 = .ok (.lload 5, 2) := by decide +kernel
theorem dX1_joined_238 : decode cX1_joined 238 = .ok (.lneg, 1) := by decide +kernel
theorem dX1_joined_239 : decode cX1_joined 239 = .ok (.lcmp, 1) := by decide +kernel
theorem dX1_joined_240 : decode cX1_joined 240 = .ok (.ifCond .ge 9, 3) := by decide +kernel
theorem dX1_joined_243 : decode cX1_joined 243 = .ok (.ldc2_w 27, 3) := by decide +kernel
theorem dX1_joined_246 : decode cX1_joined 246 = .ok (.goto 6, 3) := by decide +kernel
theorem dX1_joined_249 : decode cX1_joined 249 = .ok (.lload_n 1, 1) := by decide +kernel
theorem dX1_joined_250 : decode cX1_joined 250 = .ok (.lload_n 3, 1) := by decide +kernel
theorem dX1_joined_251 : decode cX1_joined 251 = .ok (.lmul, 1) := by decide +kernel
theorem dX1_joined_252 : decode cX1_joined 252 = .ok (.lreturn, 1) := by decide +kernel
theorem dX2_init_0 : decode cX2_init 0 = .ok (.aload_n 0, 1) := by decide +kernel
theorem dX2_init_1 : decode cX2_init 1 = .ok (.invokespecial 3, 3) := by decide +kernel
theorem dX2_init_4 : decode cX2_init 4 = .ok (.aload_n 0, 1) := by decide +kernel
theorem dX2_init_5 : decode cX2_init 5 = .ok (.iconst 0, 1) := by decide +kernel
theorem dX2_init_6 : decode cX2_init 6 = .ok (.putfield 9, 3) := by decide +kernel
theorem dX2_init_9 : decode cX2_init 9 = .ok (.aload_n 0, 1) := by decide +kernel
theorem dX2_init_10 : decode cX2_init 10 = .ok (.iconst (-1), 1) := by decide +kernel
theorem dX2_init_11 : decode cX2_init 11 = .ok (.putfield 15, 3) := by decide +kernel
theorem dX2_init_14 : decode cX2_init 14 = .ok (.aload_n 0, 1) := by decide +kernel
theorem dX2_init_15 : decode cX2_init 15 = .ok (.bipush 24, 2) := by decide +kernel
theorem dX2_init_17 : decode cX2_init 17 = .ok (.newarray .int, 2) := by decide +kernel
theorem dX2_init_19 : decode cX2_init 19 = .ok (.putfield 18, 3) := by decide +kernel
theorem dX2_init_22 : decode cX2_init 22 = .ok (.aload_n 0, 1) := by decide +kernel
theorem dX2_init_23 : decode cX2_init 23 = .ok (.bipush 24, 2) := by decide +kernel
theorem dX2_init_25 : decode cX2_init 25 = .ok (.newarray .int, 2) := by decide +kernel
theorem dX2_init_27 : decode cX2_init 27 = .ok (.putfield 22, 3) := by decide +kernel
theorem dX2_init_30 : decode cX2_init 30 = .ok (.aload_n 0, 1) := by decide +kernel
theorem dX2_init_31 : decode cX2_init 31 = .ok (.bipush 24, 2) := by decide +kernel
theorem dX2_init_33 : decode cX2_init 33 = .ok (.newarray .int, 2) := by decide +kernel
theorem dX2_init_35 : decode cX2_init 35 = .ok (.putfield 25, 3) := by decide +kernel
theorem dX2_init_38 : decode cX2_init 38 = .ok (.aload_n 0, 1) := by decide +kernel
theorem dX2_init_39 : decode cX2_init 39 = .ok (.bipush 24, 2) := by decide +kernel
theorem dX2_init_41 : decode cX2_init 41 = .ok (.newarray .int, 2) := by decide +kernel
theorem dX2_init_43 : decode cX2_init 43 = .ok (.putfield 28, 3) := by decide +kernel
theorem dX2_init_46 : decode cX2_init 46 = .ok (.aload_n 0, 1) := by decide +kernel
theorem dX2_init_47 : decode cX2_init 47 = .ok (.bipush 24, 2) := by decide +kernel
theorem dX2_init_49 : decode cX2_init 49 = .ok (.newarray .boolean, 2) := by decide +kernel
theorem dX2_init_51 : decode cX2_init 51 = .ok (.putfield 31, 3) := by decide +kernel
theorem dX2_init_54 : decode cX2_init 54 = .ok (.aload_n 0, 1) := by decide +kernel
theorem dX2_init_55 : decode cX2_init 55 = .ok (.bipush 24, 2) := by decide +kernel
theorem dX2_init_57 : decode cX2_init 57 = .ok (.newarray .boolean, 2) := by decide +kernel
theorem dX2_init_59 : decode cX2_init 59 = .ok (.putfield 35, 3) := by decide +kernel
theorem dX2_init_62 : decode cX2_init 62 = .ok (.return_, 1) := by decide +kernel
theorem dX2_clear_0 : decode cX2_clear 0 = .ok (.aload_n 0, 1) := by decide +kernel
theorem dX2_clear_1 : decode cX2_clear 1 = .ok (.iconst 0, 1) := by decide +kernel
theorem dX2_clear_2 : decode cX2_clear 2 = .ok (.putfield 9, 3) := by decide +kernel
theorem dX2_clear_5 : decode cX2_clear 5 = .ok (.aload_n 0, 1) := by decide +kernel
theorem dX2_clear_6 : decode cX2_clear 6 = .ok (.iconst (-1), 1) := by decide +kernel
theorem dX2_clear_7 : decode cX2_clear 7 = .ok (.putfield 15, 3) := by decide +kernel
theorem dX2_clear_10 : decode cX2_clear 10 = .ok (.return_, 1) := by decide +kernel
theorem dX2_addSeen_0 : decode cX2_addSeen 0 = .ok (.aload_n 0, 1) := by decide +kernel
theorem dX2_addSeen_1 : decode cX2_addSeen 1 = .ok (.getfield 9, 3) := by decide +kernel
theorem dX2_addSeen_4 : decode cX2_addSeen 4 = .ok (.bipush 24, 2) := by decide +kernel
theorem dX2_addSeen_6 : decode cX2_addSeen 6 = .ok (.if_icmp .lt 5, 3) := by decide +kernel
theorem dX2_addSeen_9 : decode cX2_addSeen 9 = .ok (.iconst (-1), 1) := by decide +kernel
theorem dX2_addSeen_10 : decode cX2_addSeen 10 = .ok (.ireturn, 1) := by decide +kernel
theorem dX2_addSeen_11 : decode cX2_addSeen 11 = .ok (.aload_n 0, 1) := by decide +kernel
theorem dX2_addSeen_12 : decode cX2_addSeen 12 = .ok (.getfield 18, 3) := by decide +kernel
theorem dX2_addSeen_15 : decode cX2_addSeen 15 = .ok (.aload_n 0, 1) := by decide +kernel
theorem dX2_addSeen_16 : decode cX2_addSeen 16 = .ok (.getfield 9, 3) := by decide +kernel
theorem dX2_addSeen_19 : decode cX2_addSeen 19 = .ok (.iconst (-1), 1) := by decide +kernel
theorem dX2_addSeen_20 : decode cX2_addSeen 20 = .ok (.iastore, 1) := by decide +kernel
theorem dX2_addSeen_21 : decode cX2_addSeen 21 = .ok (.aload_n 0, 1) := by decide +kernel
theorem dX2_addSeen_22 : decode cX2_addSeen 22 = .ok (.getfield 22, 3) := by decide +kernel
theorem dX2_addSeen_25 : decode cX2_addSeen 25 = .ok (.aload_n 0, 1) := by decide +kernel
theorem dX2_addSeen_26 : decode cX2_addSeen 26 = .ok (.getfield 9, 3) := by decide +kernel
theorem dX2_addSeen_29 : decode cX2_addSeen 29 = .ok (.iload_n 1, 1) := by decide +kernel
theorem dX2_addSeen_30 : decode cX2_addSeen 30 = .ok (.iastore, 1) := by decide +kernel
theorem dX2_addSeen_31 : decode cX2_addSeen 31 = .ok (.aload_n 0, 1) := by decide +kernel
theorem dX2_addSeen_32 : decode cX2_addSeen 32 = .ok (.getfield 25, 3) := by decide +kernel
theorem dX2_addSeen_35 : decode cX2_addSeen 35 = .ok (.aload_n 0, 1) := by decide +kernel
theorem dX2_addSeen_36 : decode cX2_addSeen 36 = .ok (.getfield 9, 3) := by decide +kernel
theorem dX2_addSeen_39 : decode cX2_addSeen 39 = .ok (.iload_n 2, 1) := by decide +kernel
theorem dX2_addSeen_40 : decode cX2_addSeen 40 = .ok (.iastore, 1) := by decide +kernel
theorem dX2_addSeen_41 : decode cX2_addSeen 41 = .ok (.aload_n 0, 1) := by decide +kernel
theorem dX2_addSeen_42 : decode cX2_addSeen 42 = .ok (.getfield 28, 3) := by decide +kernel
theorem dX2_addSeen_45 : decode cX2_addSeen 45 = .ok (.aload_n 0, 1) := by decide +kernel
theorem dX2_addSeen_46 : decode cX2_addSeen 46 = .ok (.getfield 9, 3) := by decide +kernel
theorem dX2_addSeen_49 : decode cX2_addSeen 49 = .ok (.iload_n 3, 1) := by decide +kernel
theorem dX2_addSeen_50 : decode cX2_addSeen 50 = .ok (.iastore, 1) := by decide +kernel
theorem dX2_addSeen_51 : decode cX2_addSeen 51 = .ok (.aload_n 0, 1) := by decide +kernel
theorem dX2_addSeen_52 : decode cX2_addSeen 52 = .ok (.getfield 31, 3) := by decide +kernel
theorem dX2_addSeen_55 : decode cX2_addSeen 55 = .ok (.aload_n 0, 1) := by decide +kernel
theorem dX2_addSeen_56 : decode cX2_addSeen 56 = .ok (.getfield 9, 3) := by decide +kernel
theorem dX2_addSeen_59 : decode cX2_addSeen 59 = .ok (.iload 4, 2) := by decide +kernel
theorem dX2_addSeen_61 : decode cX2_addSeen 61 = .ok (.bastore, 1) := by decide +kernel
theorem dX2_addSeen_62 : decode cX2_addSeen 62 = .ok (.aload_n 0, 1) := by decide +kernel
theorem dX2_addSeen_63 : decode cX2_addSeen 63 = .ok (.dup, 1) := by decide +kernel
theorem dX2_addSeen_64 : decode cX2_addSeen 64 = .ok (.getfield 9, 3) := by decide +kernel
theorem dX2_addSeen_67 : decode cX2_addSeen 67 = .ok (.iconst 1, 1) := by decide +kernel
theorem dX2_addSeen_68 : decode cX2_addSeen 68 = .ok (.iadd, 1) := by decide +kernel
theorem dX2_addSeen_69 : decode cX2_addSeen 69 = .ok (.putfield 9, 3) := by decide +kernel
theorem dX2_addSeen_72 : decode cX2_addSeen 72 = .ok (.aload_n 0, 1) := by decide +kernel
theorem dX2_addSeen_73 : decode cX2_addSeen 73 = .ok (.getfield 9, 3) := by decide +kernel
theorem dX2_addSeen_76 : decode cX2_addSeen 76 = .ok (.iconst 1, 1) := by decide +kernel
theorem dX2_addSeen_77 : decode cX2_addSeen 77 = .ok (.isub, 1) := by decide +kernel
theorem dX2_addSeen_78 : decode cX2_addSeen 78 = .ok (.ireturn, 1) := by decide +kernel
theorem dX2_addStrike_0 : decode cX2_addStrike 0 = .ok (.aload_n 0, 1) := by decide +kernel
theorem dX2_addStrike_1 : decode cX2_addStrike 1 = .ok (.getfield 9, 3) := by decide +kernel
theorem dX2_addStrike_4 : decode cX2_addStrike 4 = .ok (.bipush 24, 2) := by decide +kernel
theorem dX2_addStrike_6 : decode cX2_addStrike 6 = .ok (.if_icmp .lt 5, 3) := by decide +kernel
theorem dX2_addStrike_9 : decode cX2_addStrike 9 = .ok (.iconst (-1), 1) := by decide +kernel
theorem dX2_addStrike_10 : decode cX2_addStrike 10 = .ok (.ireturn, 1) := by decide +kernel
theorem dX2_addStrike_11 : decode cX2_addStrike 11 = .ok (.aload_n 0, 1) := by decide +kernel
theorem dX2_addStrike_12 : decode cX2_addStrike 12 = .ok (.getfield 18, 3) := by decide +kernel
theorem dX2_addStrike_15 : decode cX2_addStrike 15 = .ok (.aload_n 0, 1) := by decide +kernel
theorem dX2_addStrike_16 : decode cX2_addStrike 16 = .ok (.getfield 9, 3) := by decide +kernel
theorem dX2_addStrike_19 : decode cX2_addStrike 19 = .ok (.iload_n 1, 1) := by decide +kernel
theorem dX2_addStrike_20 : decode cX2_addStrike 20 = .ok (.iastore, 1) := by decide +kernel
theorem dX2_addStrike_21 : decode cX2_addStrike 21 = .ok (.aload_n 0, 1) := by decide +kernel
theorem dX2_addStrike_22 : decode cX2_addStrike 22 = .ok (.dup, 1) := by decide +kernel
theorem dX2_addStrike_23 : decode cX2_addStrike 23 = .ok (.getfield 9, 3) := by decide +kernel
theorem dX2_addStrike_26 : decode cX2_addStrike 26 = .ok (.iconst 1, 1) := by decide +kernel
theorem dX2_addStrike_27 : decode cX2_addStrike 27 = .ok (.iadd, 1) := by decide +kernel
theorem dX2_addStrike_28 : decode cX2_addStrike 28 = .ok (.putfield 9, 3) := by decide +kernel
theorem dX2_addStrike_31 : decode cX2_addStrike 31 = .ok (.aload_n 0, 1) := by decide +kernel
theorem dX2_addStrike_32 : decode cX2_addStrike 32 = .ok (.getfield 9, 3) := by decide +kernel
theorem dX2_addStrike_35 : decode cX2_addStrike 35 = .ok (.iconst 1, 1) := by decide +kernel
theorem dX2_addStrike_36 : decode cX2_addStrike 36 = .ok (.isub, 1) := by decide +kernel
theorem dX2_addStrike_37 : decode cX2_addStrike 37 = .ok (.ireturn, 1) := by decide +kernel
theorem dX2_knownSize_0 : decode cX2_knownSize 0 = .ok (.aload_n 0, 1) := by decide +kernel
theorem dX2_knownSize_1 : decode cX2_knownSize 1 = .ok (.getfield 15, 3) := by decide +kernel
theorem dX2_knownSize_4 : decode cX2_knownSize 4 = .ok (.iconst (-1), 1) := by decide +kernel
theorem dX2_knownSize_5 : decode cX2_knownSize 5 = .ok (.if_icmp .ne 10, 3) := by decide +kernel
theorem dX2_knownSize_8 : decode cX2_knownSize 8 = .ok (.aload_n 0, 1) := by decide +kernel
theorem dX2_knownSize_9 : decode cX2_knownSize 9 = .ok (.getfield 9, 3) := by decide +kernel
theorem dX2_knownSize_12 : decode cX2_knownSize 12 = .ok (.goto 7, 3) := by decide +kernel
theorem dX2_knownSize_15 : decode cX2_knownSize 15 = .ok (.aload_n 0, 1) := by decide +kernel
theorem dX2_knownSize_16 : decode cX2_knownSize 16 = .ok (.getfield 15, 3) := by decide +kernel
theorem dX2_knownSize_19 : decode cX2_knownSize 19 = .ok (.ireturn, 1) := by decide +kernel
theorem dX2_strike_0 : decode cX2_strike 0 = .ok (.iconst 0, 1) := by decide +kernel
theorem dX2_strike_1 : decode cX2_strike 1 = .ok (.istore_n 1, 1) := by decide +kernel
theorem dX2_strike_2 : decode cX2_strike 2 = .ok (.iload_n 1, 1) := by decide +kernel
theorem dX2_strike_3 : decode cX2_strike 3 = .ok (.bipush 24, 2) := by decide +kernel
theorem dX2_strike_5 : decode cX2_strike 5 = .ok (.if_icmp .ge 16, 3) := by decide +kernel
theorem dX2_strike_8 : decode cX2_strike 8 = .ok (.aload_n 0, 1) := by decide +kernel
theorem dX2_strike_9 : decode cX2_strike 9 = .ok (.getfield 35, 3) := by decide +kernel
theorem dX2_strike_12 : decode cX2_strike 12 = .ok (.iload_n 1, 1) := by decide +kernel
theorem dX2_strike_13 : decode cX2_strike 13 = .ok (.iconst 0, 1) := by decide +kernel
theorem dX2_strike_14 : decode cX2_strike 14 = .ok (.bastore, 1) := by decide +kernel
theorem dX2_strike_15 : decode cX2_strike 15 = .ok (.iinc 1 1, 3) := by decide +kernel
theorem dX2_strike_18 : decode cX2_strike 18 = .ok (.goto (-16), 3) := by decide +kernel
theorem dX2_strike_21 : decode cX2_strike 21 = .ok (.aload_n 0, 1) := by decide +kernel
theorem dX2_strike_22 : decode cX2_strike 22 = .ok (.invokevirtual 38, 3) := by decide +kernel
theorem dX2_strike_25 : decode cX2_strike 25 = .ok (.iconst 1, 1) := by decide +kernel
theorem dX2_strike_26 : decode cX2_strike 26 = .ok (.isub, 1) := by decide +kernel
theorem dX2_strike_27 : decode cX2_strike 27 = .ok (.istore_n 1, 1) := by decide +kernel
theorem dX2_strike_28 : decode cX2_strike 28 = .ok (.iload_n 1, 1) := by decide +kernel
theorem dX2_strike_29 : decode cX2_strike 29 = .ok (.ifCond .lt 39, 3) := by decide +kernel
theorem dX2_strike_32 : decode cX2_strike 32 = .ok (.aload_n 0, 1) := by decide +kernel
theorem dX2_strike_33 : decode cX2_strike 33 = .ok (.getfield 35, 3) := by decide +kernel
theorem dX2_strike_36 : decode cX2_strike 36 = .ok (.iload_n 1, 1) := by decide +kernel
theorem dX2_strike_37 : decode cX2_strike 37 = .ok (.baload, 1) := by decide +kernel
theorem dX2_strike_38 : decode cX2_strike 38 = .ok (.ifCond .ne 24, 3) := by decide +kernel
theorem dX2_strike_41 : decode cX2_strike 41 = .ok (.aload_n 0, 1) := by decide +kernel
theorem dX2_strike_42 : decode cX2_strike 42 = .ok (.getfield 18, 3) := by decide +kernel
theorem dX2_strike_45 : decode cX2_strike 45 = .ok (.iload_n 1, 1) := by decide +kernel
theorem dX2_strike_46 : decode cX2_strike 46 = .ok (.iaload, 1) := by decide +kernel
theorem dX2_strike_47 : decode cX2_strike 47 = .ok (.ifCond .lt 15, 3) := by decide +kernel
theorem dX2_strike_50 : decode cX2_strike 50 = .ok (.aload_n 0, 1) := by decide +kernel
theorem dX2_strike_51 : decode cX2_strike 51 = .ok (.getfield 35, 3) := by decide +kernel
theorem dX2_strike_54 : decode cX2_strike 54 = .ok (.aload_n 0, 1) := by decide +kernel
theorem dX2_strike_55 : decode cX2_strike 55 = .ok (.getfield 18, 3) := by decide +kernel
theorem dX2_strike_58 : decode cX2_strike 58 = .ok (.iload_n 1, 1) := by decide +kernel
theorem dX2_strike_59 : decode cX2_strike 59 = .ok (.iaload, 1) := by decide +kernel
theorem dX2_strike_60 : decode cX2_strike 60 = .ok (.iconst 1, 1) := by decide +kernel
theorem dX2_strike_61 : decode cX2_strike 61 = .ok (.bastore, 1) := by decide +kernel
theorem dX2_strike_62 : decode cX2_strike 62 = .ok (.iinc 1 (-1), 3) := by decide +kernel
theorem dX2_strike_65 : decode cX2_strike 65 = .ok (.goto (-37), 3) := by decide +kernel
theorem dX2_strike_68 : decode cX2_strike 68 = .ok (.return_, 1) := by decide +kernel
theorem dX2_areSoIn_0 : decode cX2_areSoIn 0 = .ok (.aload_n 0, 1) := by decide +kernel
theorem dX2_areSoIn_1 : decode cX2_areSoIn 1 = .ok (.invokevirtual 42, 3) := by decide +kernel
theorem dX2_areSoIn_4 : decode cX2_areSoIn 4 = .ok (.istore_n 2, 1) := by decide +kernel
theorem dX2_areSoIn_5 : decode cX2_areSoIn 5 = .ok (.iconst 1, 1) := by decide +kernel
theorem dX2_areSoIn_6 : decode cX2_areSoIn 6 = .ok (.istore_n 3, 1) := by decide +kernel
theorem dX2_areSoIn_7 : decode cX2_areSoIn 7 = .ok (.iload_n 3, 1) := by decide +kernel
theorem dX2_areSoIn_8 : decode cX2_areSoIn 8 = .ok (.iload_n 2, 1) := by decide +kernel
theorem dX2_areSoIn_9 : decode cX2_areSoIn 9 = .ok (.if_icmp .gt 26, 3) := by decide +kernel
theorem dX2_areSoIn_12 : decode cX2_areSoIn 12 = .ok (.aload_n 1, 1) := by decide +kernel
theorem dX2_areSoIn_13 : decode cX2_areSoIn 13 = .ok (.iconst 1, 1) := by decide +kernel
theorem dX2_areSoIn_14 : decode cX2_areSoIn 14 = .ok (.iconst 0, 1) := by decide +kernel
theorem dX2_areSoIn_15 : decode cX2_areSoIn 15 = .ok (.invokevirtual 45, 3) := by decide +kernel
theorem dX2_areSoIn_18 : decode cX2_areSoIn 18 = .ok (.aload_n 0, 1) := by decide +kernel
theorem dX2_areSoIn_19 : decode cX2_areSoIn 19 = .ok (.iload_n 3, 1) := by decide +kernel
theorem dX2_areSoIn_20 : decode cX2_areSoIn 20 = .ok (.aload_n 1, 1) := by decide +kernel
theorem dX2_areSoIn_21 : decode cX2_areSoIn 21 = .ok (.invokevirtual 51, 3) := by decide +kernel
theorem dX2_areSoIn_24 : decode cX2_areSoIn 24 = .ok (.ifCond .ne 5, 3) := by decide +kernel
theorem dX2_areSoIn_27 : decode cX2_areSoIn 27 = .ok (.iconst 0, 1) := by decide +kernel
theorem dX2_areSoIn_28 : decode cX2_areSoIn 28 = .ok (.ireturn, 1) := by decide +kernel
theorem dX2_areSoIn_29 : decode cX2_areSoIn 29 = .ok (.iinc 3 1, 3) := by decide +kernel
theorem dX2_areSoIn_32 : decode cX2_areSoIn 32 = .ok (.goto (-25), 3) := by decide +kernel
theorem dX2_areSoIn_35 : decode cX2_areSoIn 35 = .ok (.iconst 1, 1) := by decide +kernel
theorem dX2_areSoIn_36 : decode cX2_areSoIn 36 = .ok (.ireturn, 1) := by decide +kernel
theorem dX2_isSeenAndKnown_0 : decode cX2_isSeenAndKnown 0 = .ok (.aload_n 0, 1) := by decide +kernel
theorem dX2_isSeenAndKnown_1 : decode cX2_isSeenAndKnown 1 = .ok (.getfield 35, 3) := by decide +kernel
theorem dX2_isSeenAndKnown_4 : decode cX2_isSeenAndKnown 4 = .ok (.iload_n 1, 1) := by decide +kernel
theorem dX2_isSeenAndKnown_5 : decode cX2_isSeenAndKnown 5 = .ok (.baload, 1) := by decide +kernel
theorem dX2_isSeenAndKnown_6 : decode cX2_isSeenAndKnown 6 = .ok (.ifCond .ne 16, 3) := by decide +kernel
theorem dX2_isSeenAndKnown_9 : decode cX2_isSeenAndKnown 9 = .ok (.aload_n 0, 1) := by decide +kernel
theorem dX2_isSeenAndKnown_10 : decode cX2_isSeenAndKnown 10 = .ok (.getfield 18, 3) := by decide +kernel
theorem dX2_isSeenAndKnown_13 : decode cX2_isSeenAndKnown 13 = .ok (.iload_n 1, 1) := by decide +kernel
theorem dX2_isSeenAndKnown_14 : decode cX2_isSeenAndKnown 14 = .ok (.iaload, 1) := by decide +kernel
theorem dX2_isSeenAndKnown_15 : decode cX2_isSeenAndKnown 15 = .ok (.ifCond .ge 7, 3) := by decide +kernel
theorem dX2_isSeenAndKnown_18 : decode cX2_isSeenAndKnown 18 = .ok (.iconst 1, 1) := by decide +kernel
theorem dX2_isSeenAndKnown_19 : decode cX2_isSeenAndKnown 19 = .ok (.goto 4, 3) := by decide +kernel
theorem dX2_isSeenAndKnown_22 : decode cX2_isSeenAndKnown 22 = .ok (.iconst 0, 1) := by decide +kernel
theorem dX2_isSeenAndKnown_23 : decode cX2_isSeenAndKnown 23 = .ok (.ireturn, 1) := by decide +kernel
theorem dX2_lastWeekKnown_0 : decode cX2_lastWeekKnown 0 = .ok (.iconst 0, 1) := by decide +kernel
theorem dX2_lastWeekKnown_1 : decode cX2_lastWeekKnown 1 = .ok (.istore_n 1, 1) := by decide +kernel
theorem dX2_lastWeekKnown_2 : decode cX2_lastWeekKnown 2 = .ok (.iconst 0, 1) := by decide +kernel
theorem dX2_lastWeekKnown_3 : decode cX2_lastWeekKnown 3 = .ok (.istore_n 2, 1) := by decide +kernel
theorem dX2_lastWeekKnown_4 : decode cX2_lastWeekKnown 4 = .ok (.iload_n 2, 1) := by decide +kernel
theorem dX2_lastWeekKnown_5 : decode cX2_lastWeekKnown 5 = .ok (.aload_n 0, 1) := by decide +kernel
theorem dX2_lastWeekKnown_6 : decode cX2_lastWeekKnown 6 = .ok (.invokevirtual 38, 3) := by decide +kernel
theorem dX2_lastWeekKnown_9 : decode cX2_lastWeekKnown 9 = .ok (.if_icmp .ge 28, 3) := by decide +kernel
theorem dX2_lastWeekKnown_12 : decode cX2_lastWeekKnown 12 = .ok (.aload_n 0, 1) := by decide +kernel
theorem dX2_lastWeekKnown_13 : decode cX2_lastWeekKnown 13 = .ok (.iload_n 2, 1) := by decide +kernel
theorem dX2_lastWeekKnown_14 : decode cX2_lastWeekKnown 14 = .ok (.invokevirtual 55, 3) := by decide +kernel
theorem dX2_lastWeekKnown_17 : decode cX2_lastWeekKnown 17 = .ok (.ifCond .eq 14, 3) := by decide +kernel
theorem dX2_lastWeekKnown_20 : decode cX2_lastWeekKnown 20 = .ok (.iload_n 1, 1) := by decide +kernel
theorem dX2_lastWeekKnown_21 : decode cX2_lastWeekKnown 21 = .ok (.aload_n 0, 1) := by decide +kernel
theorem dX2_lastWeekKnown_22 : decode cX2_lastWeekKnown 22 = .ok (.getfield 22, 3) := by decide +kernel
theorem dX2_lastWeekKnown_25 : decode cX2_lastWeekKnown 25 = .ok (.iload_n 2, 1) := by decide +kernel
theorem dX2_lastWeekKnown_26 : decode cX2_lastWeekKnown 26 = .ok (.iaload, 1) := by decide +kernel
theorem dX2_lastWeekKnown_27 : decode cX2_lastWeekKnown 27 = .ok (.invokestatic 59, 3) := by decide +kernel
theorem dX2_lastWeekKnown_30 : decode cX2_lastWeekKnown 30 = .ok (.istore_n 1, 1) := by decide +kernel
theorem dX2_lastWeekKnown_31 : decode cX2_lastWeekKnown 31 = .ok (.iinc 2 1, 3) := by decide +kernel
theorem dX2_lastWeekKnown_34 : decode cX2_lastWeekKnown 34 = .ok (.goto (-30), 3) := by decide +kernel
theorem dX2_lastWeekKnown_37 : decode cX2_lastWeekKnown 37 = .ok (.iload_n 1, 1) := by decide +kernel
theorem dX2_lastWeekKnown_38 : decode cX2_lastWeekKnown 38 = .ok (.ireturn, 1) := by decide +kernel
theorem dX2_areSoBehind_0 : decode cX2_areSoBehind 0 = .ok (.iconst 0, 1) := by decide +kernel
theorem dX2_areSoBehind_1 : decode cX2_areSoBehind 1 = .ok (.istore_n 3, 1) := by decide +kernel
theorem dX2_areSoBehind_2 : decode cX2_areSoBehind 2 = .ok (.iload_n 3, 1) := by decide +kernel
theorem dX2_areSoBehind_3 : decode cX2_areSoBehind 3 = .ok (.aload_n 0, 1) := by decide +kernel
theorem dX2_areSoBehind_4 : decode cX2_areSoBehind 4 = .ok (.invokevirtual 38, 3) := by decide +kernel
theorem dX2_areSoBehind_7 : decode cX2_areSoBehind 7 = .ok (.if_icmp .ge 63, 3) := by decide +kernel
theorem dX2_areSoBehind_10 : decode cX2_areSoBehind 10 = .ok (.aload_n 0, 1) := by decide +kernel
theorem dX2_areSoBehind_11 : decode cX2_areSoBehind 11 = .ok (.iload_n 3, 1) := by decide +kernel
theorem dX2_areSoBehind_12 : decode cX2_areSoBehind 12 = .ok (.invokevirtual 55, 3) := by decide +kernel
theorem dX2_areSoBehind_15 : decode cX2_areSoBehind 15 = .ok (.ifCond .eq 49, 3) := by decide +kernel
theorem dX2_areSoBehind_18 : decode cX2_areSoBehind 18 = .ok (.aload_n 0, 1) := by decide +kernel
theorem dX2_areSoBehind_19 : decode cX2_areSoBehind 19 = .ok (.getfield 22, 3) := by decide +kernel
theorem dX2_areSoBehind_22 : decode cX2_areSoBehind 22 = .ok (.iload_n 3, 1) := by decide +kernel
theorem dX2_areSoBehind_23 : decode cX2_areSoBehind 23 = .ok (.iaload, 1) := by decide +kernel
theorem dX2_areSoBehind_24 : decode cX2_areSoBehind 24 = .ok (.iload_n 1, 1) := by decide +kernel
theorem dX2_areSoBehind_25 : decode cX2_areSoBehind 25 = .ok (.if_icmp .ne 39, 3) := by decide +kernel
theorem dX2_areSoBehind_28 : decode cX2_areSoBehind 28 = .ok (.aload_n 2, 1) := by decide +kernel
theorem dX2_areSoBehind_29 : decode cX2_areSoBehind 29 = .ok (.getfield 65, 3) := by decide +kernel
theorem dX2_areSoBehind_32 : decode cX2_areSoBehind 32 = .ok (.aload_n 0, 1) := by decide +kernel
theorem dX2_areSoBehind_33 : decode cX2_areSoBehind 33 = .ok (.getfield 25, 3) := by decide +kernel
theorem dX2_areSoBehind_36 : decode cX2_areSoBehind 36 = .ok (.iload_n 3, 1) := by decide +kernel
theorem dX2_areSoBehind_37 : decode cX2_areSoBehind 37 = .ok (.iaload, 1) := by decide +kernel
theorem dX2_areSoBehind_38 : decode cX2_areSoBehind 38 = .ok (.iaload, 1) := by decide +kernel
theorem dX2_areSoBehind_39 : decode cX2_areSoBehind 39 = .ok (.aload_n 0, 1) := by decide +kernel
theorem dX2_areSoBehind_40 : decode cX2_areSoBehind 40 = .ok (.getfield 28, 3) := by decide +kernel
theorem dX2_areSoBehind_43 : decode cX2_areSoBehind 43 = .ok (.iload_n 3, 1) := by decide +kernel
theorem dX2_areSoBehind_44 : decode cX2_areSoBehind 44 = .ok (.iaload, 1) := by decide +kernel
theorem dX2_areSoBehind_45 : decode cX2_areSoBehind 45 = .ok (.if_icmp .lt 7, 3) := by decide +kernel
theorem dX2_areSoBehind_48 : decode cX2_areSoBehind 48 = .ok (.iconst 1, 1) := by decide +kernel
theorem dX2_areSoBehind_49 : decode cX2_areSoBehind 49 = .ok (.goto 4, 3) := by decide +kernel
theorem dX2_areSoBehind_52 : decode cX2_areSoBehind 52 = .ok (.iconst 0, 1) := by decide +kernel
theorem dX2_areSoBehind_53 : decode cX2_areSoBehind 53 = .ok (.aload_n 0, 1) := by decide +kernel
theorem dX2_areSoBehind_54 : decode cX2_areSoBehind 54 = .ok (.getfield 31, 3) := by decide +kernel
theorem dX2_areSoBehind_57 : decode cX2_areSoBehind 57 = .ok (.iload_n 3, 1) := by decide +kernel
theorem dX2_areSoBehind_58 : decode cX2_areSoBehind 58 = .ok (.baload, 1) := by decide +kernel
theorem dX2_areSoBehind_59 : decode cX2_areSoBehind 59 = .ok (.if_icmp .eq 5, 3) := by decide +kernel
theorem dX2_areSoBehind_62 : decode cX2_areSoBehind 62 = .ok (.iconst 0, 1) := by decide +kernel
theorem dX2_areSoBehind_63 : decode cX2_areSoBehind 63 = .ok (.ireturn, 1) := by decide +kernel
theorem dX2_areSoBehind_64 : decode cX2_areSoBehind 64 = .ok (.iinc 3 1, 3) := by decide +kernel
theorem dX2_areSoBehind_67 : decode cX2_areSoBehind 67 = .ok (.goto (-65), 3) := by decide +kernel
theorem dX2_areSoBehind_70 : decode cX2_areSoBehind 70 = .ok (.iconst 1, 1) := by decide +kernel
theorem dX2_areSoBehind_71 : decode cX2_areSoBehind 71 = .ok (.ireturn, 1) := by decide +kernel
theorem dX3_init_0 : decode cX3_init 0 = .ok (.aload_n 0, 1) := by decide +kernel
theorem dX3_init_1 : decode cX3_init 1 = .ok (.invokespecial 3, 3) := by decide +kernel
theorem dX3_init_4 : decode cX3_init 4 = .ok (.aload_n 0, 1) := by decide +kernel
theorem dX3_init_5 : decode cX3_init 5 = .ok (.iconst 0, 1) := by decide +kernel
theorem dX3_init_6 : decode cX3_init 6 = .ok (.putfield 9, 3) := by decide +kernel
theorem dX3_init_9 : decode cX3_init 9 = .ok (.aload_n 0, 1) := by decide +kernel
theorem dX3_init_10 : decode cX3_init 10 = .ok (.iconst 0, 1) := by decide +kernel
theorem dX3_init_11 : decode cX3_init 11 = .ok (.putfield 15, 3) := by decide +kernel
theorem dX3_init_14 : decode cX3_init 14 = .ok (.aload_n 0, 1) := by decide +kernel
theorem dX3_init_15 : decode cX3_init 15 = .ok (.iconst 4, 1) := by decide +kernel
theorem dX3_init_16 : decode cX3_init 16 = .ok (.newarray .int, 2) := by decide +kernel
theorem dX3_init_18 : decode cX3_init 18 = .ok (.putfield 18, 3) := by decide +kernel
theorem dX3_init_21 : decode cX3_init 21 = .ok (.aload_n 0, 1) := by decide +kernel
theorem dX3_init_22 : decode cX3_init 22 = .ok (.iconst (-1), 1) := by decide +kernel
theorem dX3_init_23 : decode cX3_init 23 = .ok (.putfield 22, 3) := by decide +kernel
theorem dX3_init_26 : decode cX3_init 26 = .ok (.aload_n 0, 1) := by decide +kernel
theorem dX3_init_27 : decode cX3_init 27 = .ok (.iconst 0, 1) := by decide +kernel
theorem dX3_init_28 : decode cX3_init 28 = .ok (.putfield 25, 3) := by decide +kernel
theorem dX3_init_31 : decode cX3_init 31 = .ok (.aload_n 0, 1) := by decide +kernel
theorem dX3_init_32 : decode cX3_init 32 = .ok (.iconst 0, 1) := by decide +kernel
theorem dX3_init_33 : decode cX3_init 33 = .ok (.putfield 28, 3) := by decide +kernel
theorem dX3_init_36 : decode cX3_init 36 = .ok (.aload_n 0, 1) := by decide +kernel
theorem dX3_init_37 : decode cX3_init 37 = .ok (.iconst 4, 1) := by decide +kernel
theorem dX3_init_38 : decode cX3_init 38 = .ok (.newarray .int, 2) := by decide +kernel
theorem dX3_init_40 : decode cX3_init 40 = .ok (.putfield 31, 3) := by decide +kernel
theorem dX3_init_43 : decode cX3_init 43 = .ok (.aload_n 0, 1) := by decide +kernel
theorem dX3_init_44 : decode cX3_init 44 = .ok (.bipush 6, 2) := by decide +kernel
theorem dX3_init_46 : decode cX3_init 46 = .ok (.newarray .int, 2) := by decide +kernel
theorem dX3_init_48 : decode cX3_init 48 = .ok (.putfield 34, 3) := by decide +kernel
theorem dX3_init_51 : decode cX3_init 51 = .ok (.return_, 1) := by decide +kernel
theorem dX3_forget_0 : decode cX3_forget 0 = .ok (.aload_n 0, 1) := by decide +kernel
theorem dX3_forget_1 : decode cX3_forget 1 = .ok (.iconst (-1), 1) := by decide +kernel
theorem dX3_forget_2 : decode cX3_forget 2 = .ok (.putfield 22, 3) := by decide +kernel
theorem dX3_forget_5 : decode cX3_forget 5 = .ok (.return_, 1) := by decide +kernel
theorem dX3_search_0 : decode cX3_search 0 = .ok (.aload_n 0, 1) := by decide +kernel
theorem dX3_search_1 : decode cX3_search 1 = .ok (.getfield 22, 3) := by decide +kernel
theorem dX3_search_4 : decode cX3_search 4 = .ok (.iload_n 3, 1) := by decide +kernel
theorem dX3_search_5 : decode cX3_search 5 = .ok (.if_icmp .ne 13, 3) := by decide +kernel
theorem dX3_search_8 : decode cX3_search 8 = .ok (.aload_n 0, 1) := by decide +kernel
theorem dX3_search_9 : decode cX3_search 9 = .ok (.getfield 25, 3) := by decide +kernel
theorem dX3_search_12 : decode cX3_search 12 = .ok (.iload 4, 2) := by decide +kernel
theorem dX3_search_14 : decode cX3_search 14 = .ok (.if_icmp .ne 4, 3) := by decide +kernel
theorem dX3_search_17 : decode cX3_search 17 = .ok (.return_, 1) := by decide +kernel
theorem dX3_search_18 : decode cX3_search 18 = .ok (.aload_n 0, 1) := by decide +kernel
theorem dX3_search_19 : decode cX3_search 19 = .ok (.iload_n 3, 1) := by decide +kernel
theorem dX3_search_20 : decode cX3_search 20 = .ok (.putfield 22, 3) := by decide +kernel
theorem dX3_search_23 : decode cX3_search 23 = .ok (.aload_n 0, 1) := by decide +kernel
theorem dX3_search_24 : decode cX3_search 24 = .ok (.iload 4, 2) := by decide +kernel
theorem dX3_search_26 : decode cX3_search 26 = .ok (.putfield 25, 3) := by decide +kernel
theorem dX3_search_29 : decode cX3_search 29 = .ok (.aload_n 0, 1) := by decide +kernel
theorem dX3_search_30 : decode cX3_search 30 = .ok (.aload_n 1, 1) := by decide +kernel
theorem dX3_search_31 : decode cX3_search 31 = .ok (.iload_n 3, 1) := by decide +kernel
theorem dX3_search_32 : decode cX3_search 32 = .ok (.invokevirtual 37, 3) := by decide +kernel
theorem dX3_search_35 : decode cX3_search 35 = .ok (.aload_n 0, 1) := by decide +kernel
theorem dX3_search_36 : decode cX3_search 36 = .ok (.aload_n 1, 1) := by decide +kernel
theorem dX3_search_37 : decode cX3_search 37 = .ok (.iload_n 3, 1) := by decide +kernel
theorem dX3_search_38 : decode cX3_search 38 = .ok (.invokevirtual 41, 3) := by decide +kernel
theorem dX3_search_41 : decode cX3_search 41 = .ok (.iconst 1, 1) := by decide +kernel
theorem dX3_search_42 : decode cX3_search 42 = .ok (.istore 5, 2) := by decide +kernel
theorem dX3_search_44 : decode cX3_search 44 = .ok (.iconst 0, 1) := by decide +kernel
theorem dX3_search_45 : decode cX3_search 45 = .ok (.istore 6, 2) := by decide +kernel
theorem dX3_search_47 : decode cX3_search 47 = .ok (.iload 6, 2) := by decide +kernel
theorem dX3_search_49 : decode cX3_search 49 = .ok (.aload_n 0, 1) := by decide +kernel
theorem dX3_search_50 : decode cX3_search 50 = .ok (.getfield 9, 3) := by decide +kernel
theorem dX3_search_53 : decode cX3_search 53 = .ok (.if_icmp .ge 18, 3) := by decide +kernel
theorem dX3_search_56 : decode cX3_search 56 = .ok (.iload 5, 2) := by decide +kernel
theorem dX3_search_58 : decode cX3_search 58 = .ok (.aload_n 0, 1) := by decide +kernel
theorem dX3_search_59 : decode cX3_search 59 = .ok (.getfield 28, 3) := by decide +kernel
theorem dX3_search_62 : decode cX3_search 62 = .ok (.imul, 1) := by decide +kernel
theorem dX3_search_63 : decode cX3_search 63 = .ok (.istore 5, 2) := by decide +kernel
theorem dX3_search_65 : decode cX3_search 65 = .ok (.iinc 6 1, 3) := by decide +kernel
theorem dX3_search_68 : decode cX3_search 68 = .ok (.goto (-21), 3) := by decide +kernel
theorem dX3_search_71 : decode cX3_search 71 = .ok (.aload_n 0, 1) := by decide +kernel
theorem dX3_search_72 : decode cX3_search 72 = .ok (.sipush 1999, 3) := by decide +kernel
theorem dX3_search_75 : decode cX3_search 75 = .ok (.putfield 15, 3) := by decide +kernel
theorem dX3_search_78 : decode cX3_search 78 = .ok (.iconst 0, 1) := by decide +kernel
theorem dX3_search_79 : decode cX3_search 79 = .ok (.istore 6, 2) := by decide +kernel
theorem dX3_search_81 : decode cX3_search 81 = .ok (.iload 6, 2) := by decide +kernel
theorem dX3_search_83 : decode cX3_search 83 = .ok (.iload 5, 2) := by decide +kernel
theorem dX3_search_85 : decode cX3_search 85 = .ok (.if_icmp .ge 59, 3) := by decide +kernel
theorem dX3_search_88 : decode cX3_search 88 = .ok (.aload_n 0, 1) := by decide +kernel
theorem dX3_search_89 : decode cX3_search 89 = .ok (.getfield 15, 3) := by decide +kernel
theorem dX3_search_92 : decode cX3_search 92 = .ok (.ifCond .le 52, 3) := by decide +kernel
theorem dX3_search_95 : decode cX3_search 95 = .ok (.aload_n 2, 1) := by decide +kernel
theorem dX3_search_96 : decode cX3_search 96 = .ok (.aload_n 1, 1) := by decide +kernel
theorem dX3_search_97 : decode cX3_search 97 = .ok (.invokevirtual 44, 3) := by decide +kernel
theorem dX3_search_100 : decode cX3_search 100 = .ok (.aload_n 0, 1) := by decide +kernel
theorem dX3_search_101 : decode cX3_search 101 = .ok (.iload 6, 2) := by decide +kernel
theorem dX3_search_103 : decode cX3_search 103 = .ok (.aload_n 2, 1) := by decide +kernel
theorem dX3_search_104 : decode cX3_search 104 = .ok (.invokevirtual 50, 3) := by decide +kernel
theorem dX3_search_107 : decode cX3_search 107 = .ok (.aload_n 2, 1) := by decide +kernel
theorem dX3_search_108 : decode cX3_search 108 = .ok (.iload 4, 2) := by decide +kernel
theorem dX3_search_110 : decode cX3_search 110 = .ok (.iconst 0, 1) := by decide +kernel
theorem dX3_search_111 : decode cX3_search 111 = .ok (.invokevirtual 54, 3) := by decide +kernel
theorem dX3_search_114 : decode cX3_search 114 = .ok (.aload_n 2, 1) := by decide +kernel
theorem dX3_search_115 : decode cX3_search 115 = .ok (.invokevirtual 58, 3) := by decide +kernel
theorem dX3_search_118 : decode cX3_search 118 = .ok (.aload_n 0, 1) := by decide +kernel
theorem dX3_search_119 : decode cX3_search 119 = .ok (.getfield 15, 3) := by decide +kernel
theorem dX3_search_122 : decode cX3_search 122 = .ok (.if_icmp .ge 16, 3) := by decide +kernel
theorem dX3_search_125 : decode cX3_search 125 = .ok (.aload_n 0, 1) := by decide +kernel
theorem dX3_search_126 : decode cX3_search 126 = .ok (.aload_n 2, 1) := by decide +kernel
theorem dX3_search_127 : decode cX3_search 127 = .ok (.invokevirtual 58, 3) := by decide +kernel
theorem dX3_search_130 : decode cX3_search 130 = .ok (.putfield 15, 3) := by decide +kernel
theorem dX3_search_133 : decode cX3_search 133 = .ok (.aload_n 0, 1) := by decide +kernel
theorem dX3_search_134 : decode cX3_search 134 = .ok (.aload_n 2, 1) := by decide +kernel
theorem dX3_search_135 : decode cX3_search 135 = .ok (.invokevirtual 62, 3) := by decide +kernel
theorem dX3_search_138 : decode cX3_search 138 = .ok (.iinc 6 1, 3) := by decide +kernel
theorem dX3_search_141 : decode cX3_search 141 = .ok (.goto (-60), 3) := by decide +kernel
theorem dX3_search_144 : decode cX3_search 144 = .ok (.return_, 1) := by decide +kernel
theorem dX3_findDolls_0 : decode cX3_findDolls 0 = .ok (.aload_n 1, 1) := by decide +kernel
theorem dX3_findDolls_1 : decode cX3_findDolls 1 = .ok (.iload_n 2, 1) := by decide +kernel
theorem dX3_findDolls_2 : decode cX3_findDolls 2 = .ok (.invokevirtual 65, 3) := by decide +kernel
theorem dX3_findDolls_5 : decode cX3_findDolls 5 = .ok (.istore_n 3, 1) := by decide +kernel
theorem dX3_findDolls_6 : decode cX3_findDolls 6 = .ok (.aload_n 0, 1) := by decide +kernel
theorem dX3_findDolls_7 : decode cX3_findDolls 7 = .ok (.iconst 0, 1) := by decide +kernel
theorem dX3_findDolls_8 : decode cX3_findDolls 8 = .ok (.putfield 9, 3) := by decide +kernel
theorem dX3_findDolls_11 : decode cX3_findDolls 11 = .ok (.iconst 0, 1) := by decide +kernel
theorem dX3_findDolls_12 : decode cX3_findDolls 12 = .ok (.istore 4, 2) := by decide +kernel
theorem dX3_findDolls_14 : decode cX3_findDolls 14 = .ok (.iload 4, 2) := by decide +kernel
theorem dX3_findDolls_16 : decode cX3_findDolls 16 = .ok (.bipush 10, 2) := by decide +kernel
theorem dX3_findDolls_18 : decode cX3_findDolls 18 = .ok (.if_icmp .ge 48, 3) := by decide +kernel
theorem dX3_findDolls_21 : decode cX3_findDolls 21 = .ok (.aload_n 0, 1) := by decide +kernel
theorem dX3_findDolls_22 : decode cX3_findDolls 22 = .ok (.getfield 9, 3) := by decide +kernel
theorem dX3_findDolls_25 : decode cX3_findDolls 25 = .ok (.iconst 4, 1) := by decide +kernel
theorem dX3_findDolls_26 : decode cX3_findDolls 26 = .ok (.if_icmp .ge 40, 3) := by decide +kernel
theorem dX3_findDolls_29 : decode cX3_findDolls 29 = .ok (.iload_n 3, 1) := by decide +kernel
theorem dX3_findDolls_30 : decode cX3_findDolls 30 = .ok (.iload 4, 2) := by decide +kernel
theorem dX3_findDolls_32 : decode cX3_findDolls 32 = .ok (.ishr, 1) := by decide +kernel
theorem dX3_findDolls_33 : decode cX3_findDolls 33 = .ok (.iconst 1, 1) := by decide +kernel
theorem dX3_findDolls_34 : decode cX3_findDolls 34 = .ok (.iand, 1) := by decide +kernel
theorem dX3_findDolls_35 : decode cX3_findDolls 35 = .ok (.iconst 1, 1) := by decide +kernel
theorem dX3_findDolls_36 : decode cX3_findDolls 36 = .ok (.if_icmp .ne 24, 3) := by decide +kernel
theorem dX3_findDolls_39 : decode cX3_findDolls 39 = .ok (.aload_n 0, 1) := by decide +kernel
theorem dX3_findDolls_40 : decode cX3_findDolls 40 = .ok (.getfield 31, 3) := by decide +kernel
theorem dX3_findDolls_43 : decode cX3_findDolls 43 = .ok (.aload_n 0, 1) := by decide +kernel
theorem dX3_findDolls_44 : decode cX3_findDolls 44 = .ok (.getfield 9, 3) := by decide +kernel
theorem dX3_findDolls_47 : decode cX3_findDolls 47 = .ok (.iload 4, 2) := by decide +kernel
theorem dX3_findDolls_49 : decode cX3_findDolls 49 = .ok (.iastore, 1) := by decide +kernel
theorem dX3_findDolls_50 : decode cX3_findDolls 50 = .ok (.aload_n 0, 1) := by decide +kernel
theorem dX3_findDolls_51 : decode cX3_findDolls 51 = .ok (.dup, 1) := by decide +kernel
theorem dX3_findDolls_52 : decode cX3_findDolls 52 = .ok (.getfield 9, 3) := by decide +kernel
theorem dX3_findDolls_55 : decode cX3_findDolls 55 = .ok (.iconst 1, 1) := by decide +kernel
theorem dX3_findDolls_56 : decode cX3_findDolls 56 = .ok (.iadd, 1) := by decide +kernel
theorem dX3_findDolls_57 : decode cX3_findDolls 57 = .ok (.putfield 9, 3) := by decide +kernel
theorem dX3_findDolls_60 : decode cX3_findDolls 60 = .ok (.iinc 4 1, 3) := by decide +kernel
theorem dX3_findDolls_63 : decode cX3_findDolls 63 = .ok (.goto (-49), 3) := by decide +kernel
theorem dX3_findDolls_66 : decode cX3_findDolls 66 = .ok (.return_, 1) := by decide +kernel
theorem dX3_findNurses_0 : decode cX3_findNurses 0 = .ok (.iconst 0, 1) := by decide +kernel
theorem dX3_findNurses_1 : decode cX3_findNurses 1 = .ok (.istore_n 3, 1) := by decide +kernel
theorem dX3_findNurses_2 : decode cX3_findNurses 2 = .ok (.aload_n 0, 1) := by decide +kernel
theorem dX3_findNurses_3 : decode cX3_findNurses 3 = .ok (.iconst 0, 1) := by decide +kernel
theorem dX3_findNurses_4 : decode cX3_findNurses 4 = .ok (.putfield 28, 3) := by decide +kernel
theorem dX3_findNurses_7 : decode cX3_findNurses 7 = .ok (.iconst 0, 1) := by decide +kernel
theorem dX3_findNurses_8 : decode cX3_findNurses 8 = .ok (.istore 4, 2) := by decide +kernel
theorem dX3_findNurses_10 : decode cX3_findNurses 10 = .ok (.iload 4, 2) := by decide +kernel
theorem dX3_findNurses_12 : decode cX3_findNurses 12 = .ok (.aload_n 1, 1) := by decide +kernel
theorem dX3_findNurses_13 : decode cX3_findNurses 13 = .ok (.getfield 69, 3) := by decide +kernel
theorem dX3_findNurses_16 : decode cX3_findNurses 16 = .ok (.getfield 73, 3) := by decide +kernel
theorem dX3_findNurses_19 : decode cX3_findNurses 19 = .ok (.if_icmp .ge 69, 3) := by decide +kernel
theorem dX3_findNurses_22 : decode cX3_findNurses 22 = .ok (.aload_n 1, 1) := by decide +kernel
theorem dX3_findNurses_23 : decode cX3_findNurses 23 = .ok (.getfield 76, 3) := by decide +kernel
theorem dX3_findNurses_26 : decode cX3_findNurses 26 = .ok (.iload 4, 2) := by decide +kernel
theorem dX3_findNurses_28 : decode cX3_findNurses 28 = .ok (.iaload, 1) := by decide +kernel
theorem dX3_findNurses_29 : decode cX3_findNurses 29 = .ok (.istore 5, 2) := by decide +kernel
theorem dX3_findNurses_31 : decode cX3_findNurses 31 = .ok (.aload_n 1, 1) := by decide +kernel
theorem dX3_findNurses_32 : decode cX3_findNurses 32 = .ok (.getfield 69, 3) := by decide +kernel
theorem dX3_findNurses_35 : decode cX3_findNurses 35 = .ok (.getfield 79, 3) := by decide +kernel
theorem dX3_findNurses_38 : decode cX3_findNurses 38 = .ok (.iload 4, 2) := by decide +kernel
theorem dX3_findNurses_40 : decode cX3_findNurses 40 = .ok (.iaload, 1) := by decide +kernel
theorem dX3_findNurses_41 : decode cX3_findNurses 41 = .ok (.iload_n 2, 1) := by decide +kernel
theorem dX3_findNurses_42 : decode cX3_findNurses 42 = .ok (.if_icmp .ne 40, 3) := by decide +kernel
theorem dX3_findNurses_45 : decode cX3_findNurses 45 = .ok (.iload_n 3, 1) := by decide +kernel
theorem dX3_findNurses_46 : decode cX3_findNurses 46 = .ok (.iload 5, 2) := by decide +kernel
theorem dX3_findNurses_48 : decode cX3_findNurses 48 = .ok (.ishr, 1) := by decide +kernel
theorem dX3_findNurses_49 : decode cX3_findNurses 49 = .ok (.iconst 1, 1) := by decide +kernel
theorem dX3_findNurses_50 : decode cX3_findNurses 50 = .ok (.iand, 1) := by decide +kernel
theorem dX3_findNurses_51 : decode cX3_findNurses 51 = .ok (.ifCond .ne 31, 3) := by decide +kernel
theorem dX3_findNurses_54 : decode cX3_findNurses 54 = .ok (.iload_n 3, 1) := by decide +kernel
theorem dX3_findNurses_55 : decode cX3_findNurses 55 = .ok (.iconst 1, 1) := by decide +kernel
theorem dX3_findNurses_56 : decode cX3_findNurses 56 = .ok (.iload 5, 2) := by decide +kernel
theorem dX3_findNurses_58 : decode cX3_findNurses 58 = .ok (.ishl, 1) := by decide +kernel
theorem dX3_findNurses_59 : decode cX3_findNurses 59 = .ok (.ior, 1) := by decide +kernel
theorem dX3_findNurses_60 : decode cX3_findNurses 60 = .ok (.istore_n 3, 1) := by decide +kernel
theorem dX3_findNurses_61 : decode cX3_findNurses 61 = .ok (.aload_n 0, 1) := by decide +kernel
theorem dX3_findNurses_62 : decode cX3_findNurses 62 = .ok (.getfield 34, 3) := by decide +kernel
theorem dX3_findNurses_65 : decode cX3_findNurses 65 = .ok (.aload_n 0, 1) := by decide +kernel
theorem dX3_findNurses_66 : decode cX3_findNurses 66 = .ok (.getfield 28, 3) := by decide +kernel
theorem dX3_findNurses_69 : decode cX3_findNurses 69 = .ok (.iload 4, 2) := by decide +kernel
theorem dX3_findNurses_71 : decode cX3_findNurses 71 = .ok (.iastore, 1) := by decide +kernel
theorem dX3_findNurses_72 : decode cX3_findNurses 72 = .ok (.aload_n 0, 1) := by decide +kernel
theorem dX3_findNurses_73 : decode cX3_findNurses 73 = .ok (.dup, 1) := by decide +kernel
theorem dX3_findNurses_74 : decode cX3_findNurses 74 = .ok (.getfield 28, 3) := by decide +kernel
theorem dX3_findNurses_77 : decode cX3_findNurses 77 = .ok (.iconst 1, 1) := by decide +kernel
theorem dX3_findNurses_78 : decode cX3_findNurses 78 = .ok (.iadd, 1) := by decide +kernel
theorem dX3_findNurses_79 : decode cX3_findNurses 79 = .ok (.putfield 28, 3) := by decide +kernel
theorem dX3_findNurses_82 : decode cX3_findNurses 82 = .ok (.iinc 4 1, 3) := by decide +kernel
theorem dX3_findNurses_85 : decode cX3_findNurses 85 = .ok (.goto (-75), 3) := by decide +kernel
theorem dX3_findNurses_88 : decode cX3_findNurses 88 = .ok (.return_, 1) := by decide +kernel
theorem dX3_giveBy_0 : decode cX3_giveBy 0 = .ok (.iload_n 1, 1) := by decide +kernel
theorem dX3_giveBy_1 : decode cX3_giveBy 1 = .ok (.istore_n 3, 1) := by decide +kernel
theorem dX3_giveBy_2 : decode cX3_giveBy 2 = .ok (.aload_n 0, 1) := by decide +kernel
theorem dX3_giveBy_3 : decode cX3_giveBy 3 = .ok (.getfield 9, 3) := by decide +kernel
theorem dX3_giveBy_6 : decode cX3_giveBy 6 = .ok (.iconst 1, 1) := by decide +kernel
theorem dX3_giveBy_7 : decode cX3_giveBy 7 = .ok (.isub, 1) := by decide +kernel
theorem dX3_giveBy_8 : decode cX3_giveBy 8 = .ok (.istore 4, 2) := by decide +kernel
theorem dX3_giveBy_10 : decode cX3_giveBy 10 = .ok (.iload 4, 2) := by decide +kernel
theorem dX3_giveBy_12 : decode cX3_giveBy 12 = .ok (.ifCond .lt 46, 3) := by decide +kernel
theorem dX3_giveBy_15 : decode cX3_giveBy 15 = .ok (.aload_n 0, 1) := by decide +kernel
theorem dX3_giveBy_16 : decode cX3_giveBy 16 = .ok (.getfield 28, 3) := by decide +kernel
theorem dX3_giveBy_19 : decode cX3_giveBy 19 = .ok (.ifCond .le 39, 3) := by decide +kernel
theorem dX3_giveBy_22 : decode cX3_giveBy 22 = .ok (.aload_n 2, 1) := by decide +kernel
theorem dX3_giveBy_23 : decode cX3_giveBy 23 = .ok (.getfield 82, 3) := by decide +kernel
theorem dX3_giveBy_26 : decode cX3_giveBy 26 = .ok (.aload_n 0, 1) := by decide +kernel
theorem dX3_giveBy_27 : decode cX3_giveBy 27 = .ok (.getfield 31, 3) := by decide +kernel
theorem dX3_giveBy_30 : decode cX3_giveBy 30 = .ok (.iload 4, 2) := by decide +kernel
theorem dX3_giveBy_32 : decode cX3_giveBy 32 = .ok (.iaload, 1) := by decide +kernel
theorem dX3_giveBy_33 : decode cX3_giveBy 33 = .ok (.aload_n 0, 1) := by decide +kernel
theorem dX3_giveBy_34 : decode cX3_giveBy 34 = .ok (.getfield 34, 3) := by decide +kernel
theorem dX3_giveBy_37 : decode cX3_giveBy 37 = .ok (.iload_n 3, 1) := by decide +kernel
theorem dX3_giveBy_38 : decode cX3_giveBy 38 = .ok (.aload_n 0, 1) := by decide +kernel
theorem dX3_giveBy_39 : decode cX3_giveBy 39 = .ok (.getfield 28, 3) := by decide +kernel
theorem dX3_giveBy_42 : decode cX3_giveBy 42 = .ok (.irem, 1) := by decide +kernel
theorem dX3_giveBy_43 : decode cX3_giveBy 43 = .ok (.iaload, 1) := by decide +kernel
theorem dX3_giveBy_44 : decode cX3_giveBy 44 = .ok (.iastore, 1) := by decide +kernel
theorem dX3_giveBy_45 : decode cX3_giveBy 45 = .ok (.iload_n 3, 1) := by decide +kernel
theorem dX3_giveBy_46 : decode cX3_giveBy 46 = .ok (.aload_n 0, 1) := by decide +kernel
theorem dX3_giveBy_47 : decode cX3_giveBy 47 = .ok (.getfield 28, 3) := by decide +kernel
theorem dX3_giveBy_50 : decode cX3_giveBy 50 = .ok (.idiv, 1) := by decide +kernel
theorem dX3_giveBy_51 : decode cX3_giveBy 51 = .ok (.istore_n 3, 1) := by decide +kernel
theorem dX3_giveBy_52 : decode cX3_giveBy 52 = .ok (.iinc 4 (-1), 3) := by decide +kernel
theorem dX3_giveBy_55 : decode cX3_giveBy 55 = .ok (.goto (-45), 3) := by decide +kernel
theorem dX3_giveBy_58 : decode cX3_giveBy 58 = .ok (.return_, 1) := by decide +kernel
theorem dX3_choose_0 : decode cX3_choose 0 = .ok (.iconst 0, 1) := by decide +kernel
theorem dX3_choose_1 : decode cX3_choose 1 = .ok (.istore_n 2, 1) := by decide +kernel
theorem dX3_choose_2 : decode cX3_choose 2 = .ok (.iload_n 2, 1) := by decide +kernel
theorem dX3_choose_3 : decode cX3_choose 3 = .ok (.aload_n 0, 1) := by decide +kernel
theorem dX3_choose_4 : decode cX3_choose 4 = .ok (.getfield 9, 3) := by decide +kernel
theorem dX3_choose_7 : decode cX3_choose 7 = .ok (.if_icmp .ge 26, 3) := by decide +kernel
theorem dX3_choose_10 : decode cX3_choose 10 = .ok (.aload_n 0, 1) := by decide +kernel
theorem dX3_choose_11 : decode cX3_choose 11 = .ok (.getfield 18, 3) := by decide +kernel
theorem dX3_choose_14 : decode cX3_choose 14 = .ok (.iload_n 2, 1) := by decide +kernel
theorem dX3_choose_15 : decode cX3_choose 15 = .ok (.aload_n 1, 1) := by decide +kernel
theorem dX3_choose_16 : decode cX3_choose 16 = .ok (.getfield 82, 3) := by decide +kernel
theorem dX3_choose_19 : decode cX3_choose 19 = .ok (.aload_n 0, 1) := by decide +kernel
theorem dX3_choose_20 : decode cX3_choose 20 = .ok (.getfield 31, 3) := by decide +kernel
theorem dX3_choose_23 : decode cX3_choose 23 = .ok (.iload_n 2, 1) := by decide +kernel
theorem dX3_choose_24 : decode cX3_choose 24 = .ok (.iaload, 1) := by decide +kernel
theorem dX3_choose_25 : decode cX3_choose 25 = .ok (.iaload, 1) := by decide +kernel
theorem dX3_choose_26 : decode cX3_choose 26 = .ok (.iastore, 1) := by decide +kernel
theorem dX3_choose_27 : decode cX3_choose 27 = .ok (.iinc 2 1, 3) := by decide +kernel
theorem dX3_choose_30 : decode cX3_choose 30 = .ok (.goto (-28), 3) := by decide +kernel
theorem dX3_choose_33 : decode cX3_choose 33 = .ok (.return_, 1) := by decide +kernel
theorem dX4_init_0 : decode cX4_init 0 = .ok (.aload_n 0, 1) := by decide +kernel
theorem dX4_init_1 : decode cX4_init 1 = .ok (.invokespecial 3, 3) := by decide +kernel
theorem dX4_init_4 : decode cX4_init 4 = .ok (.aload_n 0, 1) := by decide +kernel
theorem dX4_init_5 : decode cX4_init 5 = .ok (.new 9, 3) := by decide +kernel
theorem dX4_init_8 : decode cX4_init 8 = .ok (.dup, 1) := by decide +kernel
theorem dX4_init_9 : decode cX4_init 9 = .ok (.invokespecial 11, 3) := by decide +kernel
theorem dX4_init_12 : decode cX4_init 12 = .ok (.putfield 12, 3) := by decide +kernel
theorem dX4_init_15 : decode cX4_init 15 = .ok (.aload_n 0, 1) := by decide +kernel
theorem dX4_init_16 : decode cX4_init 16 = .ok (.new 18, 3) := by decide +kernel
theorem dX4_init_19 : decode cX4_init 19 = .ok (.dup, 1) := by decide +kernel
theorem dX4_init_20 : decode cX4_init 20 = .ok (.invokespecial 20, 3) := by decide +kernel
theorem dX4_init_23 : decode cX4_init 23 = .ok (.putfield 21, 3) := by decide +kernel
theorem dX4_init_26 : decode cX4_init 26 = .ok (.aload_n 0, 1) := by decide +kernel
theorem dX4_init_27 : decode cX4_init 27 = .ok (.iconst 0, 1) := by decide +kernel
theorem dX4_init_28 : decode cX4_init 28 = .ok (.putfield 25, 3) := by decide +kernel
theorem dX4_init_31 : decode cX4_init 31 = .ok (.aload_n 0, 1) := by decide +kernel
theorem dX4_init_32 : decode cX4_init 32 = .ok (.iconst (-1), 1) := by decide +kernel
theorem dX4_init_33 : decode cX4_init 33 = .ok (.putfield 29, 3) := by decide +kernel
theorem dX4_init_36 : decode cX4_init 36 = .ok (.aload_n 0, 1) := by decide +kernel
theorem dX4_init_37 : decode cX4_init 37 = .ok (.bipush 72, 2) := by decide +kernel
theorem dX4_init_39 : decode cX4_init 39 = .ok (.newarray .int, 2) := by decide +kernel
theorem dX4_init_41 : decode cX4_init 41 = .ok (.putfield 32, 3) := by decide +kernel
theorem dX4_init_44 : decode cX4_init 44 = .ok (.aload_n 0, 1) := by decide +kernel
theorem dX4_init_45 : decode cX4_init 45 = .ok (.iconst 0, 1) := by decide +kernel
theorem dX4_init_46 : decode cX4_init 46 = .ok (.putfield 36, 3) := by decide +kernel
theorem dX4_init_49 : decode cX4_init 49 = .ok (.aload_n 0, 1) := by decide +kernel
theorem dX4_init_50 : decode cX4_init 50 = .ok (.iconst 0, 1) := by decide +kernel
theorem dX4_init_51 : decode cX4_init 51 = .ok (.putfield 39, 3) := by decide +kernel
theorem dX4_init_54 : decode cX4_init 54 = .ok (.aload_n 0, 1) := by decide +kernel
theorem dX4_init_55 : decode cX4_init 55 = .ok (.iconst 0, 1) := by decide +kernel
theorem dX4_init_56 : decode cX4_init 56 = .ok (.putfield 42, 3) := by decide +kernel
theorem dX4_init_59 : decode cX4_init 59 = .ok (.aload_n 0, 1) := by decide +kernel
theorem dX4_init_60 : decode cX4_init 60 = .ok (.iconst 1, 1) := by decide +kernel
theorem dX4_init_61 : decode cX4_init 61 = .ok (.putfield 45, 3) := by decide +kernel
theorem dX4_init_64 : decode cX4_init 64 = .ok (.return_, 1) := by decide +kernel
theorem dX4_readLines_0 : decode cX4_readLines 0 = .ok (.aload_n 0, 1) := by decide +kernel
theorem dX4_readLines_1 : decode cX4_readLines 1 = .ok (.getfield 21, 3) := by decide +kernel
theorem dX4_readLines_4 : decode cX4_readLines 4 = .ok (.invokevirtual 49, 3) := by decide +kernel
theorem dX4_readLines_7 : decode cX4_readLines 7 = .ok (.aload_n 0, 1) := by decide +kernel
theorem dX4_readLines_8 : decode cX4_readLines 8 = .ok (.iconst 0, 1) := by decide +kernel
theorem dX4_readLines_9 : decode cX4_readLines 9 = .ok (.putfield 36, 3) := by decide +kernel
theorem dX4_readLines_12 : decode cX4_readLines 12 = .ok (.aload_n 0, 1) := by decide +kernel
theorem dX4_readLines_13 : decode cX4_readLines 13 = .ok (.iconst 0, 1) := by decide +kernel
theorem dX4_readLines_14 : decode cX4_readLines 14 = .ok (.putfield 25, 3) := by decide +kernel
theorem dX4_readLines_17 : decode cX4_readLines 17 = .ok (.aload_n 0, 1) := by decide +kernel
theorem dX4_readLines_18 : decode cX4_readLines 18 = .ok (.iconst (-1), 1) := by decide +kernel
theorem dX4_readLines_19 : decode cX4_readLines 19 = .ok (.putfield 29, 3) := by decide +kernel
theorem dX4_readLines_22 : decode cX4_readLines 22 = .ok (.iconst 0, 1) := by decide +kernel
theorem dX4_readLines_23 : decode cX4_readLines 23 = .ok (.istore_n 1, 1) := by decide +kernel
theorem dX4_readLines_24 : decode cX4_readLines 24 = .ok (.iload_n 1, 1) := by decide +kernel
theorem dX4_readLines_25 : decode cX4_readLines 25 = .ok (.sipush 700, 3) := by decide +kernel
theorem dX4_readLines_28 : decode cX4_readLines 28 = .ok (.if_icmp .gt 35, 3) := by decide +kernel
theorem dX4_readLines_31 : decode cX4_readLines 31 = .ok (.aload_n 0, 1) := by decide +kernel
theorem dX4_readLines_32 : decode cX4_readLines 32 = .ok (.invokevirtual 52, 3) := by decide +kernel
theorem dX4_readLines_35 : decode cX4_readLines 35 = .ok (.ifCond .ne 5, 3) := by decide +kernel
theorem dX4_readLines_38 : decode cX4_readLines 38 = .ok (.iload_n 1, 1) := by decide +kernel
theorem dX4_readLines_39 : decode cX4_readLines 39 = .ok (.ireturn, 1) := by decide +kernel
theorem dX4_readLines_40 : decode cX4_readLines 40 = .ok (.aload_n 0, 1) := by decide +kernel
theorem dX4_readLines_41 : decode cX4_readLines 41 = .ok (.invokevirtual 56, 3) := by decide +kernel
theorem dX4_readLines_44 : decode cX4_readLines 44 = .ok (.ifCond .eq 11, 3) := by decide +kernel
theorem dX4_readLines_47 : decode cX4_readLines 47 = .ok (.aload_n 0, 1) := by decide +kernel
theorem dX4_readLines_48 : decode cX4_readLines 48 = .ok (.iconst 4, 1) := by decide +kernel
theorem dX4_readLines_49 : decode cX4_readLines 49 = .ok (.invokevirtual 60, 3) := by decide +kernel
theorem dX4_readLines_52 : decode cX4_readLines 52 = .ok (.ifCond .ne 5, 3) := by decide +kernel
theorem dX4_readLines_55 : decode cX4_readLines 55 = .ok (.iconst (-1), 1) := by decide +kernel
theorem dX4_readLines_56 : decode cX4_readLines 56 = .ok (.ireturn, 1) := by decide +kernel
theorem dX4_readLines_57 : decode cX4_readLines 57 = .ok (.iinc 1 1, 3) := by decide +kernel
theorem dX4_readLines_60 : decode cX4_readLines 60 = .ok (.goto (-36), 3) := by decide +kernel
theorem dX4_readLines_63 : decode cX4_readLines 63 = .ok (.iconst (-1), 1) := by decide +kernel
theorem dX4_readLines_64 : decode cX4_readLines 64 = .ok (.ireturn, 1) := by decide +kernel
theorem dX4_kind_0 : decode cX4_kind 0 = .ok (.aload_n 0, 1) := by decide +kernel
theorem dX4_kind_1 : decode cX4_kind 1 = .ok (.getfield 36, 3) := by decide +kernel
theorem dX4_kind_4 : decode cX4_kind 4 = .ok (.sipush 700, 3) := by decide +kernel
theorem dX4_kind_7 : decode cX4_kind 7 = .ok (.if_icmp .gt 18, 3) := by decide +kernel
theorem dX4_kind_10 : decode cX4_kind 10 = .ok (.aload_n 0, 1) := by decide +kernel
theorem dX4_kind_11 : decode cX4_kind 11 = .ok (.getfield 12, 3) := by decide +kernel
theorem dX4_kind_14 : decode cX4_kind 14 = .ok (.getfield 64, 3) := by decide +kernel
theorem dX4_kind_17 : decode cX4_kind 17 = .ok (.aload_n 0, 1) := by decide +kernel
theorem dX4_kind_18 : decode cX4_kind 18 = .ok (.getfield 36, 3) := by decide +kernel
theorem dX4_kind_21 : decode cX4_kind 21 = .ok (.iaload, 1) := by decide +kernel
theorem dX4_kind_22 : decode cX4_kind 22 = .ok (.goto 4, 3) := by decide +kernel
theorem dX4_kind_25 : decode cX4_kind 25 = .ok (.iconst 0, 1) := by decide +kernel
theorem dX4_kind_26 : decode cX4_kind 26 = .ok (.ireturn, 1) := by decide +kernel
theorem dX4_value_0 : decode cX4_value 0 = .ok (.aload_n 0, 1) := by decide +kernel
theorem dX4_value_1 : decode cX4_value 1 = .ok (.getfield 36, 3) := by decide +kernel
theorem dX4_value_4 : decode cX4_value 4 = .ok (.sipush 700, 3) := by decide +kernel
theorem dX4_value_7 : decode cX4_value 7 = .ok (.if_icmp .gt 18, 3) := by decide +kernel
theorem dX4_value_10 : decode cX4_value 10 = .ok (.aload_n 0, 1) := by decide +kernel
theorem dX4_value_11 : decode cX4_value 11 = .ok (.getfield 12, 3) := by decide +kernel
theorem dX4_value_14 : decode cX4_value 14 = .ok (.getfield 66, 3) := by decide +kernel
theorem dX4_value_17 : decode cX4_value 17 = .ok (.aload_n 0, 1) := by decide +kernel
theorem dX4_value_18 : decode cX4_value 18 = .ok (.getfield 36, 3) := by decide +kernel
theorem dX4_value_21 : decode cX4_value 21 = .ok (.iaload, 1) := by decide +kernel
theorem dX4_value_22 : decode cX4_value 22 = .ok (.goto 4, 3) := by decide +kernel
theorem dX4_value_25 : decode cX4_value 25 = .ok (.iconst 0, 1) := by decide +kernel
theorem dX4_value_26 : decode cX4_value 26 = .ok (.ireturn, 1) := by decide +kernel
theorem dX4_wrong_0 : decode cX4_wrong 0 = .ok (.aload_n 0, 1) := by decide +kernel
theorem dX4_wrong_1 : decode cX4_wrong 1 = .ok (.iload_n 1, 1) := by decide +kernel
theorem dX4_wrong_2 : decode cX4_wrong 2 = .ok (.putfield 25, 3) := by decide +kernel
theorem dX4_wrong_5 : decode cX4_wrong 5 = .ok (.aload_n 0, 1) := by decide +kernel
theorem dX4_wrong_6 : decode cX4_wrong 6 = .ok (.aload_n 0, 1) := by decide +kernel
theorem dX4_wrong_7 : decode cX4_wrong 7 = .ok (.getfield 36, 3) := by decide +kernel
theorem dX4_wrong_10 : decode cX4_wrong 10 = .ok (.sipush 700, 3) := by decide +kernel
theorem dX4_wrong_13 : decode cX4_wrong 13 = .ok (.if_icmp .gt 18, 3) := by decide +kernel
theorem dX4_wrong_16 : decode cX4_wrong 16 = .ok (.aload_n 0, 1) := by decide +kernel
theorem dX4_wrong_17 : decode cX4_wrong 17 = .ok (.getfield 12, 3) := by decide +kernel
theorem dX4_wrong_20 : decode cX4_wrong 20 = .ok (.getfield 69, 3) := by decide +kernel
theorem dX4_wrong_23 : decode cX4_wrong 23 = .ok (.aload_n 0, 1) := by decide +kernel
theorem dX4_wrong_24 : decode cX4_wrong 24 = .ok (.getfield 36, 3) := by decide +kernel
theorem dX4_wrong_27 : decode cX4_wrong 27 = .ok (.iaload, 1) := by decide +kernel
theorem dX4_wrong_28 : decode cX4_wrong 28 = .ok (.goto 6, 3) := by decide +kernel
theorem dX4_wrong_31 : decode cX4_wrong 31 = .ok (.sipush 700, 3) := by decide +kernel
theorem dX4_wrong_34 : decode cX4_wrong 34 = .ok (.putfield 29, 3) := by decide +kernel
theorem dX4_wrong_37 : decode cX4_wrong 37 = .ok (.iconst 0, 1) := by decide +kernel
theorem dX4_wrong_38 : decode cX4_wrong 38 = .ok (.ireturn, 1) := by decide +kernel
theorem dX4_pass_0 : decode cX4_pass 0 = .ok (.aload_n 0, 1) := by decide +kernel
theorem dX4_pass_1 : decode cX4_pass 1 = .ok (.invokevirtual 52, 3) := by decide +kernel
theorem dX4_pass_4 : decode cX4_pass 4 = .ok (.iload_n 1, 1) := by decide +kernel
theorem dX4_pass_5 : decode cX4_pass 5 = .ok (.if_icmp .eq 9, 3) := by decide +kernel
theorem dX4_pass_8 : decode cX4_pass 8 = .ok (.aload_n 0, 1) := by decide +kernel
theorem dX4_pass_9 : decode cX4_pass 9 = .ok (.iconst 1, 1) := by decide +kernel
theorem dX4_pass_10 : decode cX4_pass 10 = .ok (.invokevirtual 72, 3) := by decide +kernel
theorem dX4_pass_13 : decode cX4_pass 13 = .ok (.ireturn, 1) := by decide +kernel
theorem dX4_pass_14 : decode cX4_pass 14 = .ok (.aload_n 0, 1) := by decide +kernel
theorem dX4_pass_15 : decode cX4_pass 15 = .ok (.dup, 1) := by decide +kernel
theorem dX4_pass_16 : decode cX4_pass 16 = .ok (.getfield 36, 3) := by decide +kernel
theorem dX4_pass_19 : decode cX4_pass 19 = .ok (.iconst 1, 1) := by decide +kernel
theorem dX4_pass_20 : decode cX4_pass 20 = .ok (.iadd, 1) := by decide +kernel
theorem dX4_pass_21 : decode cX4_pass 21 = .ok (.putfield 36, 3) := by decide +kernel
theorem dX4_pass_24 : decode cX4_pass 24 = .ok (.iconst 1, 1) := by decide +kernel
theorem dX4_pass_25 : decode cX4_pass 25 = .ok (.ireturn, 1) := by decide +kernel
theorem dX4_readLine_0 : decode cX4_readLine 0 = .ok (.aload_n 0, 1) := by decide +kernel
theorem dX4_readLine_1 : decode cX4_readLine 1 = .ok (.invokevirtual 52, 3) := by decide +kernel
theorem dX4_readLine_4 : decode cX4_readLine 4 = .ok (.istore_n 1, 1) := by decide +kernel
theorem dX4_readLine_5 : decode cX4_readLine 5 = .ok (.iload_n 1, 1) := by decide +kernel
theorem dX4_readLine_6 : decode cX4_readLine 6 = .ok (.bipush 29, 2) := by decide +kernel
theorem dX4_readLine_8 : decode cX4_readLine 8 = .ok (.if_icmp .lt 18, 3) := by decide +kernel
theorem dX4_readLine_11 : decode cX4_readLine 11 = .ok (.iload_n 1, 1) := by decide +kernel
theorem dX4_readLine_12 : decode cX4_readLine 12 = .ok (.bipush 32, 2) := by decide +kernel
theorem dX4_readLine_14 : decode cX4_readLine 14 = .ok (.if_icmp .gt 12, 3) := by decide +kernel
theorem dX4_readLine_17 : decode cX4_readLine 17 = .ok (.aload_n 0, 1) := by decide +kernel
theorem dX4_readLine_18 : decode cX4_readLine 18 = .ok (.iload_n 1, 1) := by decide +kernel
theorem dX4_readLine_19 : decode cX4_readLine 19 = .ok (.bipush 29, 2) := by decide +kernel
theorem dX4_readLine_21 : decode cX4_readLine 21 = .ok (.isub, 1) := by decide +kernel
theorem dX4_readLine_22 : decode cX4_readLine 22 = .ok (.invokevirtual 75, 3) := by decide +kernel
theorem dX4_readLine_25 : decode cX4_readLine 25 = .ok (.ireturn, 1) := by decide +kernel
theorem dX4_readLine_26 : decode cX4_readLine 26 = .ok (.iload_n 1, 1) := by decide +kernel
theorem dX4_readLine_27 : decode cX4_readLine 27 = .ok (.lookupswitch 48 #[(27, 33), (28, 38), (33, 43)], 33) := by decide +kernel
theorem dX4_readLine_60 : decode cX4_readLine 60 = .ok (.aload_n 0, 1) := by decide +kernel
theorem dX4_readLine_61 : decode cX4_readLine 61 = .ok (.invokevirtual 78, 3) := by decide +kernel
theorem dX4_readLine_64 : decode cX4_readLine 64 = .ok (.ireturn, 1) := by decide +kernel
theorem dX4_readLine_65 : decode cX4_readLine 65 = .ok (.aload_n 0, 1) := by decide +kernel
theorem dX4_readLine_66 : decode cX4_readLine 66 = .ok (.invokevirtual 81, 3) := by decide +kernel
theorem dX4_readLine_69 : decode cX4_readLine 69 = .ok (.ireturn, 1) := by decide +kernel
theorem dX4_readLine_70 : decode cX4_readLine 70 = .ok (.aload_n 0, 1) := by decide +kernel
theorem dX4_readLine_71 : decode cX4_readLine 71 = .ok (.invokevirtual 84, 3) := by decide +kernel
theorem dX4_readLine_74 : decode cX4_readLine 74 = .ok (.ireturn, 1) := by decide +kernel
theorem dX4_readLine_75 : decode cX4_readLine 75 = .ok (.aload_n 0, 1) := by decide +kernel
theorem dX4_readLine_76 : decode cX4_readLine 76 = .ok (.iconst 1, 1) := by decide +kernel
theorem dX4_readLine_77 : decode cX4_readLine 77 = .ok (.invokevirtual 72, 3) := by decide +kernel
theorem dX4_readLine_80 : decode cX4_readLine 80 = .ok (.ireturn, 1) := by decide +kernel
theorem dX4_readNurse_0 : decode cX4_readNurse 0 = .ok (.aload_n 0, 1) := by decide +kernel
theorem dX4_readNurse_1 : decode cX4_readNurse 1 = .ok (.getfield 21, 3) := by decide +kernel
theorem dX4_readNurse_4 : decode cX4_readNurse 4 = .ok (.getfield 87, 3) := by decide +kernel
theorem dX4_readNurse_7 : decode cX4_readNurse 7 = .ok (.istore_n 1, 1) := by decide +kernel
theorem dX4_readNurse_8 : decode cX4_readNurse 8 = .ok (.iload_n 1, 1) := by decide +kernel
theorem dX4_readNurse_9 : decode cX4_readNurse 9 = .ok (.bipush 6, 2) := by decide +kernel
theorem dX4_readNurse_11 : decode cX4_readNurse 11 = .ok (.if_icmp .lt 9, 3) := by decide +kernel
theorem dX4_readNurse_14 : decode cX4_readNurse 14 = .ok (.aload_n 0, 1) := by decide +kernel
theorem dX4_readNurse_15 : decode cX4_readNurse 15 = .ok (.iconst 2, 1) := by decide +kernel
theorem dX4_readNurse_16 : decode cX4_readNurse 16 = .ok (.invokevirtual 72, 3) := by decide +kernel
theorem dX4_readNurse_19 : decode cX4_readNurse 19 = .ok (.ireturn, 1) := by decide +kernel
theorem dX4_readNurse_20 : decode cX4_readNurse 20 = .ok (.aload_n 0, 1) := by decide +kernel
theorem dX4_readNurse_21 : decode cX4_readNurse 21 = .ok (.dup, 1) := by decide +kernel
theorem dX4_readNurse_22 : decode cX4_readNurse 22 = .ok (.getfield 36, 3) := by decide +kernel
theorem dX4_readNurse_25 : decode cX4_readNurse 25 = .ok (.iconst 1, 1) := by decide +kernel
theorem dX4_readNurse_26 : decode cX4_readNurse 26 = .ok (.iadd, 1) := by decide +kernel
theorem dX4_readNurse_27 : decode cX4_readNurse 27 = .ok (.putfield 36, 3) := by decide +kernel
theorem dX4_readNurse_30 : decode cX4_readNurse 30 = .ok (.aload_n 0, 1) := by decide +kernel
theorem dX4_readNurse_31 : decode cX4_readNurse 31 = .ok (.aload_n 0, 1) := by decide +kernel
theorem dX4_readNurse_32 : decode cX4_readNurse 32 = .ok (.getfield 21, 3) := by decide +kernel
theorem dX4_readNurse_35 : decode cX4_readNurse 35 = .ok (.getfield 90, 3) := by decide +kernel
theorem dX4_readNurse_38 : decode cX4_readNurse 38 = .ok (.iload_n 1, 1) := by decide +kernel
theorem dX4_readNurse_39 : decode cX4_readNurse 39 = .ok (.invokevirtual 93, 3) := by decide +kernel
theorem dX4_readNurse_42 : decode cX4_readNurse 42 = .ok (.ifCond .ne 5, 3) := by decide +kernel
theorem dX4_readNurse_45 : decode cX4_readNurse 45 = .ok (.iconst 0, 1) := by decide +kernel
theorem dX4_readNurse_46 : decode cX4_readNurse 46 = .ok (.ireturn, 1) := by decide +kernel
theorem dX4_readNurse_47 : decode cX4_readNurse 47 = .ok (.aload_n 0, 1) := by decide +kernel
theorem dX4_readNurse_48 : decode cX4_readNurse 48 = .ok (.invokevirtual 52, 3) := by decide +kernel
theorem dX4_readNurse_51 : decode cX4_readNurse 51 = .ok (.bipush 34, 2) := by decide +kernel
theorem dX4_readNurse_53 : decode cX4_readNurse 53 = .ok (.if_icmp .eq 18, 3) := by decide +kernel
theorem dX4_readNurse_56 : decode cX4_readNurse 56 = .ok (.aload_n 0, 1) := by decide +kernel
theorem dX4_readNurse_57 : decode cX4_readNurse 57 = .ok (.invokevirtual 52, 3) := by decide +kernel
theorem dX4_readNurse_60 : decode cX4_readNurse 60 = .ok (.bipush 35, 2) := by decide +kernel
theorem dX4_readNurse_62 : decode cX4_readNurse 62 = .ok (.if_icmp .eq 9, 3) := by decide +kernel
theorem dX4_readNurse_65 : decode cX4_readNurse 65 = .ok (.aload_n 0, 1) := by decide +kernel
theorem dX4_readNurse_66 : decode cX4_readNurse 66 = .ok (.iconst 1, 1) := by decide +kernel
theorem dX4_readNurse_67 : decode cX4_readNurse 67 = .ok (.invokevirtual 72, 3) := by decide +kernel
theorem dX4_readNurse_70 : decode cX4_readNurse 70 = .ok (.ireturn, 1) := by decide +kernel
theorem dX4_readNurse_71 : decode cX4_readNurse 71 = .ok (.aload_n 0, 1) := by decide +kernel
theorem dX4_readNurse_72 : decode cX4_readNurse 72 = .ok (.getfield 21, 3) := by decide +kernel
theorem dX4_readNurse_75 : decode cX4_readNurse 75 = .ok (.getfield 97, 3) := by decide +kernel
theorem dX4_readNurse_78 : decode cX4_readNurse 78 = .ok (.iload_n 1, 1) := by decide +kernel
theorem dX4_readNurse_79 : decode cX4_readNurse 79 = .ok (.aload_n 0, 1) := by decide +kernel
theorem dX4_readNurse_80 : decode cX4_readNurse 80 = .ok (.invokevirtual 52, 3) := by decide +kernel
theorem dX4_readNurse_83 : decode cX4_readNurse 83 = .ok (.bipush 34, 2) := by decide +kernel
theorem dX4_readNurse_85 : decode cX4_readNurse 85 = .ok (.isub, 1) := by decide +kernel
theorem dX4_readNurse_86 : decode cX4_readNurse 86 = .ok (.iastore, 1) := by decide +kernel
theorem dX4_readNurse_87 : decode cX4_readNurse 87 = .ok (.aload_n 0, 1) := by decide +kernel
theorem dX4_readNurse_88 : decode cX4_readNurse 88 = .ok (.dup, 1) := by decide +kernel
theorem dX4_readNurse_89 : decode cX4_readNurse 89 = .ok (.getfield 36, 3) := by decide +kernel
theorem dX4_readNurse_92 : decode cX4_readNurse 92 = .ok (.iconst 1, 1) := by decide +kernel
theorem dX4_readNurse_93 : decode cX4_readNurse 93 = .ok (.iadd, 1) := by decide +kernel
theorem dX4_readNurse_94 : decode cX4_readNurse 94 = .ok (.putfield 36, 3) := by decide +kernel
theorem dX4_readNurse_97 : decode cX4_readNurse 97 = .ok (.aload_n 0, 1) := by decide +kernel
theorem dX4_readNurse_98 : decode cX4_readNurse 98 = .ok (.aload_n 0, 1) := by decide +kernel
theorem dX4_readNurse_99 : decode cX4_readNurse 99 = .ok (.getfield 21, 3) := by decide +kernel
theorem dX4_readNurse_102 : decode cX4_readNurse 102 = .ok (.getfield 100, 3) := by decide +kernel
theorem dX4_readNurse_105 : decode cX4_readNurse 105 = .ok (.iload_n 1, 1) := by decide +kernel
theorem dX4_readNurse_106 : decode cX4_readNurse 106 = .ok (.iconst 0, 1) := by decide +kernel
theorem dX4_readNurse_107 : decode cX4_readNurse 107 = .ok (.bipush 9, 2) := by decide +kernel
theorem dX4_readNurse_109 : decode cX4_readNurse 109 = .ok (.invokevirtual 103, 3) := by decide +kernel
theorem dX4_readNurse_112 : decode cX4_readNurse 112 = .ok (.ifCond .ne 5, 3) := by decide +kernel
theorem dX4_readNurse_115 : decode cX4_readNurse 115 = .ok (.iconst 0, 1) := by decide +kernel
theorem dX4_readNurse_116 : decode cX4_readNurse 116 = .ok (.ireturn, 1) := by decide +kernel
theorem dX4_readNurse_117 : decode cX4_readNurse 117 = .ok (.aload_n 0, 1) := by decide +kernel
theorem dX4_readNurse_118 : decode cX4_readNurse 118 = .ok (.getfield 21, 3) := by decide +kernel
theorem dX4_readNurse_121 : decode cX4_readNurse 121 = .ok (.dup, 1) := by decide +kernel
theorem dX4_readNurse_122 : decode cX4_readNurse 122 = .ok (.getfield 87, 3) := by decide +kernel
theorem dX4_readNurse_125 : decode cX4_readNurse 125 = .ok (.iconst 1, 1) := by decide +kernel
theorem dX4_readNurse_126 : decode cX4_readNurse 126 = .ok (.iadd, 1) := by decide +kernel
theorem dX4_readNurse_127 : decode cX4_readNurse 127 = .ok (.putfield 87, 3) := by decide +kernel
theorem dX4_readNurse_130 : decode cX4_readNurse 130 = .ok (.iconst 1, 1) := by decide +kernel
theorem dX4_readNurse_131 : decode cX4_readNurse 131 = .ok (.ireturn, 1) := by decide +kernel
theorem dX4_readDoll_0 : decode cX4_readDoll 0 = .ok (.aload_n 0, 1) := by decide +kernel
theorem dX4_readDoll_1 : decode cX4_readDoll 1 = .ok (.getfield 21, 3) := by decide +kernel
theorem dX4_readDoll_4 : decode cX4_readDoll 4 = .ok (.getfield 107, 3) := by decide +kernel
theorem dX4_readDoll_7 : decode cX4_readDoll 7 = .ok (.istore_n 1, 1) := by decide +kernel
theorem dX4_readDoll_8 : decode cX4_readDoll 8 = .ok (.iload_n 1, 1) := by decide +kernel
theorem dX4_readDoll_9 : decode cX4_readDoll 9 = .ok (.bipush 10, 2) := by decide +kernel
theorem dX4_readDoll_11 : decode cX4_readDoll 11 = .ok (.if_icmp .lt 9, 3) := by decide +kernel
theorem dX4_readDoll_14 : decode cX4_readDoll 14 = .ok (.aload_n 0, 1) := by decide +kernel
theorem dX4_readDoll_15 : decode cX4_readDoll 15 = .ok (.iconst 2, 1) := by decide +kernel
theorem dX4_readDoll_16 : decode cX4_readDoll 16 = .ok (.invokevirtual 72, 3) := by decide +kernel
theorem dX4_readDoll_19 : decode cX4_readDoll 19 = .ok (.ireturn, 1) := by decide +kernel
theorem dX4_readDoll_20 : decode cX4_readDoll 20 = .ok (.aload_n 0, 1) := by decide +kernel
theorem dX4_readDoll_21 : decode cX4_readDoll 21 = .ok (.dup, 1) := by decide +kernel
theorem dX4_readDoll_22 : decode cX4_readDoll 22 = .ok (.getfield 36, 3) := by decide +kernel
theorem dX4_readDoll_25 : decode cX4_readDoll 25 = .ok (.iconst 1, 1) := by decide +kernel
theorem dX4_readDoll_26 : decode cX4_readDoll 26 = .ok (.iadd, 1) := by decide +kernel
theorem dX4_readDoll_27 : decode cX4_readDoll 27 = .ok (.putfield 36, 3) := by decide +kernel
theorem dX4_readDoll_30 : decode cX4_readDoll 30 = .ok (.aload_n 0, 1) := by decide +kernel
theorem dX4_readDoll_31 : decode cX4_readDoll 31 = .ok (.aload_n 0, 1) := by decide +kernel
theorem dX4_readDoll_32 : decode cX4_readDoll 32 = .ok (.getfield 21, 3) := by decide +kernel
theorem dX4_readDoll_35 : decode cX4_readDoll 35 = .ok (.getfield 110, 3) := by decide +kernel
theorem dX4_readDoll_38 : decode cX4_readDoll 38 = .ok (.iload_n 1, 1) := by decide +kernel
theorem dX4_readDoll_39 : decode cX4_readDoll 39 = .ok (.invokevirtual 93, 3) := by decide +kernel
theorem dX4_readDoll_42 : decode cX4_readDoll 42 = .ok (.ifCond .ne 5, 3) := by decide +kernel
theorem dX4_readDoll_45 : decode cX4_readDoll 45 = .ok (.iconst 0, 1) := by decide +kernel
theorem dX4_readDoll_46 : decode cX4_readDoll 46 = .ok (.ireturn, 1) := by decide +kernel
theorem dX4_readDoll_47 : decode cX4_readDoll 47 = .ok (.aload_n 0, 1) := by decide +kernel
theorem dX4_readDoll_48 : decode cX4_readDoll 48 = .ok (.invokevirtual 52, 3) := by decide +kernel
theorem dX4_readDoll_51 : decode cX4_readDoll 51 = .ok (.iconst 3, 1) := by decide +kernel
theorem dX4_readDoll_52 : decode cX4_readDoll 52 = .ok (.if_icmp .eq 9, 3) := by decide +kernel
theorem dX4_readDoll_55 : decode cX4_readDoll 55 = .ok (.aload_n 0, 1) := by decide +kernel
theorem dX4_readDoll_56 : decode cX4_readDoll 56 = .ok (.iconst 1, 1) := by decide +kernel
theorem dX4_readDoll_57 : decode cX4_readDoll 57 = .ok (.invokevirtual 72, 3) := by decide +kernel
theorem dX4_readDoll_60 : decode cX4_readDoll 60 = .ok (.ireturn, 1) := by decide +kernel
theorem dX4_readDoll_61 : decode cX4_readDoll 61 = .ok (.aload_n 0, 1) := by decide +kernel
theorem dX4_readDoll_62 : decode cX4_readDoll 62 = .ok (.invokevirtual 113, 3) := by decide +kernel
theorem dX4_readDoll_65 : decode cX4_readDoll 65 = .ok (.aload_n 0, 1) := by decide +kernel
theorem dX4_readDoll_66 : decode cX4_readDoll 66 = .ok (.getfield 21, 3) := by decide +kernel
theorem dX4_readDoll_69 : decode cX4_readDoll 69 = .ok (.getfield 90, 3) := by decide +kernel
theorem dX4_readDoll_72 : decode cX4_readDoll 72 = .ok (.aload_n 0, 1) := by decide +kernel
theorem dX4_readDoll_73 : decode cX4_readDoll 73 = .ok (.getfield 21, 3) := by decide +kernel
theorem dX4_readDoll_76 : decode cX4_readDoll 76 = .ok (.getfield 87, 3) := by decide +kernel
theorem dX4_readDoll_79 : decode cX4_readDoll 79 = .ok (.invokestatic 115, 3) := by decide +kernel
theorem dX4_readDoll_82 : decode cX4_readDoll 82 = .ok (.istore_n 2, 1) := by decide +kernel
theorem dX4_readDoll_83 : decode cX4_readDoll 83 = .ok (.iload_n 2, 1) := by decide +kernel
theorem dX4_readDoll_84 : decode cX4_readDoll 84 = .ok (.ifCond .ge 9, 3) := by decide +kernel
theorem dX4_readDoll_87 : decode cX4_readDoll 87 = .ok (.aload_n 0, 1) := by decide +kernel
theorem dX4_readDoll_88 : decode cX4_readDoll 88 = .ok (.iconst 4, 1) := by decide +kernel
theorem dX4_readDoll_89 : decode cX4_readDoll 89 = .ok (.invokevirtual 72, 3) := by decide +kernel
theorem dX4_readDoll_92 : decode cX4_readDoll 92 = .ok (.ireturn, 1) := by decide +kernel
theorem dX4_readDoll_93 : decode cX4_readDoll 93 = .ok (.aload_n 0, 1) := by decide +kernel
theorem dX4_readDoll_94 : decode cX4_readDoll 94 = .ok (.dup, 1) := by decide +kernel
theorem dX4_readDoll_95 : decode cX4_readDoll 95 = .ok (.getfield 36, 3) := by decide +kernel
theorem dX4_readDoll_98 : decode cX4_readDoll 98 = .ok (.iconst 1, 1) := by decide +kernel
theorem dX4_readDoll_99 : decode cX4_readDoll 99 = .ok (.iadd, 1) := by decide +kernel
theorem dX4_readDoll_100 : decode cX4_readDoll 100 = .ok (.putfield 36, 3) := by decide +kernel
theorem dX4_readDoll_103 : decode cX4_readDoll 103 = .ok (.aload_n 0, 1) := by decide +kernel
theorem dX4_readDoll_104 : decode cX4_readDoll 104 = .ok (.aload_n 0, 1) := by decide +kernel
theorem dX4_readDoll_105 : decode cX4_readDoll 105 = .ok (.getfield 21, 3) := by decide +kernel
theorem dX4_readDoll_108 : decode cX4_readDoll 108 = .ok (.getfield 119, 3) := by decide +kernel
theorem dX4_readDoll_111 : decode cX4_readDoll 111 = .ok (.iload_n 1, 1) := by decide +kernel
theorem dX4_readDoll_112 : decode cX4_readDoll 112 = .ok (.iconst 0, 1) := by decide +kernel
theorem dX4_readDoll_113 : decode cX4_readDoll 113 = .ok (.bipush 9, 2) := by decide +kernel
theorem dX4_readDoll_115 : decode cX4_readDoll 115 = .ok (.invokevirtual 103, 3) := by decide +kernel
theorem dX4_readDoll_118 : decode cX4_readDoll 118 = .ok (.ifCond .eq 21, 3) := by decide +kernel
theorem dX4_readDoll_121 : decode cX4_readDoll 121 = .ok (.aload_n 0, 1) := by decide +kernel
theorem dX4_readDoll_122 : decode cX4_readDoll 122 = .ok (.aload_n 0, 1) := by decide +kernel
theorem dX4_readDoll_123 : decode cX4_readDoll 123 = .ok (.getfield 21, 3) := by decide +kernel
theorem dX4_readDoll_126 : decode cX4_readDoll 126 = .ok (.getfield 122, 3) := by decide +kernel
theorem dX4_readDoll_129 : decode cX4_readDoll 129 = .ok (.iload_n 1, 1) := by decide +kernel
theorem dX4_readDoll_130 : decode cX4_readDoll 130 = .ok (.iconst 0, 1) := by decide +kernel
theorem dX4_readDoll_131 : decode cX4_readDoll 131 = .ok (.bipush 99, 2) := by decide +kernel
theorem dX4_readDoll_133 : decode cX4_readDoll 133 = .ok (.invokevirtual 103, 3) := by decide +kernel
theorem dX4_readDoll_136 : decode cX4_readDoll 136 = .ok (.ifCond .ne 5, 3) := by decide +kernel
theorem dX4_readDoll_139 : decode cX4_readDoll 139 = .ok (.iconst 0, 1) := by decide +kernel
theorem dX4_readDoll_140 : decode cX4_readDoll 140 = .ok (.ireturn, 1) := by decide +kernel
theorem dX4_readDoll_141 : decode cX4_readDoll 141 = .ok (.aload_n 0, 1) := by decide +kernel
theorem dX4_readDoll_142 : decode cX4_readDoll 142 = .ok (.getfield 21, 3) := by decide +kernel
theorem dX4_readDoll_145 : decode cX4_readDoll 145 = .ok (.iload_n 2, 1) := by decide +kernel
theorem dX4_readDoll_146 : decode cX4_readDoll 146 = .ok (.invokevirtual 125, 3) := by decide +kernel
theorem dX4_readDoll_149 : decode cX4_readDoll 149 = .ok (.iconst 1, 1) := by decide +kernel
theorem dX4_readDoll_150 : decode cX4_readDoll 150 = .ok (.ireturn, 1) := by decide +kernel
theorem dX4_readSetting_0 : decode cX4_readSetting 0 = .ok (.aload_n 0, 1) := by decide +kernel
theorem dX4_readSetting_1 : decode cX4_readSetting 1 = .ok (.getfield 21, 3) := by decide +kernel
theorem dX4_readSetting_4 : decode cX4_readSetting 4 = .ok (.getfield 129, 3) := by decide +kernel
theorem dX4_readSetting_7 : decode cX4_readSetting 7 = .ok (.iload_n 1, 1) := by decide +kernel
theorem dX4_readSetting_8 : decode cX4_readSetting 8 = .ok (.baload, 1) := by decide +kernel
theorem dX4_readSetting_9 : decode cX4_readSetting 9 = .ok (.ifCond .eq 9, 3) := by decide +kernel
theorem dX4_readSetting_12 : decode cX4_readSetting 12 = .ok (.aload_n 0, 1) := by decide +kernel
theorem dX4_readSetting_13 : decode cX4_readSetting 13 = .ok (.iconst 3, 1) := by decide +kernel
theorem dX4_readSetting_14 : decode cX4_readSetting 14 = .ok (.invokevirtual 72, 3) := by decide +kernel
theorem dX4_readSetting_17 : decode cX4_readSetting 17 = .ok (.ireturn, 1) := by decide +kernel
theorem dX4_readSetting_18 : decode cX4_readSetting 18 = .ok (.aload_n 0, 1) := by decide +kernel
theorem dX4_readSetting_19 : decode cX4_readSetting 19 = .ok (.dup, 1) := by decide +kernel
theorem dX4_readSetting_20 : decode cX4_readSetting 20 = .ok (.getfield 36, 3) := by decide +kernel
theorem dX4_readSetting_23 : decode cX4_readSetting 23 = .ok (.iconst 1, 1) := by decide +kernel
theorem dX4_readSetting_24 : decode cX4_readSetting 24 = .ok (.iadd, 1) := by decide +kernel
theorem dX4_readSetting_25 : decode cX4_readSetting 25 = .ok (.putfield 36, 3) := by decide +kernel
theorem dX4_readSetting_28 : decode cX4_readSetting 28 = .ok (.aload_n 0, 1) := by decide +kernel
theorem dX4_readSetting_29 : decode cX4_readSetting 29 = .ok (.getfield 21, 3) := by decide +kernel
theorem dX4_readSetting_32 : decode cX4_readSetting 32 = .ok (.getfield 129, 3) := by decide +kernel
theorem dX4_readSetting_35 : decode cX4_readSetting 35 = .ok (.iload_n 1, 1) := by decide +kernel
theorem dX4_readSetting_36 : decode cX4_readSetting 36 = .ok (.iconst 1, 1) := by decide +kernel
theorem dX4_readSetting_37 : decode cX4_readSetting 37 = .ok (.bastore, 1) := by decide +kernel
theorem dX4_readSetting_38 : decode cX4_readSetting 38 = .ok (.aload_n 0, 1) := by decide +kernel
theorem dX4_readSetting_39 : decode cX4_readSetting 39 = .ok (.aload_n 0, 1) := by decide +kernel
theorem dX4_readSetting_40 : decode cX4_readSetting 40 = .ok (.getfield 21, 3) := by decide +kernel
theorem dX4_readSetting_43 : decode cX4_readSetting 43 = .ok (.getfield 133, 3) := by decide +kernel
theorem dX4_readSetting_46 : decode cX4_readSetting 46 = .ok (.iload_n 1, 1) := by decide +kernel
theorem dX4_readSetting_47 : decode cX4_readSetting 47 = .ok (.getstatic 136, 3) := by decide +kernel
theorem dX4_readSetting_50 : decode cX4_readSetting 50 = .ok (.iload_n 1, 1) := by decide +kernel
theorem dX4_readSetting_51 : decode cX4_readSetting 51 = .ok (.iaload, 1) := by decide +kernel
theorem dX4_readSetting_52 : decode cX4_readSetting 52 = .ok (.getstatic 139, 3) := by decide +kernel
theorem dX4_readSetting_55 : decode cX4_readSetting 55 = .ok (.iload_n 1, 1) := by decide +kernel
theorem dX4_readSetting_56 : decode cX4_readSetting 56 = .ok (.iaload, 1) := by decide +kernel
theorem dX4_readSetting_57 : decode cX4_readSetting 57 = .ok (.invokevirtual 103, 3) := by decide +kernel
theorem dX4_readSetting_60 : decode cX4_readSetting 60 = .ok (.ireturn, 1) := by decide +kernel
theorem dX4_readNewName_0 : decode cX4_readNewName 0 = .ok (.aload_n 0, 1) := by decide +kernel
theorem dX4_readNewName_1 : decode cX4_readNewName 1 = .ok (.invokevirtual 52, 3) := by decide +kernel
theorem dX4_readNewName_4 : decode cX4_readNewName 4 = .ok (.iconst 3, 1) := by decide +kernel
theorem dX4_readNewName_5 : decode cX4_readNewName 5 = .ok (.if_icmp .eq 9, 3) := by decide +kernel
theorem dX4_readNewName_8 : decode cX4_readNewName 8 = .ok (.aload_n 0, 1) := by decide +kernel
theorem dX4_readNewName_9 : decode cX4_readNewName 9 = .ok (.iconst 1, 1) := by decide +kernel
theorem dX4_readNewName_10 : decode cX4_readNewName 10 = .ok (.invokevirtual 72, 3) := by decide +kernel
theorem dX4_readNewName_13 : decode cX4_readNewName 13 = .ok (.ireturn, 1) := by decide +kernel
theorem dX4_readNewName_14 : decode cX4_readNewName 14 = .ok (.aload_n 0, 1) := by decide +kernel
theorem dX4_readNewName_15 : decode cX4_readNewName 15 = .ok (.invokevirtual 113, 3) := by decide +kernel
theorem dX4_readNewName_18 : decode cX4_readNewName 18 = .ok (.aload_n 1, 1) := by decide +kernel
theorem dX4_readNewName_19 : decode cX4_readNewName 19 = .ok (.iload_n 2, 1) := by decide +kernel
theorem dX4_readNewName_20 : decode cX4_readNewName 20 = .ok (.invokestatic 115, 3) := by decide +kernel
theorem dX4_readNewName_23 : decode cX4_readNewName 23 = .ok (.ifCond .lt 9, 3) := by decide +kernel
theorem dX4_readNewName_26 : decode cX4_readNewName 26 = .ok (.aload_n 0, 1) := by decide +kernel
theorem dX4_readNewName_27 : decode cX4_readNewName 27 = .ok (.iconst 3, 1) := by decide +kernel
theorem dX4_readNewName_28 : decode cX4_readNewName 28 = .ok (.invokevirtual 72, 3) := by decide +kernel
theorem dX4_readNewName_31 : decode cX4_readNewName 31 = .ok (.ireturn, 1) := by decide +kernel
theorem dX4_readNewName_32 : decode cX4_readNewName 32 = .ok (.aload_n 1, 1) := by decide +kernel
theorem dX4_readNewName_33 : decode cX4_readNewName 33 = .ok (.iload_n 2, 1) := by decide +kernel
theorem dX4_readNewName_34 : decode cX4_readNewName 34 = .ok (.aload_n 0, 1) := by decide +kernel
theorem dX4_readNewName_35 : decode cX4_readNewName 35 = .ok (.invokevirtual 113, 3) := by decide +kernel
theorem dX4_readNewName_38 : decode cX4_readNewName 38 = .ok (.iastore, 1) := by decide +kernel
theorem dX4_readNewName_39 : decode cX4_readNewName 39 = .ok (.aload_n 0, 1) := by decide +kernel
theorem dX4_readNewName_40 : decode cX4_readNewName 40 = .ok (.dup, 1) := by decide +kernel
theorem dX4_readNewName_41 : decode cX4_readNewName 41 = .ok (.getfield 36, 3) := by decide +kernel
theorem dX4_readNewName_44 : decode cX4_readNewName 44 = .ok (.iconst 1, 1) := by decide +kernel
theorem dX4_readNewName_45 : decode cX4_readNewName 45 = .ok (.iadd, 1) := by decide +kernel
theorem dX4_readNewName_46 : decode cX4_readNewName 46 = .ok (.putfield 36, 3) := by decide +kernel
theorem dX4_readNewName_49 : decode cX4_readNewName 49 = .ok (.iconst 1, 1) := by decide +kernel
theorem dX4_readNewName_50 : decode cX4_readNewName 50 = .ok (.ireturn, 1) := by decide +kernel
theorem dX4_readNumber_0 : decode cX4_readNumber 0 = .ok (.aload_n 0, 1) := by decide +kernel
theorem dX4_readNumber_1 : decode cX4_readNumber 1 = .ok (.invokevirtual 52, 3) := by decide +kernel
theorem dX4_readNumber_4 : decode cX4_readNumber 4 = .ok (.iconst 2, 1) := by decide +kernel
theorem dX4_readNumber_5 : decode cX4_readNumber 5 = .ok (.if_icmp .eq 9, 3) := by decide +kernel
theorem dX4_readNumber_8 : decode cX4_readNumber 8 = .ok (.aload_n 0, 1) := by decide +kernel
theorem dX4_readNumber_9 : decode cX4_readNumber 9 = .ok (.iconst 1, 1) := by decide +kernel
theorem dX4_readNumber_10 : decode cX4_readNumber 10 = .ok (.invokevirtual 72, 3) := by decide +kernel
theorem dX4_readNumber_13 : decode cX4_readNumber 13 = .ok (.ireturn, 1) := by decide +kernel
theorem dX4_readNumber_14 : decode cX4_readNumber 14 = .ok (.aload_n 0, 1) := by decide +kernel
theorem dX4_readNumber_15 : decode cX4_readNumber 15 = .ok (.invokevirtual 113, 3) := by decide +kernel
theorem dX4_readNumber_18 : decode cX4_readNumber 18 = .ok (.iload_n 3, 1) := by decide +kernel
theorem dX4_readNumber_19 : decode cX4_readNumber 19 = .ok (.if_icmp .lt 12, 3) := by decide +kernel
theorem dX4_readNumber_22 : decode cX4_readNumber 22 = .ok (.aload_n 0, 1) := by decide +kernel
theorem dX4_readNumber_23 : decode cX4_readNumber 23 = .ok (.invokevirtual 113, 3) := by decide +kernel
theorem dX4_readNumber_26 : decode cX4_readNumber 26 = .ok (.iload 4, 2) := by decide +kernel
theorem dX4_readNumber_28 : decode cX4_readNumber 28 = .ok (.if_icmp .le 9, 3) := by decide +kernel
theorem dX4_readNumber_31 : decode cX4_readNumber 31 = .ok (.aload_n 0, 1) := by decide +kernel
theorem dX4_readNumber_32 : decode cX4_readNumber 32 = .ok (.iconst 2, 1) := by decide +kernel
theorem dX4_readNumber_33 : decode cX4_readNumber 33 = .ok (.invokevirtual 72, 3) := by decide +kernel
theorem dX4_readNumber_36 : decode cX4_readNumber 36 = .ok (.ireturn, 1) := by decide +kernel
theorem dX4_readNumber_37 : decode cX4_readNumber 37 = .ok (.aload_n 1, 1) := by decide +kernel
theorem dX4_readNumber_38 : decode cX4_readNumber 38 = .ok (.iload_n 2, 1) := by decide +kernel
theorem dX4_readNumber_39 : decode cX4_readNumber 39 = .ok (.aload_n 0, 1) := by decide +kernel
theorem dX4_readNumber_40 : decode cX4_readNumber 40 = .ok (.invokevirtual 113, 3) := by decide +kernel
theorem dX4_readNumber_43 : decode cX4_readNumber 43 = .ok (.iastore, 1) := by decide +kernel
theorem dX4_readNumber_44 : decode cX4_readNumber 44 = .ok (.aload_n 0, 1) := by decide +kernel
theorem dX4_readNumber_45 : decode cX4_readNumber 45 = .ok (.dup, 1) := by decide +kernel
theorem dX4_readNumber_46 : decode cX4_readNumber 46 = .ok (.getfield 36, 3) := by decide +kernel
theorem dX4_readNumber_49 : decode cX4_readNumber 49 = .ok (.iconst 1, 1) := by decide +kernel
theorem dX4_readNumber_50 : decode cX4_readNumber 50 = .ok (.iadd, 1) := by decide +kernel
theorem dX4_readNumber_51 : decode cX4_readNumber 51 = .ok (.putfield 36, 3) := by decide +kernel
theorem dX4_readNumber_54 : decode cX4_readNumber 54 = .ok (.iconst 1, 1) := by decide +kernel
theorem dX4_readNumber_55 : decode cX4_readNumber 55 = .ok (.ireturn, 1) := by decide +kernel
theorem dX4_readLaw_0 : decode cX4_readLaw 0 = .ok (.aload_n 0, 1) := by decide +kernel
theorem dX4_readLaw_1 : decode cX4_readLaw 1 = .ok (.dup, 1) := by decide +kernel
theorem dX4_readLaw_2 : decode cX4_readLaw 2 = .ok (.getfield 36, 3) := by decide +kernel
theorem dX4_readLaw_5 : decode cX4_readLaw 5 = .ok (.iconst 1, 1) := by decide +kernel
theorem dX4_readLaw_6 : decode cX4_readLaw 6 = .ok (.iadd, 1) := by decide +kernel
theorem dX4_readLaw_7 : decode cX4_readLaw 7 = .ok (.putfield 36, 3) := by decide +kernel
theorem dX4_readLaw_10 : decode cX4_readLaw 10 = .ok (.aload_n 0, 1) := by decide +kernel
theorem dX4_readLaw_11 : decode cX4_readLaw 11 = .ok (.invokevirtual 52, 3) := by decide +kernel
theorem dX4_readLaw_14 : decode cX4_readLaw 14 = .ok (.bipush 36, 2) := by decide +kernel
theorem dX4_readLaw_16 : decode cX4_readLaw 16 = .ok (.isub, 1) := by decide +kernel
theorem dX4_readLaw_17 : decode cX4_readLaw 17 = .ok (.istore_n 1, 1) := by decide +kernel
theorem dX4_readLaw_18 : decode cX4_readLaw 18 = .ok (.iload_n 1, 1) := by decide +kernel
theorem dX4_readLaw_19 : decode cX4_readLaw 19 = .ok (.ifCond .lt 8, 3) := by decide +kernel
theorem dX4_readLaw_22 : decode cX4_readLaw 22 = .ok (.iload_n 1, 1) := by decide +kernel
theorem dX4_readLaw_23 : decode cX4_readLaw 23 = .ok (.iconst 3, 1) := by decide +kernel
theorem dX4_readLaw_24 : decode cX4_readLaw 24 = .ok (.if_icmp .lt 9, 3) := by decide +kernel
theorem dX4_readLaw_27 : decode cX4_readLaw 27 = .ok (.aload_n 0, 1) := by decide +kernel
theorem dX4_readLaw_28 : decode cX4_readLaw 28 = .ok (.iconst 1, 1) := by decide +kernel
theorem dX4_readLaw_29 : decode cX4_readLaw 29 = .ok (.invokevirtual 72, 3) := by decide +kernel
theorem dX4_readLaw_32 : decode cX4_readLaw 32 = .ok (.ireturn, 1) := by decide +kernel
theorem dX4_readLaw_33 : decode cX4_readLaw 33 = .ok (.aload_n 0, 1) := by decide +kernel
theorem dX4_readLaw_34 : decode cX4_readLaw 34 = .ok (.getfield 21, 3) := by decide +kernel
theorem dX4_readLaw_37 : decode cX4_readLaw 37 = .ok (.getfield 142, 3) := by decide +kernel
theorem dX4_readLaw_40 : decode cX4_readLaw 40 = .ok (.iload_n 1, 1) := by decide +kernel
theorem dX4_readLaw_41 : decode cX4_readLaw 41 = .ok (.aaload, 1) := by decide +kernel
theorem dX4_readLaw_42 : decode cX4_readLaw 42 = .ok (.astore_n 2, 1) := by decide +kernel
theorem dX4_readLaw_43 : decode cX4_readLaw 43 = .ok (.aload_n 2, 1) := by decide +kernel
theorem dX4_readLaw_44 : decode cX4_readLaw 44 = .ok (.getfield 146, 3) := by decide +kernel
theorem dX4_readLaw_47 : decode cX4_readLaw 47 = .ok (.ifCond .eq 9, 3) := by decide +kernel
theorem dX4_readLaw_50 : decode cX4_readLaw 50 = .ok (.aload_n 0, 1) := by decide +kernel
theorem dX4_readLaw_51 : decode cX4_readLaw 51 = .ok (.iconst 3, 1) := by decide +kernel
theorem dX4_readLaw_52 : decode cX4_readLaw 52 = .ok (.invokevirtual 72, 3) := by decide +kernel
theorem dX4_readLaw_55 : decode cX4_readLaw 55 = .ok (.ireturn, 1) := by decide +kernel
theorem dX4_readLaw_56 : decode cX4_readLaw 56 = .ok (.aload_n 0, 1) := by decide +kernel
theorem dX4_readLaw_57 : decode cX4_readLaw 57 = .ok (.dup, 1) := by decide +kernel
theorem dX4_readLaw_58 : decode cX4_readLaw 58 = .ok (.getfield 36, 3) := by decide +kernel
theorem dX4_readLaw_61 : decode cX4_readLaw 61 = .ok (.iconst 1, 1) := by decide +kernel
theorem dX4_readLaw_62 : decode cX4_readLaw 62 = .ok (.iadd, 1) := by decide +kernel
theorem dX4_readLaw_63 : decode cX4_readLaw 63 = .ok (.putfield 36, 3) := by decide +kernel
theorem dX4_readLaw_66 : decode cX4_readLaw 66 = .ok (.aload_n 2, 1) := by decide +kernel
theorem dX4_readLaw_67 : decode cX4_readLaw 67 = .ok (.iconst 1, 1) := by decide +kernel
theorem dX4_readLaw_68 : decode cX4_readLaw 68 = .ok (.putfield 146, 3) := by decide +kernel
theorem dX4_readLaw_71 : decode cX4_readLaw 71 = .ok (.aload_n 0, 1) := by decide +kernel
theorem dX4_readLaw_72 : decode cX4_readLaw 72 = .ok (.iconst 0, 1) := by decide +kernel
theorem dX4_readLaw_73 : decode cX4_readLaw 73 = .ok (.putfield 39, 3) := by decide +kernel
theorem dX4_readLaw_76 : decode cX4_readLaw 76 = .ok (.aload_n 0, 1) := by decide +kernel
theorem dX4_readLaw_77 : decode cX4_readLaw 77 = .ok (.iconst 0, 1) := by decide +kernel
theorem dX4_readLaw_78 : decode cX4_readLaw 78 = .ok (.putfield 42, 3) := by decide +kernel
theorem dX4_readLaw_81 : decode cX4_readLaw 81 = .ok (.aload_n 0, 1) := by decide +kernel
theorem dX4_readLaw_82 : decode cX4_readLaw 82 = .ok (.iconst 1, 1) := by decide +kernel
theorem dX4_readLaw_83 : decode cX4_readLaw 83 = .ok (.putfield 45, 3) := by decide +kernel
theorem dX4_readLaw_86 : decode cX4_readLaw 86 = .ok (.iconst 0, 1) := by decide +kernel
theorem dX4_readLaw_87 : decode cX4_readLaw 87 = .ok (.istore_n 3, 1) := by decide +kernel
theorem dX4_readLaw_88 : decode cX4_readLaw 88 = .ok (.iload_n 3, 1) := by decide +kernel
theorem dX4_readLaw_89 : decode cX4_readLaw 89 = .ok (.sipush 700, 3) := by decide +kernel
theorem dX4_readLaw_92 : decode cX4_readLaw 92 = .ok (.if_icmp .gt 77, 3) := by decide +kernel
theorem dX4_readLaw_95 : decode cX4_readLaw 95 = .ok (.aload_n 0, 1) := by decide +kernel
theorem dX4_readLaw_96 : decode cX4_readLaw 96 = .ok (.getfield 45, 3) := by decide +kernel
theorem dX4_readLaw_99 : decode cX4_readLaw 99 = .ok (.ifCond .ne 26, 3) := by decide +kernel
theorem dX4_readLaw_102 : decode cX4_readLaw 102 = .ok (.aload_n 0, 1) := by decide +kernel
theorem dX4_readLaw_103 : decode cX4_readLaw 103 = .ok (.getfield 42, 3) := by decide +kernel
theorem dX4_readLaw_106 : decode cX4_readLaw 106 = .ok (.ifCond .ne 19, 3) := by decide +kernel
theorem dX4_readLaw_109 : decode cX4_readLaw 109 = .ok (.aload_n 0, 1) := by decide +kernel
theorem dX4_readLaw_110 : decode cX4_readLaw 110 = .ok (.invokevirtual 52, 3) := by decide +kernel
theorem dX4_readLaw_113 : decode cX4_readLaw 113 = .ok (.iconst 4, 1) := by decide +kernel
theorem dX4_readLaw_114 : decode cX4_readLaw 114 = .ok (.if_icmp .ne 11, 3) := by decide +kernel
theorem dX4_readLaw_117 : decode cX4_readLaw 117 = .ok (.aload_n 0, 1) := by decide +kernel
theorem dX4_readLaw_118 : decode cX4_readLaw 118 = .ok (.aload_n 2, 1) := by decide +kernel
theorem dX4_readLaw_119 : decode cX4_readLaw 119 = .ok (.iconst 1, 1) := by decide +kernel
theorem dX4_readLaw_120 : decode cX4_readLaw 120 = .ok (.invokevirtual 151, 3) := by decide +kernel
theorem dX4_readLaw_123 : decode cX4_readLaw 123 = .ok (.iconst 1, 1) := by decide +kernel
theorem dX4_readLaw_124 : decode cX4_readLaw 124 = .ok (.ireturn, 1) := by decide +kernel
theorem dX4_readLaw_125 : decode cX4_readLaw 125 = .ok (.aload_n 0, 1) := by decide +kernel
theorem dX4_readLaw_126 : decode cX4_readLaw 126 = .ok (.getfield 45, 3) := by decide +kernel
theorem dX4_readLaw_129 : decode cX4_readLaw 129 = .ok (.ifCond .eq 14, 3) := by decide +kernel
theorem dX4_readLaw_132 : decode cX4_readLaw 132 = .ok (.aload_n 0, 1) := by decide +kernel
theorem dX4_readLaw_133 : decode cX4_readLaw 133 = .ok (.aload_n 2, 1) := by decide +kernel
theorem dX4_readLaw_134 : decode cX4_readLaw 134 = .ok (.invokevirtual 155, 3) := by decide +kernel
theorem dX4_readLaw_137 : decode cX4_readLaw 137 = .ok (.ifCond .eq 14, 3) := by decide +kernel
theorem dX4_readLaw_140 : decode cX4_readLaw 140 = .ok (.goto 13, 3) := by decide +kernel
theorem dX4_readLaw_143 : decode cX4_readLaw 143 = .ok (.aload_n 0, 1) := by decide +kernel
theorem dX4_readLaw_144 : decode cX4_readLaw 144 = .ok (.aload_n 2, 1) := by decide +kernel
theorem dX4_readLaw_145 : decode cX4_readLaw 145 = .ok (.invokevirtual 159, 3) := by decide +kernel
theorem dX4_readLaw_148 : decode cX4_readLaw 148 = .ok (.ifCond .ne 5, 3) := by decide +kernel
theorem dX4_readLaw_151 : decode cX4_readLaw 151 = .ok (.iconst 0, 1) := by decide +kernel
theorem dX4_readLaw_152 : decode cX4_readLaw 152 = .ok (.ireturn, 1) := by decide +kernel
theorem dX4_readLaw_153 : decode cX4_readLaw 153 = .ok (.aload_n 0, 1) := by decide +kernel
theorem dX4_readLaw_154 : decode cX4_readLaw 154 = .ok (.dup, 1) := by decide +kernel
theorem dX4_readLaw_155 : decode cX4_readLaw 155 = .ok (.getfield 36, 3) := by decide +kernel
theorem dX4_readLaw_158 : decode cX4_readLaw 158 = .ok (.iconst 1, 1) := by decide +kernel
theorem dX4_readLaw_159 : decode cX4_readLaw 159 = .ok (.iadd, 1) := by decide +kernel
theorem dX4_readLaw_160 : decode cX4_readLaw 160 = .ok (.putfield 36, 3) := by decide +kernel
theorem dX4_readLaw_163 : decode cX4_readLaw 163 = .ok (.iinc 3 1, 3) := by decide +kernel
theorem dX4_readLaw_166 : decode cX4_readLaw 166 = .ok (.goto (-78), 3) := by decide +kernel
theorem dX4_readLaw_169 : decode cX4_readLaw 169 = .ok (.aload_n 0, 1) := by decide +kernel
theorem dX4_readLaw_170 : decode cX4_readLaw 170 = .ok (.iconst 1, 1) := by decide +kernel
theorem dX4_readLaw_171 : decode cX4_readLaw 171 = .ok (.invokevirtual 72, 3) := by decide +kernel
theorem dX4_readLaw_174 : decode cX4_readLaw 174 = .ok (.ireturn, 1) := by decide +kernel
theorem dX4_readPart_0 : decode cX4_readPart 0 = .ok (.aload_n 0, 1) := by decide +kernel
theorem dX4_readPart_1 : decode cX4_readPart 1 = .ok (.invokevirtual 52, 3) := by decide +kernel
theorem dX4_readPart_4 : decode cX4_readPart 4 = .ok (.istore_n 2, 1) := by decide +kernel
theorem dX4_readPart_5 : decode cX4_readPart 5 = .ok (.iload_n 2, 1) := by decide +kernel
theorem dX4_readPart_6 : decode cX4_readPart 6 = .ok (.iconst 5, 1) := by decide +kernel
theorem dX4_readPart_7 : decode cX4_readPart 7 = .ok (.if_icmp .ne 34, 3) := by decide +kernel
theorem dX4_readPart_10 : decode cX4_readPart 10 = .ok (.aload_n 0, 1) := by decide +kernel
theorem dX4_readPart_11 : decode cX4_readPart 11 = .ok (.getfield 42, 3) := by decide +kernel
theorem dX4_readPart_14 : decode cX4_readPart 14 = .ok (.bipush 8, 2) := by decide +kernel
theorem dX4_readPart_16 : decode cX4_readPart 16 = .ok (.if_icmp .lt 9, 3) := by decide +kernel
theorem dX4_readPart_19 : decode cX4_readPart 19 = .ok (.aload_n 0, 1) := by decide +kernel
theorem dX4_readPart_20 : decode cX4_readPart 20 = .ok (.iconst 2, 1) := by decide +kernel
theorem dX4_readPart_21 : decode cX4_readPart 21 = .ok (.invokevirtual 72, 3) := by decide +kernel
theorem dX4_readPart_24 : decode cX4_readPart 24 = .ok (.ireturn, 1) := by decide +kernel
theorem dX4_readPart_25 : decode cX4_readPart 25 = .ok (.aload_n 0, 1) := by decide +kernel
theorem dX4_readPart_26 : decode cX4_readPart 26 = .ok (.dup, 1) := by decide +kernel
theorem dX4_readPart_27 : decode cX4_readPart 27 = .ok (.getfield 42, 3) := by decide +kernel
theorem dX4_readPart_30 : decode cX4_readPart 30 = .ok (.iconst 1, 1) := by decide +kernel
theorem dX4_readPart_31 : decode cX4_readPart 31 = .ok (.iadd, 1) := by decide +kernel
theorem dX4_readPart_32 : decode cX4_readPart 32 = .ok (.putfield 42, 3) := by decide +kernel
theorem dX4_readPart_35 : decode cX4_readPart 35 = .ok (.aload_n 0, 1) := by decide +kernel
theorem dX4_readPart_36 : decode cX4_readPart 36 = .ok (.iconst 5, 1) := by decide +kernel
theorem dX4_readPart_37 : decode cX4_readPart 37 = .ok (.invokevirtual 162, 3) := by decide +kernel
theorem dX4_readPart_40 : decode cX4_readPart 40 = .ok (.ireturn, 1) := by decide +kernel
theorem dX4_readPart_41 : decode cX4_readPart 41 = .ok (.iload_n 2, 1) := by decide +kernel
theorem dX4_readPart_42 : decode cX4_readPart 42 = .ok (.bipush 19, 2) := by decide +kernel
theorem dX4_readPart_44 : decode cX4_readPart 44 = .ok (.if_icmp .ne 41, 3) := by decide +kernel
theorem dX4_readPart_47 : decode cX4_readPart 47 = .ok (.aload_n 0, 1) := by decide +kernel
theorem dX4_readPart_48 : decode cX4_readPart 48 = .ok (.invokevirtual 165, 3) := by decide +kernel
theorem dX4_readPart_51 : decode cX4_readPart 51 = .ok (.iconst 3, 1) := by decide +kernel
theorem dX4_readPart_52 : decode cX4_readPart 52 = .ok (.if_icmp .le 11, 3) := by decide +kernel
theorem dX4_readPart_55 : decode cX4_readPart 55 = .ok (.aload_n 0, 1) := by decide +kernel
theorem dX4_readPart_56 : decode cX4_readPart 56 = .ok (.iconst 1, 1) := by decide +kernel
theorem dX4_readPart_57 : decode cX4_readPart 57 = .ok (.invokevirtual 72, 3) := by decide +kernel
theorem dX4_readPart_60 : decode cX4_readPart 60 = .ok (.goto 24, 3) := by decide +kernel
theorem dX4_readPart_63 : decode cX4_readPart 63 = .ok (.aload_n 0, 1) := by decide +kernel
theorem dX4_readPart_64 : decode cX4_readPart 64 = .ok (.invokevirtual 168, 3) := by decide +kernel
theorem dX4_readPart_67 : decode cX4_readPart 67 = .ok (.ifCond .eq 16, 3) := by decide +kernel
theorem dX4_readPart_70 : decode cX4_readPart 70 = .ok (.aload_n 0, 1) := by decide +kernel
theorem dX4_readPart_71 : decode cX4_readPart 71 = .ok (.bipush 19, 2) := by decide +kernel
theorem dX4_readPart_73 : decode cX4_readPart 73 = .ok (.invokevirtual 162, 3) := by decide +kernel
theorem dX4_readPart_76 : decode cX4_readPart 76 = .ok (.ifCond .eq 7, 3) := by decide +kernel
theorem dX4_readPart_79 : decode cX4_readPart 79 = .ok (.iconst 1, 1) := by decide +kernel
theorem dX4_readPart_80 : decode cX4_readPart 80 = .ok (.goto 4, 3) := by decide +kernel
theorem dX4_readPart_83 : decode cX4_readPart 83 = .ok (.iconst 0, 1) := by decide +kernel
theorem dX4_readPart_84 : decode cX4_readPart 84 = .ok (.ireturn, 1) := by decide +kernel
theorem dX4_readPart_85 : decode cX4_readPart 85 = .ok (.iload_n 2, 1) := by decide +kernel
theorem dX4_readPart_86 : decode cX4_readPart 86 = .ok (.iconst 2, 1) := by decide +kernel
theorem dX4_readPart_87 : decode cX4_readPart 87 = .ok (.if_icmp .ne 53, 3) := by decide +kernel
theorem dX4_readPart_90 : decode cX4_readPart 90 = .ok (.aload_n 0, 1) := by decide +kernel
theorem dX4_readPart_91 : decode cX4_readPart 91 = .ok (.iconst 0, 1) := by decide +kernel
theorem dX4_readPart_92 : decode cX4_readPart 92 = .ok (.putfield 45, 3) := by decide +kernel
theorem dX4_readPart_95 : decode cX4_readPart 95 = .ok (.aload_n 0, 1) := by decide +kernel
theorem dX4_readPart_96 : decode cX4_readPart 96 = .ok (.invokevirtual 113, 3) := by decide +kernel
theorem dX4_readPart_99 : decode cX4_readPart 99 = .ok (.sipush 9999, 3) := by decide +kernel
theorem dX4_readPart_102 : decode cX4_readPart 102 = .ok (.if_icmp .le 11, 3) := by decide +kernel
theorem dX4_readPart_105 : decode cX4_readPart 105 = .ok (.aload_n 0, 1) := by decide +kernel
theorem dX4_readPart_106 : decode cX4_readPart 106 = .ok (.iconst 2, 1) := by decide +kernel
theorem dX4_readPart_107 : decode cX4_readPart 107 = .ok (.invokevirtual 72, 3) := by decide +kernel
theorem dX4_readPart_110 : decode cX4_readPart 110 = .ok (.goto 29, 3) := by decide +kernel
theorem dX4_readPart_113 : decode cX4_readPart 113 = .ok (.aload_n 0, 1) := by decide +kernel
theorem dX4_readPart_114 : decode cX4_readPart 114 = .ok (.invokevirtual 168, 3) := by decide +kernel
theorem dX4_readPart_117 : decode cX4_readPart 117 = .ok (.ifCond .eq 21, 3) := by decide +kernel
theorem dX4_readPart_120 : decode cX4_readPart 120 = .ok (.aload_n 1, 1) := by decide +kernel
theorem dX4_readPart_121 : decode cX4_readPart 121 = .ok (.bipush 100, 2) := by decide +kernel
theorem dX4_readPart_123 : decode cX4_readPart 123 = .ok (.aload_n 0, 1) := by decide +kernel
theorem dX4_readPart_124 : decode cX4_readPart 124 = .ok (.invokevirtual 113, 3) := by decide +kernel
theorem dX4_readPart_127 : decode cX4_readPart 127 = .ok (.iadd, 1) := by decide +kernel
theorem dX4_readPart_128 : decode cX4_readPart 128 = .ok (.invokevirtual 171, 3) := by decide +kernel
theorem dX4_readPart_131 : decode cX4_readPart 131 = .ok (.ifCond .eq 7, 3) := by decide +kernel
theorem dX4_readPart_134 : decode cX4_readPart 134 = .ok (.iconst 1, 1) := by decide +kernel
theorem dX4_readPart_135 : decode cX4_readPart 135 = .ok (.goto 4, 3) := by decide +kernel
theorem dX4_readPart_138 : decode cX4_readPart 138 = .ok (.iconst 0, 1) := by decide +kernel
theorem dX4_readPart_139 : decode cX4_readPart 139 = .ok (.ireturn, 1) := by decide +kernel
theorem dX4_readPart_140 : decode cX4_readPart 140 = .ok (.iload_n 2, 1) := by decide +kernel
theorem dX4_readPart_141 : decode cX4_readPart 141 = .ok (.bipush 20, 2) := by decide +kernel
theorem dX4_readPart_143 : decode cX4_readPart 143 = .ok (.if_icmp .lt 9, 3) := by decide +kernel
theorem dX4_readPart_146 : decode cX4_readPart 146 = .ok (.iload_n 2, 1) := by decide +kernel
theorem dX4_readPart_147 : decode cX4_readPart 147 = .ok (.bipush 26, 2) := by decide +kernel
theorem dX4_readPart_149 : decode cX4_readPart 149 = .ok (.if_icmp .le 9, 3) := by decide +kernel
theorem dX4_readPart_152 : decode cX4_readPart 152 = .ok (.aload_n 0, 1) := by decide +kernel
theorem dX4_readPart_153 : decode cX4_readPart 153 = .ok (.iconst 1, 1) := by decide +kernel
theorem dX4_readPart_154 : decode cX4_readPart 154 = .ok (.invokevirtual 72, 3) := by decide +kernel
theorem dX4_readPart_157 : decode cX4_readPart 157 = .ok (.ireturn, 1) := by decide +kernel
theorem dX4_readPart_158 : decode cX4_readPart 158 = .ok (.aload_n 0, 1) := by decide +kernel
theorem dX4_readPart_159 : decode cX4_readPart 159 = .ok (.iconst 0, 1) := by decide +kernel
theorem dX4_readPart_160 : decode cX4_readPart 160 = .ok (.putfield 45, 3) := by decide +kernel
theorem dX4_readPart_163 : decode cX4_readPart 163 = .ok (.aload_n 0, 1) := by decide +kernel
theorem dX4_readPart_164 : decode cX4_readPart 164 = .ok (.invokevirtual 168, 3) := by decide +kernel
theorem dX4_readPart_167 : decode cX4_readPart 167 = .ok (.ifCond .eq 15, 3) := by decide +kernel
theorem dX4_readPart_170 : decode cX4_readPart 170 = .ok (.aload_n 1, 1) := by decide +kernel
theorem dX4_readPart_171 : decode cX4_readPart 171 = .ok (.iload_n 2, 1) := by decide +kernel
theorem dX4_readPart_172 : decode cX4_readPart 172 = .ok (.invokevirtual 171, 3) := by decide +kernel
theorem dX4_readPart_175 : decode cX4_readPart 175 = .ok (.ifCond .eq 7, 3) := by decide +kernel
theorem dX4_readPart_178 : decode cX4_readPart 178 = .ok (.iconst 1, 1) := by decide +kernel
theorem dX4_readPart_179 : decode cX4_readPart 179 = .ok (.goto 4, 3) := by decide +kernel
theorem dX4_readPart_182 : decode cX4_readPart 182 = .ok (.iconst 0, 1) := by decide +kernel
theorem dX4_readPart_183 : decode cX4_readPart 183 = .ok (.ireturn, 1) := by decide +kernel
theorem dX4_readBehindPart_0 : decode cX4_readBehindPart 0 = .ok (.aload_n 0, 1) := by decide +kernel
theorem dX4_readBehindPart_1 : decode cX4_readBehindPart 1 = .ok (.invokevirtual 52, 3) := by decide +kernel
theorem dX4_readBehindPart_4 : decode cX4_readBehindPart 4 = .ok (.istore_n 2, 1) := by decide +kernel
theorem dX4_readBehindPart_5 : decode cX4_readBehindPart 5 = .ok (.iload_n 2, 1) := by decide +kernel
theorem dX4_readBehindPart_6 : decode cX4_readBehindPart 6 = .ok (.bipush 6, 2) := by decide +kernel
theorem dX4_readBehindPart_8 : decode cX4_readBehindPart 8 = .ok (.if_icmp .ne 44, 3) := by decide +kernel
theorem dX4_readBehindPart_11 : decode cX4_readBehindPart 11 = .ok (.aload_n 0, 1) := by decide +kernel
theorem dX4_readBehindPart_12 : decode cX4_readBehindPart 12 = .ok (.getfield 42, 3) := by decide +kernel
theorem dX4_readBehindPart_15 : decode cX4_readBehindPart 15 = .ok (.ifCond .ne 9, 3) := by decide +kernel
theorem dX4_readBehindPart_18 : decode cX4_readBehindPart 18 = .ok (.aload_n 0, 1) := by decide +kernel
theorem dX4_readBehindPart_19 : decode cX4_readBehindPart 19 = .ok (.iconst 1, 1) := by decide +kernel
theorem dX4_readBehindPart_20 : decode cX4_readBehindPart 20 = .ok (.invokevirtual 72, 3) := by decide +kernel
theorem dX4_readBehindPart_23 : decode cX4_readBehindPart 23 = .ok (.ireturn, 1) := by decide +kernel
theorem dX4_readBehindPart_24 : decode cX4_readBehindPart 24 = .ok (.aload_n 0, 1) := by decide +kernel
theorem dX4_readBehindPart_25 : decode cX4_readBehindPart 25 = .ok (.aload_n 1, 1) := by decide +kernel
theorem dX4_readBehindPart_26 : decode cX4_readBehindPart 26 = .ok (.iconst 1, 1) := by decide +kernel
theorem dX4_readBehindPart_27 : decode cX4_readBehindPart 27 = .ok (.invokevirtual 151, 3) := by decide +kernel
theorem dX4_readBehindPart_30 : decode cX4_readBehindPart 30 = .ok (.aload_n 0, 1) := by decide +kernel
theorem dX4_readBehindPart_31 : decode cX4_readBehindPart 31 = .ok (.dup, 1) := by decide +kernel
theorem dX4_readBehindPart_32 : decode cX4_readBehindPart 32 = .ok (.getfield 39, 3) := by decide +kernel
theorem dX4_readBehindPart_35 : decode cX4_readBehindPart 35 = .ok (.iconst 1, 1) := by decide +kernel
theorem dX4_readBehindPart_36 : decode cX4_readBehindPart 36 = .ok (.isub, 1) := by decide +kernel
theorem dX4_readBehindPart_37 : decode cX4_readBehindPart 37 = .ok (.putfield 39, 3) := by decide +kernel
theorem dX4_readBehindPart_40 : decode cX4_readBehindPart 40 = .ok (.aload_n 0, 1) := by decide +kernel
theorem dX4_readBehindPart_41 : decode cX4_readBehindPart 41 = .ok (.dup, 1) := by decide +kernel
theorem dX4_readBehindPart_42 : decode cX4_readBehindPart 42 = .ok (.getfield 42, 3) := by decide +kernel
theorem dX4_readBehindPart_45 : decode cX4_readBehindPart 45 = .ok (.iconst 1, 1) := by decide +kernel
theorem dX4_readBehindPart_46 : decode cX4_readBehindPart 46 = .ok (.isub, 1) := by decide +kernel
theorem dX4_readBehindPart_47 : decode cX4_readBehindPart 47 = .ok (.putfield 42, 3) := by decide +kernel
theorem dX4_readBehindPart_50 : decode cX4_readBehindPart 50 = .ok (.iconst 1, 1) := by decide +kernel
theorem dX4_readBehindPart_51 : decode cX4_readBehindPart 51 = .ok (.ireturn, 1) := by decide +kernel
theorem dX4_readBehindPart_52 : decode cX4_readBehindPart 52 = .ok (.iload_n 2, 1) := by decide +kernel
theorem dX4_readBehindPart_53 : decode cX4_readBehindPart 53 = .ok (.invokestatic 174, 3) := by decide +kernel
theorem dX4_readBehindPart_56 : decode cX4_readBehindPart 56 = .ok (.istore_n 3, 1) := by decide +kernel
theorem dX4_readBehindPart_57 : decode cX4_readBehindPart 57 = .ok (.iload_n 3, 1) := by decide +kernel
theorem dX4_readBehindPart_58 : decode cX4_readBehindPart 58 = .ok (.ifCond .eq 9, 3) := by decide +kernel
theorem dX4_readBehindPart_61 : decode cX4_readBehindPart 61 = .ok (.iload_n 2, 1) := by decide +kernel
theorem dX4_readBehindPart_62 : decode cX4_readBehindPart 62 = .ok (.bipush 19, 2) := by decide +kernel
theorem dX4_readBehindPart_64 : decode cX4_readBehindPart 64 = .ok (.if_icmp .ne 9, 3) := by decide +kernel
theorem dX4_readBehindPart_67 : decode cX4_readBehindPart 67 = .ok (.aload_n 0, 1) := by decide +kernel
theorem dX4_readBehindPart_68 : decode cX4_readBehindPart 68 = .ok (.iconst 1, 1) := by decide +kernel
theorem dX4_readBehindPart_69 : decode cX4_readBehindPart 69 = .ok (.invokevirtual 72, 3) := by decide +kernel
theorem dX4_readBehindPart_72 : decode cX4_readBehindPart 72 = .ok (.ireturn, 1) := by decide +kernel
theorem dX4_readBehindPart_73 : decode cX4_readBehindPart 73 = .ok (.iload_n 3, 1) := by decide +kernel
theorem dX4_readBehindPart_74 : decode cX4_readBehindPart 74 = .ok (.iconst 4, 1) := by decide +kernel
theorem dX4_readBehindPart_75 : decode cX4_readBehindPart 75 = .ok (.if_icmp .ne 23, 3) := by decide +kernel
theorem dX4_readBehindPart_78 : decode cX4_readBehindPart 78 = .ok (.aload_n 0, 1) := by decide +kernel
theorem dX4_readBehindPart_79 : decode cX4_readBehindPart 79 = .ok (.aload_n 1, 1) := by decide +kernel
theorem dX4_readBehindPart_80 : decode cX4_readBehindPart 80 = .ok (.iconst 5, 1) := by decide +kernel
theorem dX4_readBehindPart_81 : decode cX4_readBehindPart 81 = .ok (.invokevirtual 151, 3) := by decide +kernel
theorem dX4_readBehindPart_84 : decode cX4_readBehindPart 84 = .ok (.aload_n 0, 1) := by decide +kernel
theorem dX4_readBehindPart_85 : decode cX4_readBehindPart 85 = .ok (.invokevirtual 165, 3) := by decide +kernel
theorem dX4_readBehindPart_88 : decode cX4_readBehindPart 88 = .ok (.iconst 4, 1) := by decide +kernel
theorem dX4_readBehindPart_89 : decode cX4_readBehindPart 89 = .ok (.if_icmp .ne 15, 3) := by decide +kernel
theorem dX4_readBehindPart_92 : decode cX4_readBehindPart 92 = .ok (.aload_n 0, 1) := by decide +kernel
theorem dX4_readBehindPart_93 : decode cX4_readBehindPart 93 = .ok (.iconst 1, 1) := by decide +kernel
theorem dX4_readBehindPart_94 : decode cX4_readBehindPart 94 = .ok (.invokevirtual 72, 3) := by decide +kernel
theorem dX4_readBehindPart_97 : decode cX4_readBehindPart 97 = .ok (.ireturn, 1) := by decide +kernel
theorem dX4_readBehindPart_98 : decode cX4_readBehindPart 98 = .ok (.aload_n 0, 1) := by decide +kernel
theorem dX4_readBehindPart_99 : decode cX4_readBehindPart 99 = .ok (.aload_n 1, 1) := by decide +kernel
theorem dX4_readBehindPart_100 : decode cX4_readBehindPart 100 = .ok (.iload_n 3, 1) := by decide +kernel
theorem dX4_readBehindPart_101 : decode cX4_readBehindPart 101 = .ok (.invokevirtual 151, 3) := by decide +kernel
theorem dX4_readBehindPart_104 : decode cX4_readBehindPart 104 = .ok (.aload_n 0, 1) := by decide +kernel
theorem dX4_readBehindPart_105 : decode cX4_readBehindPart 105 = .ok (.iconst 1, 1) := by decide +kernel
theorem dX4_readBehindPart_106 : decode cX4_readBehindPart 106 = .ok (.putfield 45, 3) := by decide +kernel
theorem dX4_readBehindPart_109 : decode cX4_readBehindPart 109 = .ok (.aload_n 0, 1) := by decide +kernel
theorem dX4_readBehindPart_110 : decode cX4_readBehindPart 110 = .ok (.invokevirtual 168, 3) := by decide +kernel
theorem dX4_readBehindPart_113 : decode cX4_readBehindPart 113 = .ok (.ifCond .eq 15, 3) := by decide +kernel
theorem dX4_readBehindPart_116 : decode cX4_readBehindPart 116 = .ok (.aload_n 0, 1) := by decide +kernel
theorem dX4_readBehindPart_117 : decode cX4_readBehindPart 117 = .ok (.iload_n 2, 1) := by decide +kernel
theorem dX4_readBehindPart_118 : decode cX4_readBehindPart 118 = .ok (.invokevirtual 162, 3) := by decide +kernel
theorem dX4_readBehindPart_121 : decode cX4_readBehindPart 121 = .ok (.ifCond .eq 7, 3) := by decide +kernel
theorem dX4_readBehindPart_124 : decode cX4_readBehindPart 124 = .ok (.iconst 1, 1) := by decide +kernel
theorem dX4_readBehindPart_125 : decode cX4_readBehindPart 125 = .ok (.goto 4, 3) := by decide +kernel
theorem dX4_readBehindPart_128 : decode cX4_readBehindPart 128 = .ok (.iconst 0, 1) := by decide +kernel
theorem dX4_readBehindPart_129 : decode cX4_readBehindPart 129 = .ok (.ireturn, 1) := by decide +kernel
theorem dX4_addKnot_0 : decode cX4_addKnot 0 = .ok (.aload_n 0, 1) := by decide +kernel
theorem dX4_addKnot_1 : decode cX4_addKnot 1 = .ok (.getfield 21, 3) := by decide +kernel
theorem dX4_addKnot_4 : decode cX4_addKnot 4 = .ok (.getfield 178, 3) := by decide +kernel
theorem dX4_addKnot_7 : decode cX4_addKnot 7 = .ok (.bipush 64, 2) := by decide +kernel
theorem dX4_addKnot_9 : decode cX4_addKnot 9 = .ok (.if_icmp .lt 9, 3) := by decide +kernel
theorem dX4_addKnot_12 : decode cX4_addKnot 12 = .ok (.aload_n 0, 1) := by decide +kernel
theorem dX4_addKnot_13 : decode cX4_addKnot 13 = .ok (.iconst 2, 1) := by decide +kernel
theorem dX4_addKnot_14 : decode cX4_addKnot 14 = .ok (.invokevirtual 72, 3) := by decide +kernel
theorem dX4_addKnot_17 : decode cX4_addKnot 17 = .ok (.ireturn, 1) := by decide +kernel
theorem dX4_addKnot_18 : decode cX4_addKnot 18 = .ok (.aload_n 0, 1) := by decide +kernel
theorem dX4_addKnot_19 : decode cX4_addKnot 19 = .ok (.getfield 21, 3) := by decide +kernel
theorem dX4_addKnot_22 : decode cX4_addKnot 22 = .ok (.dup, 1) := by decide +kernel
theorem dX4_addKnot_23 : decode cX4_addKnot 23 = .ok (.getfield 178, 3) := by decide +kernel
theorem dX4_addKnot_26 : decode cX4_addKnot 26 = .ok (.iconst 1, 1) := by decide +kernel
theorem dX4_addKnot_27 : decode cX4_addKnot 27 = .ok (.iadd, 1) := by decide +kernel
theorem dX4_addKnot_28 : decode cX4_addKnot 28 = .ok (.putfield 178, 3) := by decide +kernel
theorem dX4_addKnot_31 : decode cX4_addKnot 31 = .ok (.iconst 1, 1) := by decide +kernel
theorem dX4_addKnot_32 : decode cX4_addKnot 32 = .ok (.ireturn, 1) := by decide +kernel
theorem dX4_letWait_0 : decode cX4_letWait 0 = .ok (.aload_n 0, 1) := by decide +kernel
theorem dX4_letWait_1 : decode cX4_letWait 1 = .ok (.getfield 39, 3) := by decide +kernel
theorem dX4_letWait_4 : decode cX4_letWait 4 = .ok (.aload_n 0, 1) := by decide +kernel
theorem dX4_letWait_5 : decode cX4_letWait 5 = .ok (.getfield 32, 3) := by decide +kernel
theorem dX4_letWait_8 : decode cX4_letWait 8 = .ok (.arraylength, 1) := by decide +kernel
theorem dX4_letWait_9 : decode cX4_letWait 9 = .ok (.if_icmp .lt 9, 3) := by decide +kernel
theorem dX4_letWait_12 : decode cX4_letWait 12 = .ok (.aload_n 0, 1) := by decide +kernel
theorem dX4_letWait_13 : decode cX4_letWait 13 = .ok (.iconst 2, 1) := by decide +kernel
theorem dX4_letWait_14 : decode cX4_letWait 14 = .ok (.invokevirtual 72, 3) := by decide +kernel
theorem dX4_letWait_17 : decode cX4_letWait 17 = .ok (.ireturn, 1) := by decide +kernel
theorem dX4_letWait_18 : decode cX4_letWait 18 = .ok (.aload_n 0, 1) := by decide +kernel
theorem dX4_letWait_19 : decode cX4_letWait 19 = .ok (.getfield 32, 3) := by decide +kernel
theorem dX4_letWait_22 : decode cX4_letWait 22 = .ok (.aload_n 0, 1) := by decide +kernel
theorem dX4_letWait_23 : decode cX4_letWait 23 = .ok (.getfield 39, 3) := by decide +kernel
theorem dX4_letWait_26 : decode cX4_letWait 26 = .ok (.iload_n 1, 1) := by decide +kernel
theorem dX4_letWait_27 : decode cX4_letWait 27 = .ok (.iastore, 1) := by decide +kernel
theorem dX4_letWait_28 : decode cX4_letWait 28 = .ok (.aload_n 0, 1) := by decide +kernel
theorem dX4_letWait_29 : decode cX4_letWait 29 = .ok (.dup, 1) := by decide +kernel
theorem dX4_letWait_30 : decode cX4_letWait 30 = .ok (.getfield 39, 3) := by decide +kernel
theorem dX4_letWait_33 : decode cX4_letWait 33 = .ok (.iconst 1, 1) := by decide +kernel
theorem dX4_letWait_34 : decode cX4_letWait 34 = .ok (.iadd, 1) := by decide +kernel
theorem dX4_letWait_35 : decode cX4_letWait 35 = .ok (.putfield 39, 3) := by decide +kernel
theorem dX4_letWait_38 : decode cX4_letWait 38 = .ok (.iconst 1, 1) := by decide +kernel
theorem dX4_letWait_39 : decode cX4_letWait 39 = .ok (.ireturn, 1) := by decide +kernel
theorem dX4_strengthWaiting_0 : decode cX4_strengthWaiting 0 = .ok (.aload_n 0, 1) := by decide +kernel
theorem dX4_strengthWaiting_1 : decode cX4_strengthWaiting 1 = .ok (.getfield 39, 3) := by decide +kernel
theorem dX4_strengthWaiting_4 : decode cX4_strengthWaiting 4 = .ok (.ifCond .le 20, 3) := by decide +kernel
theorem dX4_strengthWaiting_7 : decode cX4_strengthWaiting 7 = .ok (.aload_n 0, 1) := by decide +kernel
theorem dX4_strengthWaiting_8 : decode cX4_strengthWaiting 8 = .ok (.getfield 32, 3) := by decide +kernel
theorem dX4_strengthWaiting_11 : decode cX4_strengthWaiting 11 = .ok (.aload_n 0, 1) := by decide +kernel
theorem dX4_strengthWaiting_12 : decode cX4_strengthWaiting 12 = .ok (.getfield 39, 3) := by decide +kernel
theorem dX4_strengthWaiting_15 : decode cX4_strengthWaiting 15 = .ok (.iconst 1, 1) := by decide +kernel
theorem dX4_strengthWaiting_16 : decode cX4_strengthWaiting 16 = .ok (.isub, 1) := by decide +kernel
theorem dX4_strengthWaiting_17 : decode cX4_strengthWaiting 17 = .ok (.iaload, 1) := by decide +kernel
theorem dX4_strengthWaiting_18 : decode cX4_strengthWaiting 18 = .ok (.invokestatic 174, 3) := by decide +kernel
theorem dX4_strengthWaiting_21 : decode cX4_strengthWaiting 21 = .ok (.goto 4, 3) := by decide +kernel
theorem dX4_strengthWaiting_24 : decode cX4_strengthWaiting 24 = .ok (.iconst 0, 1) := by decide +kernel
theorem dX4_strengthWaiting_25 : decode cX4_strengthWaiting 25 = .ok (.ireturn, 1) := by decide +kernel
theorem dX4_settleStronger_0 : decode cX4_settleStronger 0 = .ok (.aload_n 0, 1) := by decide +kernel
theorem dX4_settleStronger_1 : decode cX4_settleStronger 1 = .ok (.getfield 39, 3) := by decide +kernel
theorem dX4_settleStronger_4 : decode cX4_settleStronger 4 = .ok (.ifCond .le 48, 3) := by decide +kernel
theorem dX4_settleStronger_7 : decode cX4_settleStronger 7 = .ok (.aload_n 0, 1) := by decide +kernel
theorem dX4_settleStronger_8 : decode cX4_settleStronger 8 = .ok (.getfield 32, 3) := by decide +kernel
theorem dX4_settleStronger_11 : decode cX4_settleStronger 11 = .ok (.aload_n 0, 1) := by decide +kernel
theorem dX4_settleStronger_12 : decode cX4_settleStronger 12 = .ok (.getfield 39, 3) := by decide +kernel
theorem dX4_settleStronger_15 : decode cX4_settleStronger 15 = .ok (.iconst 1, 1) := by decide +kernel
theorem dX4_settleStronger_16 : decode cX4_settleStronger 16 = .ok (.isub, 1) := by decide +kernel
theorem dX4_settleStronger_17 : decode cX4_settleStronger 17 = .ok (.iaload, 1) := by decide +kernel
theorem dX4_settleStronger_18 : decode cX4_settleStronger 18 = .ok (.invokestatic 174, 3) := by decide +kernel
theorem dX4_settleStronger_21 : decode cX4_settleStronger 21 = .ok (.iload_n 2, 1) := by decide +kernel
theorem dX4_settleStronger_22 : decode cX4_settleStronger 22 = .ok (.if_icmp .lt 30, 3) := by decide +kernel
theorem dX4_settleStronger_25 : decode cX4_settleStronger 25 = .ok (.aload_n 0, 1) := by decide +kernel
theorem dX4_settleStronger_26 : decode cX4_settleStronger 26 = .ok (.dup, 1) := by decide +kernel
theorem dX4_settleStronger_27 : decode cX4_settleStronger 27 = .ok (.getfield 39, 3) := by decide +kernel
theorem dX4_settleStronger_30 : decode cX4_settleStronger 30 = .ok (.iconst 1, 1) := by decide +kernel
theorem dX4_settleStronger_31 : decode cX4_settleStronger 31 = .ok (.isub, 1) := by decide +kernel
theorem dX4_settleStronger_32 : decode cX4_settleStronger 32 = .ok (.putfield 39, 3) := by decide +kernel
theorem dX4_settleStronger_35 : decode cX4_settleStronger 35 = .ok (.aload_n 1, 1) := by decide +kernel
theorem dX4_settleStronger_36 : decode cX4_settleStronger 36 = .ok (.aload_n 0, 1) := by decide +kernel
theorem dX4_settleStronger_37 : decode cX4_settleStronger 37 = .ok (.getfield 32, 3) := by decide +kernel
theorem dX4_settleStronger_40 : decode cX4_settleStronger 40 = .ok (.aload_n 0, 1) := by decide +kernel
theorem dX4_settleStronger_41 : decode cX4_settleStronger 41 = .ok (.getfield 39, 3) := by decide +kernel
theorem dX4_settleStronger_44 : decode cX4_settleStronger 44 = .ok (.iaload, 1) := by decide +kernel
theorem dX4_settleStronger_45 : decode cX4_settleStronger 45 = .ok (.invokevirtual 171, 3) := by decide +kernel
theorem dX4_settleStronger_48 : decode cX4_settleStronger 48 = .ok (.pop, 1) := by decide +kernel
theorem dX4_settleStronger_49 : decode cX4_settleStronger 49 = .ok (.goto (-49), 3) := by decide +kernel
theorem dX4_settleStronger_52 : decode cX4_settleStronger 52 = .ok (.return_, 1) := by decide +kernel
theorem dX4_strengthOf_0 : decode cX4_strengthOf 0 = .ok (.iload_n 0, 1) := by decide +kernel
theorem dX4_strengthOf_1 : decode cX4_strengthOf 1 = .ok (.bipush 7, 2) := by decide +kernel
theorem dX4_strengthOf_3 : decode cX4_strengthOf 3 = .ok (.if_icmp .lt 11, 3) := by decide +kernel
theorem dX4_strengthOf_6 : decode cX4_strengthOf 6 = .ok (.iload_n 0, 1) := by decide +kernel
theorem dX4_strengthOf_7 : decode cX4_strengthOf 7 = .ok (.bipush 12, 2) := by decide +kernel
theorem dX4_strengthOf_9 : decode cX4_strengthOf 9 = .ok (.if_icmp .gt 5, 3) := by decide +kernel
theorem dX4_strengthOf_12 : decode cX4_strengthOf 12 = .ok (.iconst 4, 1) := by decide +kernel
theorem dX4_strengthOf_13 : decode cX4_strengthOf 13 = .ok (.ireturn, 1) := by decide +kernel
theorem dX4_strengthOf_14 : decode cX4_strengthOf 14 = .ok (.iload_n 0, 1) := by decide +kernel
theorem dX4_strengthOf_15 : decode cX4_strengthOf 15 = .ok (.tableswitch 52 13 19 #[47, 47, 49, 49, 41, 43, 45], 41) := by decide +kernel
theorem dX4_strengthOf_56 : decode cX4_strengthOf 56 = .ok (.iconst 1, 1) := by decide +kernel
theorem dX4_strengthOf_57 : decode cX4_strengthOf 57 = .ok (.ireturn, 1) := by decide +kernel
theorem dX4_strengthOf_58 : decode cX4_strengthOf 58 = .ok (.iconst 2, 1) := by decide +kernel
theorem dX4_strengthOf_59 : decode cX4_strengthOf 59 = .ok (.ireturn, 1) := by decide +kernel
theorem dX4_strengthOf_60 : decode cX4_strengthOf 60 = .ok (.iconst 3, 1) := by decide +kernel
theorem dX4_strengthOf_61 : decode cX4_strengthOf 61 = .ok (.ireturn, 1) := by decide +kernel
theorem dX4_strengthOf_62 : decode cX4_strengthOf 62 = .ok (.iconst 5, 1) := by decide +kernel
theorem dX4_strengthOf_63 : decode cX4_strengthOf 63 = .ok (.ireturn, 1) := by decide +kernel
theorem dX4_strengthOf_64 : decode cX4_strengthOf 64 = .ok (.bipush 6, 2) := by decide +kernel
theorem dX4_strengthOf_66 : decode cX4_strengthOf 66 = .ok (.ireturn, 1) := by decide +kernel
theorem dX4_strengthOf_67 : decode cX4_strengthOf 67 = .ok (.iconst 0, 1) := by decide +kernel
theorem dX4_strengthOf_68 : decode cX4_strengthOf 68 = .ok (.ireturn, 1) := by decide +kernel
theorem dX5_init_0 : decode cX5_init 0 = .ok (.aload_n 0, 1) := by decide +kernel
theorem dX5_init_1 : decode cX5_init 1 = .ok (.invokespecial 3, 3) := by decide +kernel
theorem dX5_init_4 : decode cX5_init 4 = .ok (.aload_n 0, 1) := by decide +kernel
theorem dX5_init_5 : decode cX5_init 5 = .ok (.sipush 700, 3) := by decide +kernel
theorem dX5_init_8 : decode cX5_init 8 = .ok (.newarray .int, 2) := by decide +kernel
theorem dX5_init_10 : decode cX5_init 10 = .ok (.putfield 9, 3) := by decide +kernel
theorem dX5_init_13 : decode cX5_init 13 = .ok (.aload_n 0, 1) := by decide +kernel
theorem dX5_init_14 : decode cX5_init 14 = .ok (.iconst 0, 1) := by decide +kernel
theorem dX5_init_15 : decode cX5_init 15 = .ok (.putfield 15, 3) := by decide +kernel
theorem dX5_init_18 : decode cX5_init 18 = .ok (.return_, 1) := by decide +kernel
theorem dX5_put_0 : decode cX5_put 0 = .ok (.bipush 24, 2) := by decide +kernel
theorem dX5_put_2 : decode cX5_put 2 = .ok (.istore_n 2, 1) := by decide +kernel
theorem dX5_put_3 : decode cX5_put 3 = .ok (.iload_n 2, 1) := by decide +kernel
theorem dX5_put_4 : decode cX5_put 4 = .ok (.ifCond .lt 45, 3) := by decide +kernel
theorem dX5_put_7 : decode cX5_put 7 = .ok (.aload_n 0, 1) := by decide +kernel
theorem dX5_put_8 : decode cX5_put 8 = .ok (.getfield 15, 3) := by decide +kernel
theorem dX5_put_11 : decode cX5_put 11 = .ok (.sipush 700, 3) := by decide +kernel
theorem dX5_put_14 : decode cX5_put 14 = .ok (.if_icmp .ge 29, 3) := by decide +kernel
theorem dX5_put_17 : decode cX5_put 17 = .ok (.aload_n 0, 1) := by decide +kernel
theorem dX5_put_18 : decode cX5_put 18 = .ok (.getfield 9, 3) := by decide +kernel
theorem dX5_put_21 : decode cX5_put 21 = .ok (.aload_n 0, 1) := by decide +kernel
theorem dX5_put_22 : decode cX5_put 22 = .ok (.getfield 15, 3) := by decide +kernel
theorem dX5_put_25 : decode cX5_put 25 = .ok (.iload_n 1, 1) := by decide +kernel
theorem dX5_put_26 : decode cX5_put 26 = .ok (.iload_n 2, 1) := by decide +kernel
theorem dX5_put_27 : decode cX5_put 27 = .ok (.iushr, 1) := by decide +kernel
theorem dX5_put_28 : decode cX5_put 28 = .ok (.sipush 255, 3) := by decide +kernel
theorem dX5_put_31 : decode cX5_put 31 = .ok (.iand, 1) := by decide +kernel
theorem dX5_put_32 : decode cX5_put 32 = .ok (.iastore, 1) := by decide +kernel
theorem dX5_put_33 : decode cX5_put 33 = .ok (.aload_n 0, 1) := by decide +kernel
theorem dX5_put_34 : decode cX5_put 34 = .ok (.dup, 1) := by decide +kernel
theorem dX5_put_35 : decode cX5_put 35 = .ok (.getfield 15, 3) := by decide +kernel
theorem dX5_put_38 : decode cX5_put 38 = .ok (.iconst 1, 1) := by decide +kernel
theorem dX5_put_39 : decode cX5_put 39 = .ok (.iadd, 1) := by decide +kernel
theorem dX5_put_40 : decode cX5_put 40 = .ok (.putfield 15, 3) := by decide +kernel
theorem dX5_put_43 : decode cX5_put 43 = .ok (.iinc 2 (-8), 3) := by decide +kernel
theorem dX5_put_46 : decode cX5_put 46 = .ok (.goto (-43), 3) := by decide +kernel
theorem dX5_put_49 : decode cX5_put 49 = .ok (.return_, 1) := by decide +kernel
theorem dX6_init_0 : decode cX6_init 0 = .ok (.aload_n 0, 1) := by decide +kernel
theorem dX6_init_1 : decode cX6_init 1 = .ok (.invokespecial 3, 3) := by decide +kernel
theorem dX6_init_4 : decode cX6_init 4 = .ok (.aload_n 0, 1) := by decide +kernel
theorem dX6_init_5 : decode cX6_init 5 = .ok (.sipush 701, 3) := by decide +kernel
theorem dX6_init_8 : decode cX6_init 8 = .ok (.newarray .int, 2) := by decide +kernel
theorem dX6_init_10 : decode cX6_init 10 = .ok (.putfield 9, 3) := by decide +kernel
theorem dX6_init_13 : decode cX6_init 13 = .ok (.aload_n 0, 1) := by decide +kernel
theorem dX6_init_14 : decode cX6_init 14 = .ok (.sipush 701, 3) := by decide +kernel
theorem dX6_init_17 : decode cX6_init 17 = .ok (.newarray .int, 2) := by decide +kernel
theorem dX6_init_19 : decode cX6_init 19 = .ok (.putfield 15, 3) := by decide +kernel
theorem dX6_init_22 : decode cX6_init 22 = .ok (.aload_n 0, 1) := by decide +kernel
theorem dX6_init_23 : decode cX6_init 23 = .ok (.sipush 701, 3) := by decide +kernel
theorem dX6_init_26 : decode cX6_init 26 = .ok (.newarray .int, 2) := by decide +kernel
theorem dX6_init_28 : decode cX6_init 28 = .ok (.putfield 18, 3) := by decide +kernel
theorem dX6_init_31 : decode cX6_init 31 = .ok (.aload_n 0, 1) := by decide +kernel
theorem dX6_init_32 : decode cX6_init 32 = .ok (.iconst 0, 1) := by decide +kernel
theorem dX6_init_33 : decode cX6_init 33 = .ok (.putfield 21, 3) := by decide +kernel
theorem dX6_init_36 : decode cX6_init 36 = .ok (.return_, 1) := by decide +kernel
theorem dX6_cut_0 : decode cX6_cut 0 = .ok (.iload_n 2, 1) := by decide +kernel
theorem dX6_cut_1 : decode cX6_cut 1 = .ok (.aload_n 1, 1) := by decide +kernel
theorem dX6_cut_2 : decode cX6_cut 2 = .ok (.arraylength, 1) := by decide +kernel
theorem dX6_cut_3 : decode cX6_cut 3 = .ok (.invokestatic 25, 3) := by decide +kernel
theorem dX6_cut_6 : decode cX6_cut 6 = .ok (.istore_n 3, 1) := by decide +kernel
theorem dX6_cut_7 : decode cX6_cut 7 = .ok (.iconst 0, 1) := by decide +kernel
theorem dX6_cut_8 : decode cX6_cut 8 = .ok (.istore 4, 2) := by decide +kernel
theorem dX6_cut_10 : decode cX6_cut 10 = .ok (.aload_n 0, 1) := by decide +kernel
theorem dX6_cut_11 : decode cX6_cut 11 = .ok (.iconst 0, 1) := by decide +kernel
theorem dX6_cut_12 : decode cX6_cut 12 = .ok (.putfield 21, 3) := by decide +kernel
theorem dX6_cut_15 : decode cX6_cut 15 = .ok (.iconst 0, 1) := by decide +kernel
theorem dX6_cut_16 : decode cX6_cut 16 = .ok (.istore 5, 2) := by decide +kernel
theorem dX6_cut_18 : decode cX6_cut 18 = .ok (.iload 5, 2) := by decide +kernel
theorem dX6_cut_20 : decode cX6_cut 20 = .ok (.sipush 700, 3) := by decide +kernel
theorem dX6_cut_23 : decode cX6_cut 23 = .ok (.if_icmp .ge 93, 3) := by decide +kernel
theorem dX6_cut_26 : decode cX6_cut 26 = .ok (.iload 4, 2) := by decide +kernel
theorem dX6_cut_28 : decode cX6_cut 28 = .ok (.iload_n 3, 1) := by decide +kernel
theorem dX6_cut_29 : decode cX6_cut 29 = .ok (.if_icmp .ge 87, 3) := by decide +kernel
theorem dX6_cut_32 : decode cX6_cut 32 = .ok (.aload_n 1, 1) := by decide +kernel
theorem dX6_cut_33 : decode cX6_cut 33 = .ok (.iload 4, 2) := by decide +kernel
theorem dX6_cut_35 : decode cX6_cut 35 = .ok (.iaload, 1) := by decide +kernel
theorem dX6_cut_36 : decode cX6_cut 36 = .ok (.istore 6, 2) := by decide +kernel
theorem dX6_cut_38 : decode cX6_cut 38 = .ok (.iload 6, 2) := by decide +kernel
theorem dX6_cut_40 : decode cX6_cut 40 = .ok (.bipush 10, 2) := by decide +kernel
theorem dX6_cut_42 : decode cX6_cut 42 = .ok (.if_icmp .eq 10, 3) := by decide +kernel
theorem dX6_cut_45 : decode cX6_cut 45 = .ok (.iload 6, 2) := by decide +kernel
theorem dX6_cut_47 : decode cX6_cut 47 = .ok (.bipush 32, 2) := by decide +kernel
theorem dX6_cut_49 : decode cX6_cut 49 = .ok (.if_icmp .ne 9, 3) := by decide +kernel
theorem dX6_cut_52 : decode cX6_cut 52 = .ok (.iinc 4 1, 3) := by decide +kernel
theorem dX6_cut_55 : decode cX6_cut 55 = .ok (.goto 55, 3) := by decide +kernel
theorem dX6_cut_58 : decode cX6_cut 58 = .ok (.iload 6, 2) := by decide +kernel
theorem dX6_cut_60 : decode cX6_cut 60 = .ok (.invokestatic 31, 3) := by decide +kernel
theorem dX6_cut_63 : decode cX6_cut 63 = .ok (.ifCond .eq 16, 3) := by decide +kernel
theorem dX6_cut_66 : decode cX6_cut 66 = .ok (.aload_n 0, 1) := by decide +kernel
theorem dX6_cut_67 : decode cX6_cut 67 = .ok (.aload_n 1, 1) := by decide +kernel
theorem dX6_cut_68 : decode cX6_cut 68 = .ok (.iload 4, 2) := by decide +kernel
theorem dX6_cut_70 : decode cX6_cut 70 = .ok (.iload_n 3, 1) := by decide +kernel
theorem dX6_cut_71 : decode cX6_cut 71 = .ok (.invokevirtual 35, 3) := by decide +kernel
theorem dX6_cut_74 : decode cX6_cut 74 = .ok (.istore 4, 2) := by decide +kernel
theorem dX6_cut_76 : decode cX6_cut 76 = .ok (.goto 34, 3) := by decide +kernel
theorem dX6_cut_79 : decode cX6_cut 79 = .ok (.iload 6, 2) := by decide +kernel
theorem dX6_cut_81 : decode cX6_cut 81 = .ok (.invokestatic 39, 3) := by decide +kernel
theorem dX6_cut_84 : decode cX6_cut 84 = .ok (.ifCond .eq 16, 3) := by decide +kernel
theorem dX6_cut_87 : decode cX6_cut 87 = .ok (.aload_n 0, 1) := by decide +kernel
theorem dX6_cut_88 : decode cX6_cut 88 = .ok (.aload_n 1, 1) := by decide +kernel
theorem dX6_cut_89 : decode cX6_cut 89 = .ok (.iload 4, 2) := by decide +kernel
theorem dX6_cut_91 : decode cX6_cut 91 = .ok (.iload_n 3, 1) := by decide +kernel
theorem dX6_cut_92 : decode cX6_cut 92 = .ok (.invokevirtual 42, 3) := by decide +kernel
theorem dX6_cut_95 : decode cX6_cut 95 = .ok (.istore 4, 2) := by decide +kernel
theorem dX6_cut_97 : decode cX6_cut 97 = .ok (.goto 13, 3) := by decide +kernel
theorem dX6_cut_100 : decode cX6_cut 100 = .ok (.aload_n 0, 1) := by decide +kernel
theorem dX6_cut_101 : decode cX6_cut 101 = .ok (.aload_n 1, 1) := by decide +kernel
theorem dX6_cut_102 : decode cX6_cut 102 = .ok (.iload 4, 2) := by decide +kernel
theorem dX6_cut_104 : decode cX6_cut 104 = .ok (.iload_n 3, 1) := by decide +kernel
theorem dX6_cut_105 : decode cX6_cut 105 = .ok (.invokevirtual 45, 3) := by decide +kernel
theorem dX6_cut_108 : decode cX6_cut 108 = .ok (.istore 4, 2) := by decide +kernel
theorem dX6_cut_110 : decode cX6_cut 110 = .ok (.iinc 5 1, 3) := by decide +kernel
theorem dX6_cut_113 : decode cX6_cut 113 = .ok (.goto (-95), 3) := by decide +kernel
theorem dX6_cut_116 : decode cX6_cut 116 = .ok (.aload_n 0, 1) := by decide +kernel
theorem dX6_cut_117 : decode cX6_cut 117 = .ok (.iconst 0, 1) := by decide +kernel
theorem dX6_cut_118 : decode cX6_cut 118 = .ok (.iload_n 3, 1) := by decide +kernel
theorem dX6_cut_119 : decode cX6_cut 119 = .ok (.iconst 0, 1) := by decide +kernel
theorem dX6_cut_120 : decode cX6_cut 120 = .ok (.invokevirtual 48, 3) := by decide +kernel
theorem dX6_cut_123 : decode cX6_cut 123 = .ok (.return_, 1) := by decide +kernel
theorem dX6_add_0 : decode cX6_add 0 = .ok (.aload_n 0, 1) := by decide +kernel
theorem dX6_add_1 : decode cX6_add 1 = .ok (.getfield 21, 3) := by decide +kernel
theorem dX6_add_4 : decode cX6_add 4 = .ok (.sipush 700, 3) := by decide +kernel
theorem dX6_add_7 : decode cX6_add 7 = .ok (.if_icmp .gt 43, 3) := by decide +kernel
theorem dX6_add_10 : decode cX6_add 10 = .ok (.aload_n 0, 1) := by decide +kernel
theorem dX6_add_11 : decode cX6_add 11 = .ok (.getfield 9, 3) := by decide +kernel
theorem dX6_add_14 : decode cX6_add 14 = .ok (.aload_n 0, 1) := by decide +kernel
theorem dX6_add_15 : decode cX6_add 15 = .ok (.getfield 21, 3) := by decide +kernel
theorem dX6_add_18 : decode cX6_add 18 = .ok (.iload_n 1, 1) := by decide +kernel
theorem dX6_add_19 : decode cX6_add 19 = .ok (.iastore, 1) := by decide +kernel
theorem dX6_add_20 : decode cX6_add 20 = .ok (.aload_n 0, 1) := by decide +kernel
theorem dX6_add_21 : decode cX6_add 21 = .ok (.getfield 15, 3) := by decide +kernel
theorem dX6_add_24 : decode cX6_add 24 = .ok (.aload_n 0, 1) := by decide +kernel
theorem dX6_add_25 : decode cX6_add 25 = .ok (.getfield 21, 3) := by decide +kernel
theorem dX6_add_28 : decode cX6_add 28 = .ok (.iload_n 2, 1) := by decide +kernel
theorem dX6_add_29 : decode cX6_add 29 = .ok (.iastore, 1) := by decide +kernel
theorem dX6_add_30 : decode cX6_add 30 = .ok (.aload_n 0, 1) := by decide +kernel
theorem dX6_add_31 : decode cX6_add 31 = .ok (.getfield 18, 3) := by decide +kernel
theorem dX6_add_34 : decode cX6_add 34 = .ok (.aload_n 0, 1) := by decide +kernel
theorem dX6_add_35 : decode cX6_add 35 = .ok (.getfield 21, 3) := by decide +kernel
theorem dX6_add_38 : decode cX6_add 38 = .ok (.iload_n 3, 1) := by decide +kernel
theorem dX6_add_39 : decode cX6_add 39 = .ok (.iastore, 1) := by decide +kernel
theorem dX6_add_40 : decode cX6_add 40 = .ok (.aload_n 0, 1) := by decide +kernel
theorem dX6_add_41 : decode cX6_add 41 = .ok (.dup, 1) := by decide +kernel
theorem dX6_add_42 : decode cX6_add 42 = .ok (.getfield 21, 3) := by decide +kernel
theorem dX6_add_45 : decode cX6_add 45 = .ok (.iconst 1, 1) := by decide +kernel
theorem dX6_add_46 : decode cX6_add 46 = .ok (.iadd, 1) := by decide +kernel
theorem dX6_add_47 : decode cX6_add 47 = .ok (.putfield 21, 3) := by decide +kernel
theorem dX6_add_50 : decode cX6_add 50 = .ok (.return_, 1) := by decide +kernel
theorem dX6_cutWord_0 : decode cX6_cutWord 0 = .ok (.iload_n 2, 1) := by decide +kernel
theorem dX6_cutWord_1 : decode cX6_cutWord 1 = .ok (.istore 4, 2) := by decide +kernel
theorem dX6_cutWord_3 : decode cX6_cutWord 3 = .ok (.iconst 0, 1) := by decide +kernel
theorem dX6_cutWord_4 : decode cX6_cutWord 4 = .ok (.istore 5, 2) := by decide +kernel
theorem dX6_cutWord_6 : decode cX6_cutWord 6 = .ok (.iload 4, 2) := by decide +kernel
theorem dX6_cutWord_8 : decode cX6_cutWord 8 = .ok (.iload_n 3, 1) := by decide +kernel
theorem dX6_cutWord_9 : decode cX6_cutWord 9 = .ok (.if_icmp .ge 51, 3) := by decide +kernel
theorem dX6_cutWord_12 : decode cX6_cutWord 12 = .ok (.aload_n 1, 1) := by decide +kernel
theorem dX6_cutWord_13 : decode cX6_cutWord 13 = .ok (.iload 4, 2) := by decide +kernel
theorem dX6_cutWord_15 : decode cX6_cutWord 15 = .ok (.iaload, 1) := by decide +kernel
theorem dX6_cutWord_16 : decode cX6_cutWord 16 = .ok (.invokestatic 31, 3) := by decide +kernel
theorem dX6_cutWord_19 : decode cX6_cutWord 19 = .ok (.ifCond .eq 41, 3) := by decide +kernel
theorem dX6_cutWord_22 : decode cX6_cutWord 22 = .ok (.iload 4, 2) := by decide +kernel
theorem dX6_cutWord_24 : decode cX6_cutWord 24 = .ok (.iload_n 2, 1) := by decide +kernel
theorem dX6_cutWord_25 : decode cX6_cutWord 25 = .ok (.isub, 1) := by decide +kernel
theorem dX6_cutWord_26 : decode cX6_cutWord 26 = .ok (.bipush 6, 2) := by decide +kernel
theorem dX6_cutWord_28 : decode cX6_cutWord 28 = .ok (.if_icmp .ge 26, 3) := by decide +kernel
theorem dX6_cutWord_31 : decode cX6_cutWord 31 = .ok (.iload 5, 2) := by decide +kernel
theorem dX6_cutWord_33 : decode cX6_cutWord 33 = .ok (.aload_n 1, 1) := by decide +kernel
theorem dX6_cutWord_34 : decode cX6_cutWord 34 = .ok (.iload 4, 2) := by decide +kernel
theorem dX6_cutWord_36 : decode cX6_cutWord 36 = .ok (.iaload, 1) := by decide +kernel
theorem dX6_cutWord_37 : decode cX6_cutWord 37 = .ok (.bipush 97, 2) := by decide +kernel
theorem dX6_cutWord_39 : decode cX6_cutWord 39 = .ok (.isub, 1) := by decide +kernel
theorem dX6_cutWord_40 : decode cX6_cutWord 40 = .ok (.iconst 1, 1) := by decide +kernel
theorem dX6_cutWord_41 : decode cX6_cutWord 41 = .ok (.iadd, 1) := by decide +kernel
theorem dX6_cutWord_42 : decode cX6_cutWord 42 = .ok (.iconst 5, 1) := by decide +kernel
theorem dX6_cutWord_43 : decode cX6_cutWord 43 = .ok (.iconst 5, 1) := by decide +kernel
theorem dX6_cutWord_44 : decode cX6_cutWord 44 = .ok (.iload 4, 2) := by decide +kernel
theorem dX6_cutWord_46 : decode cX6_cutWord 46 = .ok (.iload_n 2, 1) := by decide +kernel
theorem dX6_cutWord_47 : decode cX6_cutWord 47 = .ok (.isub, 1) := by decide +kernel
theorem dX6_cutWord_48 : decode cX6_cutWord 48 = .ok (.isub, 1) := by decide +kernel
theorem dX6_cutWord_49 : decode cX6_cutWord 49 = .ok (.imul, 1) := by decide +kernel
theorem dX6_cutWord_50 : decode cX6_cutWord 50 = .ok (.ishl, 1) := by decide +kernel
theorem dX6_cutWord_51 : decode cX6_cutWord 51 = .ok (.ior, 1) := by decide +kernel
theorem dX6_cutWord_52 : decode cX6_cutWord 52 = .ok (.istore 5, 2) := by decide +kernel
theorem dX6_cutWord_54 : decode cX6_cutWord 54 = .ok (.iinc 4 1, 3) := by decide +kernel
theorem dX6_cutWord_57 : decode cX6_cutWord 57 = .ok (.goto (-51), 3) := by decide +kernel
theorem dX6_cutWord_60 : decode cX6_cutWord 60 = .ok (.aload_n 0, 1) := by decide +kernel
theorem dX6_cutWord_61 : decode cX6_cutWord 61 = .ok (.iload 4, 2) := by decide +kernel
theorem dX6_cutWord_63 : decode cX6_cutWord 63 = .ok (.iload_n 2, 1) := by decide +kernel
theorem dX6_cutWord_64 : decode cX6_cutWord 64 = .ok (.isub, 1) := by decide +kernel
theorem dX6_cutWord_65 : decode cX6_cutWord 65 = .ok (.bipush 6, 2) := by decide +kernel
theorem dX6_cutWord_67 : decode cX6_cutWord 67 = .ok (.if_icmp .le 7, 3) := by decide +kernel
theorem dX6_cutWord_70 : decode cX6_cutWord 70 = .ok (.iconst 1, 1) := by decide +kernel
theorem dX6_cutWord_71 : decode cX6_cutWord 71 = .ok (.goto 8, 3) := by decide +kernel
theorem dX6_cutWord_74 : decode cX6_cutWord 74 = .ok (.iload 5, 2) := by decide +kernel
theorem dX6_cutWord_76 : decode cX6_cutWord 76 = .ok (.invokestatic 52, 3) := by decide +kernel
theorem dX6_cutWord_79 : decode cX6_cutWord 79 = .ok (.iload_n 2, 1) := by decide +kernel
theorem dX6_cutWord_80 : decode cX6_cutWord 80 = .ok (.iload 5, 2) := by decide +kernel
theorem dX6_cutWord_82 : decode cX6_cutWord 82 = .ok (.invokevirtual 48, 3) := by decide +kernel
theorem dX6_cutWord_85 : decode cX6_cutWord 85 = .ok (.iload 4, 2) := by decide +kernel
theorem dX6_cutWord_87 : decode cX6_cutWord 87 = .ok (.ireturn, 1) := by decide +kernel
theorem dX6_cutNumber_0 : decode cX6_cutNumber 0 = .ok (.iload_n 2, 1) := by decide +kernel
theorem dX6_cutNumber_1 : decode cX6_cutNumber 1 = .ok (.istore 4, 2) := by decide +kernel
theorem dX6_cutNumber_3 : decode cX6_cutNumber 3 = .ok (.iconst 0, 1) := by decide +kernel
theorem dX6_cutNumber_4 : decode cX6_cutNumber 4 = .ok (.istore 5, 2) := by decide +kernel
theorem dX6_cutNumber_6 : decode cX6_cutNumber 6 = .ok (.iload 4, 2) := by decide +kernel
theorem dX6_cutNumber_8 : decode cX6_cutNumber 8 = .ok (.iload_n 3, 1) := by decide +kernel
theorem dX6_cutNumber_9 : decode cX6_cutNumber 9 = .ok (.if_icmp .ge 39, 3) := by decide +kernel
theorem dX6_cutNumber_12 : decode cX6_cutNumber 12 = .ok (.aload_n 1, 1) := by decide +kernel
theorem dX6_cutNumber_13 : decode cX6_cutNumber 13 = .ok (.iload 4, 2) := by decide +kernel
theorem dX6_cutNumber_15 : decode cX6_cutNumber 15 = .ok (.iaload, 1) := by decide +kernel
theorem dX6_cutNumber_16 : decode cX6_cutNumber 16 = .ok (.invokestatic 39, 3) := by decide +kernel
theorem dX6_cutNumber_19 : decode cX6_cutNumber 19 = .ok (.ifCond .eq 29, 3) := by decide +kernel
theorem dX6_cutNumber_22 : decode cX6_cutNumber 22 = .ok (.ldc 56, 2) := by decide +kernel
theorem dX6_cutNumber_24 : decode cX6_cutNumber 24 = .ok (.iload 5, 2) := by decide +kernel
theorem dX6_cutNumber_26 : decode cX6_cutNumber 26 = .ok (.bipush 10, 2) := by decide +kernel
theorem dX6_cutNumber_28 : decode cX6_cutNumber 28 = .ok (.imul, 1) := by decide +kernel
theorem dX6_cutNumber_29 : decode cX6_cutNumber 29 = .ok (.aload_n 1, 1) := by decide +kernel
theorem dX6_cutNumber_30 : decode cX6_cutNumber 30 = .ok (.iload 4, 2) := by decide +kernel
theorem dX6_cutNumber_32 : decode cX6_cutNumber 32 = .ok (.iaload, 1) := by decide +kernel
theorem dX6_cutNumber_33 : decode cX6_cutNumber 33 = .ok (.iadd, 1) := by decide +kernel
theorem dX6_cutNumber_34 : decode cX6_cutNumber 34 = .ok (.bipush 48, 2) := by decide +kernel
theorem dX6_cutNumber_36 : decode cX6_cutNumber 36 = .ok (.isub, 1) := by decide +kernel
theorem dX6_cutNumber_37 : decode cX6_cutNumber 37 = .ok (.invokestatic 25, 3) := by decide +kernel
theorem dX6_cutNumber_40 : decode cX6_cutNumber 40 = .ok (.istore 5, 2) := by decide +kernel
theorem dX6_cutNumber_42 : decode cX6_cutNumber 42 = .ok (.iinc 4 1, 3) := by decide +kernel
theorem dX6_cutNumber_45 : decode cX6_cutNumber 45 = .ok (.goto (-39), 3) := by decide +kernel
theorem dX6_cutNumber_48 : decode cX6_cutNumber 48 = .ok (.aload_n 0, 1) := by decide +kernel
theorem dX6_cutNumber_49 : decode cX6_cutNumber 49 = .ok (.iconst 2, 1) := by decide +kernel
theorem dX6_cutNumber_50 : decode cX6_cutNumber 50 = .ok (.iload_n 2, 1) := by decide +kernel
theorem dX6_cutNumber_51 : decode cX6_cutNumber 51 = .ok (.iload 5, 2) := by decide +kernel
theorem dX6_cutNumber_53 : decode cX6_cutNumber 53 = .ok (.invokevirtual 48, 3) := by decide +kernel
theorem dX6_cutNumber_56 : decode cX6_cutNumber 56 = .ok (.iload 4, 2) := by decide +kernel
theorem dX6_cutNumber_58 : decode cX6_cutNumber 58 = .ok (.ireturn, 1) := by decide +kernel
theorem dX6_cutSign_0 : decode cX6_cutSign 0 = .ok (.iload_n 2, 1) := by decide +kernel
theorem dX6_cutSign_1 : decode cX6_cutSign 1 = .ok (.iconst 1, 1) := by decide +kernel
theorem dX6_cutSign_2 : decode cX6_cutSign 2 = .ok (.iadd, 1) := by decide +kernel
theorem dX6_cutSign_3 : decode cX6_cutSign 3 = .ok (.iload_n 3, 1) := by decide +kernel
theorem dX6_cutSign_4 : decode cX6_cutSign 4 = .ok (.if_icmp .ge 11, 3) := by decide +kernel
theorem dX6_cutSign_7 : decode cX6_cutSign 7 = .ok (.aload_n 1, 1) := by decide +kernel
theorem dX6_cutSign_8 : decode cX6_cutSign 8 = .ok (.iload_n 2, 1) := by decide +kernel
theorem dX6_cutSign_9 : decode cX6_cutSign 9 = .ok (.iconst 1, 1) := by decide +kernel
theorem dX6_cutSign_10 : decode cX6_cutSign 10 = .ok (.iadd, 1) := by decide +kernel
theorem dX6_cutSign_11 : decode cX6_cutSign 11 = .ok (.iaload, 1) := by decide +kernel
theorem dX6_cutSign_12 : decode cX6_cutSign 12 = .ok (.goto 4, 3) := by decide +kernel
theorem dX6_cutSign_15 : decode cX6_cutSign 15 = .ok (.iconst 0, 1) := by decide +kernel
theorem dX6_cutSign_16 : decode cX6_cutSign 16 = .ok (.istore 4, 2) := by decide +kernel
theorem dX6_cutSign_18 : decode cX6_cutSign 18 = .ok (.aload_n 1, 1) := by decide +kernel
theorem dX6_cutSign_19 : decode cX6_cutSign 19 = .ok (.iload_n 2, 1) := by decide +kernel
theorem dX6_cutSign_20 : decode cX6_cutSign 20 = .ok (.iaload, 1) := by decide +kernel
theorem dX6_cutSign_21 : decode cX6_cutSign 21 = .ok (.iload 4, 2) := by decide +kernel
theorem dX6_cutSign_23 : decode cX6_cutSign 23 = .ok (.invokestatic 57, 3) := by decide +kernel
theorem dX6_cutSign_26 : decode cX6_cutSign 26 = .ok (.istore 5, 2) := by decide +kernel
theorem dX6_cutSign_28 : decode cX6_cutSign 28 = .ok (.aload_n 0, 1) := by decide +kernel
theorem dX6_cutSign_29 : decode cX6_cutSign 29 = .ok (.iload 5, 2) := by decide +kernel
theorem dX6_cutSign_31 : decode cX6_cutSign 31 = .ok (.iconst 1, 1) := by decide +kernel
theorem dX6_cutSign_32 : decode cX6_cutSign 32 = .ok (.if_icmp .ne 12, 3) := by decide +kernel
theorem dX6_cutSign_35 : decode cX6_cutSign 35 = .ok (.aload_n 1, 1) := by decide +kernel
theorem dX6_cutSign_36 : decode cX6_cutSign 36 = .ok (.iload_n 2, 1) := by decide +kernel
theorem dX6_cutSign_37 : decode cX6_cutSign 37 = .ok (.iaload, 1) := by decide +kernel
theorem dX6_cutSign_38 : decode cX6_cutSign 38 = .ok (.invokestatic 60, 3) := by decide +kernel
theorem dX6_cutSign_41 : decode cX6_cutSign 41 = .ok (.goto 5, 3) := by decide +kernel
theorem dX6_cutSign_44 : decode cX6_cutSign 44 = .ok (.iload 5, 2) := by decide +kernel
theorem dX6_cutSign_46 : decode cX6_cutSign 46 = .ok (.iload_n 2, 1) := by decide +kernel
theorem dX6_cutSign_47 : decode cX6_cutSign 47 = .ok (.iconst 0, 1) := by decide +kernel
theorem dX6_cutSign_48 : decode cX6_cutSign 48 = .ok (.invokevirtual 48, 3) := by decide +kernel
theorem dX6_cutSign_51 : decode cX6_cutSign 51 = .ok (.iload 5, 2) := by decide +kernel
theorem dX6_cutSign_53 : decode cX6_cutSign 53 = .ok (.iconst 1, 1) := by decide +kernel
theorem dX6_cutSign_54 : decode cX6_cutSign 54 = .ok (.if_icmp .ne 9, 3) := by decide +kernel
theorem dX6_cutSign_57 : decode cX6_cutSign 57 = .ok (.iload_n 2, 1) := by decide +kernel
theorem dX6_cutSign_58 : decode cX6_cutSign 58 = .ok (.iconst 1, 1) := by decide +kernel
theorem dX6_cutSign_59 : decode cX6_cutSign 59 = .ok (.iadd, 1) := by decide +kernel
theorem dX6_cutSign_60 : decode cX6_cutSign 60 = .ok (.goto 6, 3) := by decide +kernel
theorem dX6_cutSign_63 : decode cX6_cutSign 63 = .ok (.iload_n 2, 1) := by decide +kernel
theorem dX6_cutSign_64 : decode cX6_cutSign 64 = .ok (.iconst 2, 1) := by decide +kernel
theorem dX6_cutSign_65 : decode cX6_cutSign 65 = .ok (.iadd, 1) := by decide +kernel
theorem dX6_cutSign_66 : decode cX6_cutSign 66 = .ok (.ireturn, 1) := by decide +kernel
theorem dX6_pairKind_0 : decode cX6_pairKind 0 = .ok (.iload_n 0, 1) := by decide +kernel
theorem dX6_pairKind_1 : decode cX6_pairKind 1 = .ok (.bipush 60, 2) := by decide +kernel
theorem dX6_pairKind_3 : decode cX6_pairKind 3 = .ok (.if_icmp .ne 27, 3) := by decide +kernel
theorem dX6_pairKind_6 : decode cX6_pairKind 6 = .ok (.iload_n 1, 1) := by decide +kernel
theorem dX6_pairKind_7 : decode cX6_pairKind 7 = .ok (.bipush 61, 2) := by decide +kernel
theorem dX6_pairKind_9 : decode cX6_pairKind 9 = .ok (.if_icmp .ne 8, 3) := by decide +kernel
theorem dX6_pairKind_12 : decode cX6_pairKind 12 = .ok (.bipush 8, 2) := by decide +kernel
theorem dX6_pairKind_14 : decode cX6_pairKind 14 = .ok (.goto 15, 3) := by decide +kernel
theorem dX6_pairKind_17 : decode cX6_pairKind 17 = .ok (.iload_n 1, 1) := by decide +kernel
theorem dX6_pairKind_18 : decode cX6_pairKind 18 = .ok (.bipush 62, 2) := by decide +kernel
theorem dX6_pairKind_20 : decode cX6_pairKind 20 = .ok (.if_icmp .ne 8, 3) := by decide +kernel
theorem dX6_pairKind_23 : decode cX6_pairKind 23 = .ok (.bipush 10, 2) := by decide +kernel
theorem dX6_pairKind_25 : decode cX6_pairKind 25 = .ok (.goto 4, 3) := by decide +kernel
theorem dX6_pairKind_28 : decode cX6_pairKind 28 = .ok (.iconst 1, 1) := by decide +kernel
theorem dX6_pairKind_29 : decode cX6_pairKind 29 = .ok (.ireturn, 1) := by decide +kernel
theorem dX6_pairKind_30 : decode cX6_pairKind 30 = .ok (.iload_n 0, 1) := by decide +kernel
theorem dX6_pairKind_31 : decode cX6_pairKind 31 = .ok (.bipush 62, 2) := by decide +kernel
theorem dX6_pairKind_33 : decode cX6_pairKind 33 = .ok (.if_icmp .ne 14, 3) := by decide +kernel
theorem dX6_pairKind_36 : decode cX6_pairKind 36 = .ok (.iload_n 1, 1) := by decide +kernel
theorem dX6_pairKind_37 : decode cX6_pairKind 37 = .ok (.bipush 61, 2) := by decide +kernel
theorem dX6_pairKind_39 : decode cX6_pairKind 39 = .ok (.if_icmp .ne 8, 3) := by decide +kernel
theorem dX6_pairKind_42 : decode cX6_pairKind 42 = .ok (.bipush 11, 2) := by decide +kernel
theorem dX6_pairKind_44 : decode cX6_pairKind 44 = .ok (.goto 4, 3) := by decide +kernel
theorem dX6_pairKind_47 : decode cX6_pairKind 47 = .ok (.iconst 1, 1) := by decide +kernel
theorem dX6_pairKind_48 : decode cX6_pairKind 48 = .ok (.ireturn, 1) := by decide +kernel
theorem dX6_signKind_0 : decode cX6_signKind 0 = .ok (.iload_n 0, 1) := by decide +kernel
theorem dX6_signKind_1 : decode cX6_signKind 1 = .ok (.tableswitch 135 40 62 #[109, 111, 129, 123, 135, 126, 135, 132, 135, 135, 135, 135, 135, 135, 135, 135, 135, 135, 135, 107, 114, 117, 120], 107) := by decide +kernel
theorem dX6_signKind_108 : decode cX6_signKind 108 = .ok (.iconst 4, 1) := by decide +kernel
theorem dX6_signKind_109 : decode cX6_signKind 109 = .ok (.ireturn, 1) := by decide +kernel
theorem dX6_signKind_110 : decode cX6_signKind 110 = .ok (.iconst 5, 1) := by decide +kernel
theorem dX6_signKind_111 : decode cX6_signKind 111 = .ok (.ireturn, 1) := by decide +kernel
theorem dX6_signKind_112 : decode cX6_signKind 112 = .ok (.bipush 6, 2) := by decide +kernel
theorem dX6_signKind_114 : decode cX6_signKind 114 = .ok (.ireturn, 1) := by decide +kernel
theorem dX6_signKind_115 : decode cX6_signKind 115 = .ok (.bipush 7, 2) := by decide +kernel
theorem dX6_signKind_117 : decode cX6_signKind 117 = .ok (.ireturn, 1) := by decide +kernel
theorem dX6_signKind_118 : decode cX6_signKind 118 = .ok (.bipush 9, 2) := by decide +kernel
theorem dX6_signKind_120 : decode cX6_signKind 120 = .ok (.ireturn, 1) := by decide +kernel
theorem dX6_signKind_121 : decode cX6_signKind 121 = .ok (.bipush 12, 2) := by decide +kernel
theorem dX6_signKind_123 : decode cX6_signKind 123 = .ok (.ireturn, 1) := by decide +kernel
theorem dX6_signKind_124 : decode cX6_signKind 124 = .ok (.bipush 13, 2) := by decide +kernel
theorem dX6_signKind_126 : decode cX6_signKind 126 = .ok (.ireturn, 1) := by decide +kernel
theorem dX6_signKind_127 : decode cX6_signKind 127 = .ok (.bipush 14, 2) := by decide +kernel
theorem dX6_signKind_129 : decode cX6_signKind 129 = .ok (.ireturn, 1) := by decide +kernel
theorem dX6_signKind_130 : decode cX6_signKind 130 = .ok (.bipush 15, 2) := by decide +kernel
theorem dX6_signKind_132 : decode cX6_signKind 132 = .ok (.ireturn, 1) := by decide +kernel
theorem dX6_signKind_133 : decode cX6_signKind 133 = .ok (.bipush 16, 2) := by decide +kernel
theorem dX6_signKind_135 : decode cX6_signKind 135 = .ok (.ireturn, 1) := by decide +kernel
theorem dX6_signKind_136 : decode cX6_signKind 136 = .ok (.iconst 1, 1) := by decide +kernel
theorem dX6_signKind_137 : decode cX6_signKind 137 = .ok (.ireturn, 1) := by decide +kernel
theorem dX6_wordKind_0 : decode cX6_wordKind 0 = .ok (.iconst 0, 1) := by decide +kernel
theorem dX6_wordKind_1 : decode cX6_wordKind 1 = .ok (.istore_n 1, 1) := by decide +kernel
theorem dX6_wordKind_2 : decode cX6_wordKind 2 = .ok (.iload_n 1, 1) := by decide +kernel
theorem dX6_wordKind_3 : decode cX6_wordKind 3 = .ok (.bipush 21, 2) := by decide +kernel
theorem dX6_wordKind_5 : decode cX6_wordKind 5 = .ok (.if_icmp .gt 25, 3) := by decide +kernel
theorem dX6_wordKind_8 : decode cX6_wordKind 8 = .ok (.iload_n 1, 1) := by decide +kernel
theorem dX6_wordKind_9 : decode cX6_wordKind 9 = .ok (.bipush 6, 2) := by decide +kernel
theorem dX6_wordKind_11 : decode cX6_wordKind 11 = .ok (.imul, 1) := by decide +kernel
theorem dX6_wordKind_12 : decode cX6_wordKind 12 = .ok (.invokestatic 63, 3) := by decide +kernel
theorem dX6_wordKind_15 : decode cX6_wordKind 15 = .ok (.iload_n 0, 1) := by decide +kernel
theorem dX6_wordKind_16 : decode cX6_wordKind 16 = .ok (.if_icmp .ne 8, 3) := by decide +kernel
theorem dX6_wordKind_19 : decode cX6_wordKind 19 = .ok (.bipush 17, 2) := by decide +kernel
theorem dX6_wordKind_21 : decode cX6_wordKind 21 = .ok (.iload_n 1, 1) := by decide +kernel
theorem dX6_wordKind_22 : decode cX6_wordKind 22 = .ok (.iadd, 1) := by decide +kernel
theorem dX6_wordKind_23 : decode cX6_wordKind 23 = .ok (.ireturn, 1) := by decide +kernel
theorem dX6_wordKind_24 : decode cX6_wordKind 24 = .ok (.iinc 1 1, 3) := by decide +kernel
theorem dX6_wordKind_27 : decode cX6_wordKind 27 = .ok (.goto (-25), 3) := by decide +kernel
theorem dX6_wordKind_30 : decode cX6_wordKind 30 = .ok (.iconst 3, 1) := by decide +kernel
theorem dX6_wordKind_31 : decode cX6_wordKind 31 = .ok (.ireturn, 1) := by decide +kernel
theorem dX6_lettersOf_0 : decode cX6_lettersOf 0 = .ok (.iconst 0, 1) := by decide +kernel
theorem dX6_lettersOf_1 : decode cX6_lettersOf 1 = .ok (.istore_n 1, 1) := by decide +kernel
theorem dX6_lettersOf_2 : decode cX6_lettersOf 2 = .ok (.iload_n 0, 1) := by decide +kernel
theorem dX6_lettersOf_3 : decode cX6_lettersOf 3 = .ok (.istore_n 2, 1) := by decide +kernel
theorem dX6_lettersOf_4 : decode cX6_lettersOf 4 = .ok (.iload_n 2, 1) := by decide +kernel
theorem dX6_lettersOf_5 : decode cX6_lettersOf 5 = .ok (.iload_n 0, 1) := by decide +kernel
theorem dX6_lettersOf_6 : decode cX6_lettersOf 6 = .ok (.bipush 6, 2) := by decide +kernel
theorem dX6_lettersOf_8 : decode cX6_lettersOf 8 = .ok (.iadd, 1) := by decide +kernel
theorem dX6_lettersOf_9 : decode cX6_lettersOf 9 = .ok (.if_icmp .ge 46, 3) := by decide +kernel
theorem dX6_lettersOf_12 : decode cX6_lettersOf 12 = .ok (.iload_n 2, 1) := by decide +kernel
theorem dX6_lettersOf_13 : decode cX6_lettersOf 13 = .ok (.ldc 66, 2) := by decide +kernel
theorem dX6_lettersOf_15 : decode cX6_lettersOf 15 = .ok (.invokevirtual 68, 3) := by decide +kernel
theorem dX6_lettersOf_18 : decode cX6_lettersOf 18 = .ok (.if_icmp .ge 37, 3) := by decide +kernel
theorem dX6_lettersOf_21 : decode cX6_lettersOf 21 = .ok (.ldc 66, 2) := by decide +kernel
theorem dX6_lettersOf_23 : decode cX6_lettersOf 23 = .ok (.iload_n 2, 1) := by decide +kernel
theorem dX6_lettersOf_24 : decode cX6_lettersOf 24 = .ok (.invokevirtual 74, 3) := by decide +kernel
theorem dX6_lettersOf_27 : decode cX6_lettersOf 27 = .ok (.istore_n 3, 1) := by decide +kernel
theorem dX6_lettersOf_28 : decode cX6_lettersOf 28 = .ok (.iload_n 1, 1) := by decide +kernel
theorem dX6_lettersOf_29 : decode cX6_lettersOf 29 = .ok (.iconst 5, 1) := by decide +kernel
theorem dX6_lettersOf_30 : decode cX6_lettersOf 30 = .ok (.ishl, 1) := by decide +kernel
theorem dX6_lettersOf_31 : decode cX6_lettersOf 31 = .ok (.iload_n 3, 1) := by decide +kernel
theorem dX6_lettersOf_32 : decode cX6_lettersOf 32 = .ok (.bipush 32, 2) := by decide +kernel
theorem dX6_lettersOf_34 : decode cX6_lettersOf 34 = .ok (.if_icmp .ne 7, 3) := by decide +kernel
theorem dX6_lettersOf_37 : decode cX6_lettersOf 37 = .ok (.iconst 0, 1) := by decide +kernel
theorem dX6_lettersOf_38 : decode cX6_lettersOf 38 = .ok (.goto 9, 3) := by decide +kernel
theorem dX6_lettersOf_41 : decode cX6_lettersOf 41 = .ok (.iload_n 3, 1) := by decide +kernel
theorem dX6_lettersOf_42 : decode cX6_lettersOf 42 = .ok (.bipush 97, 2) := by decide +kernel
theorem dX6_lettersOf_44 : decode cX6_lettersOf 44 = .ok (.isub, 1) := by decide +kernel
theorem dX6_lettersOf_45 : decode cX6_lettersOf 45 = .ok (.iconst 1, 1) := by decide +kernel
theorem dX6_lettersOf_46 : decode cX6_lettersOf 46 = .ok (.iadd, 1) := by decide +kernel
theorem dX6_lettersOf_47 : decode cX6_lettersOf 47 = .ok (.ior, 1) := by decide +kernel
theorem dX6_lettersOf_48 : decode cX6_lettersOf 48 = .ok (.istore_n 1, 1) := by decide +kernel
theorem dX6_lettersOf_49 : decode cX6_lettersOf 49 = .ok (.iinc 2 1, 3) := by decide +kernel
theorem dX6_lettersOf_52 : decode cX6_lettersOf 52 = .ok (.goto (-48), 3) := by decide +kernel
theorem dX6_lettersOf_55 : decode cX6_lettersOf 55 = .ok (.iload_n 1, 1) := by decide +kernel
theorem dX6_lettersOf_56 : decode cX6_lettersOf 56 = .ok (.ireturn, 1) := by decide +kernel
theorem dX6_isLetter_0 : decode cX6_isLetter 0 = .ok (.iload_n 0, 1) := by decide +kernel
theorem dX6_isLetter_1 : decode cX6_isLetter 1 = .ok (.bipush 97, 2) := by decide +kernel
theorem dX6_isLetter_3 : decode cX6_isLetter 3 = .ok (.if_icmp .lt 13, 3) := by decide +kernel
theorem dX6_isLetter_6 : decode cX6_isLetter 6 = .ok (.iload_n 0, 1) := by decide +kernel
theorem dX6_isLetter_7 : decode cX6_isLetter 7 = .ok (.bipush 122, 2) := by decide +kernel
theorem dX6_isLetter_9 : decode cX6_isLetter 9 = .ok (.if_icmp .gt 7, 3) := by decide +kernel
theorem dX6_isLetter_12 : decode cX6_isLetter 12 = .ok (.iconst 1, 1) := by decide +kernel
theorem dX6_isLetter_13 : decode cX6_isLetter 13 = .ok (.goto 4, 3) := by decide +kernel
theorem dX6_isLetter_16 : decode cX6_isLetter 16 = .ok (.iconst 0, 1) := by decide +kernel
theorem dX6_isLetter_17 : decode cX6_isLetter 17 = .ok (.ireturn, 1) := by decide +kernel
theorem dX6_isDigit_0 : decode cX6_isDigit 0 = .ok (.iload_n 0, 1) := by decide +kernel
theorem dX6_isDigit_1 : decode cX6_isDigit 1 = .ok (.bipush 48, 2) := by decide +kernel
theorem dX6_isDigit_3 : decode cX6_isDigit 3 = .ok (.if_icmp .lt 13, 3) := by decide +kernel
theorem dX6_isDigit_6 : decode cX6_isDigit 6 = .ok (.iload_n 0, 1) := by decide +kernel
theorem dX6_isDigit_7 : decode cX6_isDigit 7 = .ok (.bipush 57, 2) := by decide +kernel
theorem dX6_isDigit_9 : decode cX6_isDigit 9 = .ok (.if_icmp .gt 7, 3) := by decide +kernel
theorem dX6_isDigit_12 : decode cX6_isDigit 12 = .ok (.iconst 1, 1) := by decide +kernel
theorem dX6_isDigit_13 : decode cX6_isDigit 13 = .ok (.goto 4, 3) := by decide +kernel
theorem dX6_isDigit_16 : decode cX6_isDigit 16 = .ok (.iconst 0, 1) := by decide +kernel
theorem dX6_isDigit_17 : decode cX6_isDigit 17 = .ok (.ireturn, 1) := by decide +kernel
theorem dX7_init_0 : decode cX7_init 0 = .ok (.aload_n 0, 1) := by decide +kernel
theorem dX7_init_1 : decode cX7_init 1 = .ok (.invokespecial 3, 3) := by decide +kernel
theorem dX7_init_4 : decode cX7_init 4 = .ok (.aload_n 0, 1) := by decide +kernel
theorem dX7_init_5 : decode cX7_init 5 = .ok (.iconst 0, 1) := by decide +kernel
theorem dX7_init_6 : decode cX7_init 6 = .ok (.putfield 9, 3) := by decide +kernel
theorem dX7_init_9 : decode cX7_init 9 = .ok (.aload_n 0, 1) := by decide +kernel
theorem dX7_init_10 : decode cX7_init 10 = .ok (.iconst 0, 1) := by decide +kernel
theorem dX7_init_11 : decode cX7_init 11 = .ok (.putfield 15, 3) := by decide +kernel
theorem dX7_init_14 : decode cX7_init 14 = .ok (.aload_n 0, 1) := by decide +kernel
theorem dX7_init_15 : decode cX7_init 15 = .ok (.iconst 0, 1) := by decide +kernel
theorem dX7_init_16 : decode cX7_init 16 = .ok (.putfield 18, 3) := by decide +kernel
theorem dX7_init_19 : decode cX7_init 19 = .ok (.aload_n 0, 1) := by decide +kernel
theorem dX7_init_20 : decode cX7_init 20 = .ok (.bipush 6, 2) := by decide +kernel
theorem dX7_init_22 : decode cX7_init 22 = .ok (.newarray .int, 2) := by decide +kernel
theorem dX7_init_24 : decode cX7_init 24 = .ok (.putfield 21, 3) := by decide +kernel
theorem dX7_init_27 : decode cX7_init 27 = .ok (.aload_n 0, 1) := by decide +kernel
theorem dX7_init_28 : decode cX7_init 28 = .ok (.bipush 6, 2) := by decide +kernel
theorem dX7_init_30 : decode cX7_init 30 = .ok (.newarray .int, 2) := by decide +kernel
theorem dX7_init_32 : decode cX7_init 32 = .ok (.putfield 25, 3) := by decide +kernel
theorem dX7_init_35 : decode cX7_init 35 = .ok (.aload_n 0, 1) := by decide +kernel
theorem dX7_init_36 : decode cX7_init 36 = .ok (.bipush 6, 2) := by decide +kernel
theorem dX7_init_38 : decode cX7_init 38 = .ok (.newarray .int, 2) := by decide +kernel
theorem dX7_init_40 : decode cX7_init 40 = .ok (.putfield 28, 3) := by decide +kernel
theorem dX7_init_43 : decode cX7_init 43 = .ok (.aload_n 0, 1) := by decide +kernel
theorem dX7_init_44 : decode cX7_init 44 = .ok (.bipush 10, 2) := by decide +kernel
theorem dX7_init_46 : decode cX7_init 46 = .ok (.newarray .int, 2) := by decide +kernel
theorem dX7_init_48 : decode cX7_init 48 = .ok (.putfield 31, 3) := by decide +kernel
theorem dX7_init_51 : decode cX7_init 51 = .ok (.aload_n 0, 1) := by decide +kernel
theorem dX7_init_52 : decode cX7_init 52 = .ok (.bipush 10, 2) := by decide +kernel
theorem dX7_init_54 : decode cX7_init 54 = .ok (.newarray .int, 2) := by decide +kernel
theorem dX7_init_56 : decode cX7_init 56 = .ok (.putfield 34, 3) := by decide +kernel
theorem dX7_init_59 : decode cX7_init 59 = .ok (.aload_n 0, 1) := by decide +kernel
theorem dX7_init_60 : decode cX7_init 60 = .ok (.bipush 10, 2) := by decide +kernel
theorem dX7_init_62 : decode cX7_init 62 = .ok (.newarray .int, 2) := by decide +kernel
theorem dX7_init_64 : decode cX7_init 64 = .ok (.putfield 37, 3) := by decide +kernel
theorem dX7_init_67 : decode cX7_init 67 = .ok (.aload_n 0, 1) := by decide +kernel
theorem dX7_init_68 : decode cX7_init 68 = .ok (.bipush 10, 2) := by decide +kernel
theorem dX7_init_70 : decode cX7_init 70 = .ok (.newarray .int, 2) := by decide +kernel
theorem dX7_init_72 : decode cX7_init 72 = .ok (.putfield 40, 3) := by decide +kernel
theorem dX7_init_75 : decode cX7_init 75 = .ok (.aload_n 0, 1) := by decide +kernel
theorem dX7_init_76 : decode cX7_init 76 = .ok (.bipush 10, 2) := by decide +kernel
theorem dX7_init_78 : decode cX7_init 78 = .ok (.newarray .int, 2) := by decide +kernel
theorem dX7_init_80 : decode cX7_init 80 = .ok (.putfield 43, 3) := by decide +kernel
theorem dX7_init_83 : decode cX7_init 83 = .ok (.aload_n 0, 1) := by decide +kernel
theorem dX7_init_84 : decode cX7_init 84 = .ok (.iconst 2, 1) := by decide +kernel
theorem dX7_init_85 : decode cX7_init 85 = .ok (.newarray .int, 2) := by decide +kernel
theorem dX7_init_87 : decode cX7_init 87 = .ok (.putfield 46, 3) := by decide +kernel
theorem dX7_init_90 : decode cX7_init 90 = .ok (.aload_n 0, 1) := by decide +kernel
theorem dX7_init_91 : decode cX7_init 91 = .ok (.iconst 4, 1) := by decide +kernel
theorem dX7_init_92 : decode cX7_init 92 = .ok (.newarray .int, 2) := by decide +kernel
theorem dX7_init_94 : decode cX7_init 94 = .ok (.putfield 49, 3) := by decide +kernel
theorem dX7_init_97 : decode cX7_init 97 = .ok (.aload_n 0, 1) := by decide +kernel
theorem dX7_init_98 : decode cX7_init 98 = .ok (.iconst 4, 1) := by decide +kernel
theorem dX7_init_99 : decode cX7_init 99 = .ok (.newarray .boolean, 2) := by decide +kernel
theorem dX7_init_101 : decode cX7_init 101 = .ok (.putfield 52, 3) := by decide +kernel
theorem dX7_init_104 : decode cX7_init 104 = .ok (.aload_n 0, 1) := by decide +kernel
theorem dX7_init_105 : decode cX7_init 105 = .ok (.iconst 3, 1) := by decide +kernel
theorem dX7_init_106 : decode cX7_init 106 = .ok (.anewarray 56, 3) := by decide +kernel
theorem dX7_init_109 : decode cX7_init 109 = .ok (.putfield 58, 3) := by decide +kernel
theorem dX7_init_112 : decode cX7_init 112 = .ok (.iconst 0, 1) := by decide +kernel
theorem dX7_init_113 : decode cX7_init 113 = .ok (.istore_n 1, 1) := by decide +kernel
theorem dX7_init_114 : decode cX7_init 114 = .ok (.iload_n 1, 1) := by decide +kernel
theorem dX7_init_115 : decode cX7_init 115 = .ok (.iconst 3, 1) := by decide +kernel
theorem dX7_init_116 : decode cX7_init 116 = .ok (.if_icmp .ge 22, 3) := by decide +kernel
theorem dX7_init_119 : decode cX7_init 119 = .ok (.aload_n 0, 1) := by decide +kernel
theorem dX7_init_120 : decode cX7_init 120 = .ok (.getfield 58, 3) := by decide +kernel
theorem dX7_init_123 : decode cX7_init 123 = .ok (.iload_n 1, 1) := by decide +kernel
theorem dX7_init_124 : decode cX7_init 124 = .ok (.new 56, 3) := by decide +kernel
theorem dX7_init_127 : decode cX7_init 127 = .ok (.dup, 1) := by decide +kernel
theorem dX7_init_128 : decode cX7_init 128 = .ok (.invokespecial 62, 3) := by decide +kernel
theorem dX7_init_131 : decode cX7_init 131 = .ok (.aastore, 1) := by decide +kernel
theorem dX7_init_132 : decode cX7_init 132 = .ok (.iinc 1 1, 3) := by decide +kernel
theorem dX7_init_135 : decode cX7_init 135 = .ok (.goto (-21), 3) := by decide +kernel
theorem dX7_init_138 : decode cX7_init 138 = .ok (.aload_n 0, 1) := by decide +kernel
theorem dX7_init_139 : decode cX7_init 139 = .ok (.invokevirtual 63, 3) := by decide +kernel
theorem dX7_init_142 : decode cX7_init 142 = .ok (.return_, 1) := by decide +kernel
theorem dX7_clear_0 : decode cX7_clear 0 = .ok (.aload_n 0, 1) := by decide +kernel
theorem dX7_clear_1 : decode cX7_clear 1 = .ok (.iconst 0, 1) := by decide +kernel
theorem dX7_clear_2 : decode cX7_clear 2 = .ok (.putfield 9, 3) := by decide +kernel
theorem dX7_clear_5 : decode cX7_clear 5 = .ok (.aload_n 0, 1) := by decide +kernel
theorem dX7_clear_6 : decode cX7_clear 6 = .ok (.iconst 0, 1) := by decide +kernel
theorem dX7_clear_7 : decode cX7_clear 7 = .ok (.putfield 15, 3) := by decide +kernel
theorem dX7_clear_10 : decode cX7_clear 10 = .ok (.aload_n 0, 1) := by decide +kernel
theorem dX7_clear_11 : decode cX7_clear 11 = .ok (.iconst 0, 1) := by decide +kernel
theorem dX7_clear_12 : decode cX7_clear 12 = .ok (.putfield 18, 3) := by decide +kernel
theorem dX7_clear_15 : decode cX7_clear 15 = .ok (.iconst 0, 1) := by decide +kernel
theorem dX7_clear_16 : decode cX7_clear 16 = .ok (.istore_n 1, 1) := by decide +kernel
theorem dX7_clear_17 : decode cX7_clear 17 = .ok (.iload_n 1, 1) := by decide +kernel
theorem dX7_clear_18 : decode cX7_clear 18 = .ok (.iconst 2, 1) := by decide +kernel
theorem dX7_clear_19 : decode cX7_clear 19 = .ok (.if_icmp .ge 16, 3) := by decide +kernel
theorem dX7_clear_22 : decode cX7_clear 22 = .ok (.aload_n 0, 1) := by decide +kernel
theorem dX7_clear_23 : decode cX7_clear 23 = .ok (.getfield 46, 3) := by decide +kernel
theorem dX7_clear_26 : decode cX7_clear 26 = .ok (.iload_n 1, 1) := by decide +kernel
theorem dX7_clear_27 : decode cX7_clear 27 = .ok (.iconst 0, 1) := by decide +kernel
theorem dX7_clear_28 : decode cX7_clear 28 = .ok (.iastore, 1) := by decide +kernel
theorem dX7_clear_29 : decode cX7_clear 29 = .ok (.iinc 1 1, 3) := by decide +kernel
theorem dX7_clear_32 : decode cX7_clear 32 = .ok (.goto (-15), 3) := by decide +kernel
theorem dX7_clear_35 : decode cX7_clear 35 = .ok (.iconst 0, 1) := by decide +kernel
theorem dX7_clear_36 : decode cX7_clear 36 = .ok (.istore_n 1, 1) := by decide +kernel
theorem dX7_clear_37 : decode cX7_clear 37 = .ok (.iload_n 1, 1) := by decide +kernel
theorem dX7_clear_38 : decode cX7_clear 38 = .ok (.iconst 4, 1) := by decide +kernel
theorem dX7_clear_39 : decode cX7_clear 39 = .ok (.if_icmp .ge 27, 3) := by decide +kernel
theorem dX7_clear_42 : decode cX7_clear 42 = .ok (.aload_n 0, 1) := by decide +kernel
theorem dX7_clear_43 : decode cX7_clear 43 = .ok (.getfield 49, 3) := by decide +kernel
theorem dX7_clear_46 : decode cX7_clear 46 = .ok (.iload_n 1, 1) := by decide +kernel
theorem dX7_clear_47 : decode cX7_clear 47 = .ok (.getstatic 66, 3) := by decide +kernel
theorem dX7_clear_50 : decode cX7_clear 50 = .ok (.iload_n 1, 1) := by decide +kernel
theorem dX7_clear_51 : decode cX7_clear 51 = .ok (.iaload, 1) := by decide +kernel
theorem dX7_clear_52 : decode cX7_clear 52 = .ok (.iastore, 1) := by decide +kernel
theorem dX7_clear_53 : decode cX7_clear 53 = .ok (.aload_n 0, 1) := by decide +kernel
theorem dX7_clear_54 : decode cX7_clear 54 = .ok (.getfield 52, 3) := by decide +kernel
theorem dX7_clear_57 : decode cX7_clear 57 = .ok (.iload_n 1, 1) := by decide +kernel
theorem dX7_clear_58 : decode cX7_clear 58 = .ok (.iconst 0, 1) := by decide +kernel
theorem dX7_clear_59 : decode cX7_clear 59 = .ok (.bastore, 1) := by decide +kernel
theorem dX7_clear_60 : decode cX7_clear 60 = .ok (.iinc 1 1, 3) := by decide +kernel
theorem dX7_clear_63 : decode cX7_clear 63 = .ok (.goto (-26), 3) := by decide +kernel
theorem dX7_clear_66 : decode cX7_clear 66 = .ok (.iconst 0, 1) := by decide +kernel
theorem dX7_clear_67 : decode cX7_clear 67 = .ok (.istore_n 1, 1) := by decide +kernel
theorem dX7_clear_68 : decode cX7_clear 68 = .ok (.iload_n 1, 1) := by decide +kernel
theorem dX7_clear_69 : decode cX7_clear 69 = .ok (.iconst 3, 1) := by decide +kernel
theorem dX7_clear_70 : decode cX7_clear 70 = .ok (.if_icmp .ge 18, 3) := by decide +kernel
theorem dX7_clear_73 : decode cX7_clear 73 = .ok (.aload_n 0, 1) := by decide +kernel
theorem dX7_clear_74 : decode cX7_clear 74 = .ok (.getfield 58, 3) := by decide +kernel
theorem dX7_clear_77 : decode cX7_clear 77 = .ok (.iload_n 1, 1) := by decide +kernel
theorem dX7_clear_78 : decode cX7_clear 78 = .ok (.aaload, 1) := by decide +kernel
theorem dX7_clear_79 : decode cX7_clear 79 = .ok (.invokevirtual 69, 3) := by decide +kernel
theorem dX7_clear_82 : decode cX7_clear 82 = .ok (.iinc 1 1, 3) := by decide +kernel
theorem dX7_clear_85 : decode cX7_clear 85 = .ok (.goto (-17), 3) := by decide +kernel
theorem dX7_clear_88 : decode cX7_clear 88 = .ok (.return_, 1) := by decide +kernel
theorem dX7_take_0 : decode cX7_take 0 = .ok (.aload_n 0, 1) := by decide +kernel
theorem dX7_take_1 : decode cX7_take 1 = .ok (.aload_n 1, 1) := by decide +kernel
theorem dX7_take_2 : decode cX7_take 2 = .ok (.getfield 9, 3) := by decide +kernel
theorem dX7_take_5 : decode cX7_take 5 = .ok (.putfield 9, 3) := by decide +kernel
theorem dX7_take_8 : decode cX7_take 8 = .ok (.aload_n 0, 1) := by decide +kernel
theorem dX7_take_9 : decode cX7_take 9 = .ok (.aload_n 1, 1) := by decide +kernel
theorem dX7_take_10 : decode cX7_take 10 = .ok (.getfield 15, 3) := by decide +kernel
theorem dX7_take_13 : decode cX7_take 13 = .ok (.putfield 15, 3) := by decide +kernel
theorem dX7_take_16 : decode cX7_take 16 = .ok (.aload_n 0, 1) := by decide +kernel
theorem dX7_take_17 : decode cX7_take 17 = .ok (.aload_n 1, 1) := by decide +kernel
theorem dX7_take_18 : decode cX7_take 18 = .ok (.getfield 18, 3) := by decide +kernel
theorem dX7_take_21 : decode cX7_take 21 = .ok (.putfield 18, 3) := by decide +kernel
theorem dX7_take_24 : decode cX7_take 24 = .ok (.aload_n 1, 1) := by decide +kernel
theorem dX7_take_25 : decode cX7_take 25 = .ok (.getfield 21, 3) := by decide +kernel
theorem dX7_take_28 : decode cX7_take 28 = .ok (.aload_n 0, 1) := by decide +kernel
theorem dX7_take_29 : decode cX7_take 29 = .ok (.getfield 21, 3) := by decide +kernel
theorem dX7_take_32 : decode cX7_take 32 = .ok (.invokestatic 70, 3) := by decide +kernel
theorem dX7_take_35 : decode cX7_take 35 = .ok (.aload_n 1, 1) := by decide +kernel
theorem dX7_take_36 : decode cX7_take 36 = .ok (.getfield 25, 3) := by decide +kernel
theorem dX7_take_39 : decode cX7_take 39 = .ok (.aload_n 0, 1) := by decide +kernel
theorem dX7_take_40 : decode cX7_take 40 = .ok (.getfield 25, 3) := by decide +kernel
theorem dX7_take_43 : decode cX7_take 43 = .ok (.invokestatic 70, 3) := by decide +kernel
theorem dX7_take_46 : decode cX7_take 46 = .ok (.aload_n 1, 1) := by decide +kernel
theorem dX7_take_47 : decode cX7_take 47 = .ok (.getfield 28, 3) := by decide +kernel
theorem dX7_take_50 : decode cX7_take 50 = .ok (.aload_n 0, 1) := by decide +kernel
theorem dX7_take_51 : decode cX7_take 51 = .ok (.getfield 28, 3) := by decide +kernel
theorem dX7_take_54 : decode cX7_take 54 = .ok (.invokestatic 70, 3) := by decide +kernel
theorem dX7_take_57 : decode cX7_take 57 = .ok (.aload_n 1, 1) := by decide +kernel
theorem dX7_take_58 : decode cX7_take 58 = .ok (.getfield 31, 3) := by decide +kernel
theorem dX7_take_61 : decode cX7_take 61 = .ok (.aload_n 0, 1) := by decide +kernel
theorem dX7_take_62 : decode cX7_take 62 = .ok (.getfield 31, 3) := by decide +kernel
theorem dX7_take_65 : decode cX7_take 65 = .ok (.invokestatic 70, 3) := by decide +kernel
theorem dX7_take_68 : decode cX7_take 68 = .ok (.aload_n 1, 1) := by decide +kernel
theorem dX7_take_69 : decode cX7_take 69 = .ok (.getfield 34, 3) := by decide +kernel
theorem dX7_take_72 : decode cX7_take 72 = .ok (.aload_n 0, 1) := by decide +kernel
theorem dX7_take_73 : decode cX7_take 73 = .ok (.getfield 34, 3) := by decide +kernel
theorem dX7_take_76 : decode cX7_take 76 = .ok (.invokestatic 70, 3) := by decide +kernel
theorem dX7_take_79 : decode cX7_take 79 = .ok (.aload_n 1, 1) := by decide +kernel
theorem dX7_take_80 : decode cX7_take 80 = .ok (.getfield 37, 3) := by decide +kernel
theorem dX7_take_83 : decode cX7_take 83 = .ok (.aload_n 0, 1) := by decide +kernel
theorem dX7_take_84 : decode cX7_take 84 = .ok (.getfield 37, 3) := by decide +kernel
theorem dX7_take_87 : decode cX7_take 87 = .ok (.invokestatic 70, 3) := by decide +kernel
theorem dX7_take_90 : decode cX7_take 90 = .ok (.aload_n 1, 1) := by decide +kernel
theorem dX7_take_91 : decode cX7_take 91 = .ok (.getfield 40, 3) := by decide +kernel
theorem dX7_take_94 : decode cX7_take 94 = .ok (.aload_n 0, 1) := by decide +kernel
theorem dX7_take_95 : decode cX7_take 95 = .ok (.getfield 40, 3) := by decide +kernel
theorem dX7_take_98 : decode cX7_take 98 = .ok (.invokestatic 70, 3) := by decide +kernel
theorem dX7_take_101 : decode cX7_take 101 = .ok (.aload_n 1, 1) := by decide +kernel
theorem dX7_take_102 : decode cX7_take 102 = .ok (.getfield 43, 3) := by decide +kernel
theorem dX7_take_105 : decode cX7_take 105 = .ok (.aload_n 0, 1) := by decide +kernel
theorem dX7_take_106 : decode cX7_take 106 = .ok (.getfield 43, 3) := by decide +kernel
theorem dX7_take_109 : decode cX7_take 109 = .ok (.invokestatic 70, 3) := by decide +kernel
theorem dX7_take_112 : decode cX7_take 112 = .ok (.aload_n 1, 1) := by decide +kernel
theorem dX7_take_113 : decode cX7_take 113 = .ok (.getfield 46, 3) := by decide +kernel
theorem dX7_take_116 : decode cX7_take 116 = .ok (.aload_n 0, 1) := by decide +kernel
theorem dX7_take_117 : decode cX7_take 117 = .ok (.getfield 46, 3) := by decide +kernel
theorem dX7_take_120 : decode cX7_take 120 = .ok (.invokestatic 70, 3) := by decide +kernel
theorem dX7_take_123 : decode cX7_take 123 = .ok (.aload_n 1, 1) := by decide +kernel
theorem dX7_take_124 : decode cX7_take 124 = .ok (.getfield 49, 3) := by decide +kernel
theorem dX7_take_127 : decode cX7_take 127 = .ok (.aload_n 0, 1) := by decide +kernel
theorem dX7_take_128 : decode cX7_take 128 = .ok (.getfield 49, 3) := by decide +kernel
theorem dX7_take_131 : decode cX7_take 131 = .ok (.invokestatic 70, 3) := by decide +kernel
theorem dX7_take_134 : decode cX7_take 134 = .ok (.iconst 0, 1) := by decide +kernel
theorem dX7_take_135 : decode cX7_take 135 = .ok (.istore_n 2, 1) := by decide +kernel
theorem dX7_take_136 : decode cX7_take 136 = .ok (.iload_n 2, 1) := by decide +kernel
theorem dX7_take_137 : decode cX7_take 137 = .ok (.iconst 3, 1) := by decide +kernel
theorem dX7_take_138 : decode cX7_take 138 = .ok (.if_icmp .ge 24, 3) := by decide +kernel
theorem dX7_take_141 : decode cX7_take 141 = .ok (.aload_n 0, 1) := by decide +kernel
theorem dX7_take_142 : decode cX7_take 142 = .ok (.getfield 58, 3) := by decide +kernel
theorem dX7_take_145 : decode cX7_take 145 = .ok (.iload_n 2, 1) := by decide +kernel
theorem dX7_take_146 : decode cX7_take 146 = .ok (.aaload, 1) := by decide +kernel
theorem dX7_take_147 : decode cX7_take 147 = .ok (.aload_n 1, 1) := by decide +kernel
theorem dX7_take_148 : decode cX7_take 148 = .ok (.getfield 58, 3) := by decide +kernel
theorem dX7_take_151 : decode cX7_take 151 = .ok (.iload_n 2, 1) := by decide +kernel
theorem dX7_take_152 : decode cX7_take 152 = .ok (.aaload, 1) := by decide +kernel
theorem dX7_take_153 : decode cX7_take 153 = .ok (.invokevirtual 74, 3) := by decide +kernel
theorem dX7_take_156 : decode cX7_take 156 = .ok (.iinc 2 1, 3) := by decide +kernel
theorem dX7_take_159 : decode cX7_take 159 = .ok (.goto (-23), 3) := by decide +kernel
theorem dX7_take_162 : decode cX7_take 162 = .ok (.return_, 1) := by decide +kernel
theorem dX7_addDoll_0 : decode cX7_addDoll 0 = .ok (.aload_n 0, 1) := by decide +kernel
theorem dX7_addDoll_1 : decode cX7_addDoll 1 = .ok (.getfield 34, 3) := by decide +kernel
theorem dX7_addDoll_4 : decode cX7_addDoll 4 = .ok (.aload_n 0, 1) := by decide +kernel
theorem dX7_addDoll_5 : decode cX7_addDoll 5 = .ok (.getfield 15, 3) := by decide +kernel
theorem dX7_addDoll_8 : decode cX7_addDoll 8 = .ok (.iload_n 1, 1) := by decide +kernel
theorem dX7_addDoll_9 : decode cX7_addDoll 9 = .ok (.iastore, 1) := by decide +kernel
theorem dX7_addDoll_10 : decode cX7_addDoll 10 = .ok (.aload_n 0, 1) := by decide +kernel
theorem dX7_addDoll_11 : decode cX7_addDoll 11 = .ok (.getfield 37, 3) := by decide +kernel
theorem dX7_addDoll_14 : decode cX7_addDoll 14 = .ok (.aload_n 0, 1) := by decide +kernel
theorem dX7_addDoll_15 : decode cX7_addDoll 15 = .ok (.getfield 15, 3) := by decide +kernel
theorem dX7_addDoll_18 : decode cX7_addDoll 18 = .ok (.iconst 1, 1) := by decide +kernel
theorem dX7_addDoll_19 : decode cX7_addDoll 19 = .ok (.aload_n 0, 1) := by decide +kernel
theorem dX7_addDoll_20 : decode cX7_addDoll 20 = .ok (.getfield 25, 3) := by decide +kernel
theorem dX7_addDoll_23 : decode cX7_addDoll 23 = .ok (.iload_n 1, 1) := by decide +kernel
theorem dX7_addDoll_24 : decode cX7_addDoll 24 = .ok (.iaload, 1) := by decide +kernel
theorem dX7_addDoll_25 : decode cX7_addDoll 25 = .ok (.isub, 1) := by decide +kernel
theorem dX7_addDoll_26 : decode cX7_addDoll 26 = .ok (.iastore, 1) := by decide +kernel
theorem dX7_addDoll_27 : decode cX7_addDoll 27 = .ok (.aload_n 0, 1) := by decide +kernel
theorem dX7_addDoll_28 : decode cX7_addDoll 28 = .ok (.getfield 46, 3) := by decide +kernel
theorem dX7_addDoll_31 : decode cX7_addDoll 31 = .ok (.aload_n 0, 1) := by decide +kernel
theorem dX7_addDoll_32 : decode cX7_addDoll 32 = .ok (.getfield 37, 3) := by decide +kernel
theorem dX7_addDoll_35 : decode cX7_addDoll 35 = .ok (.aload_n 0, 1) := by decide +kernel
theorem dX7_addDoll_36 : decode cX7_addDoll 36 = .ok (.getfield 15, 3) := by decide +kernel
theorem dX7_addDoll_39 : decode cX7_addDoll 39 = .ok (.iaload, 1) := by decide +kernel
theorem dX7_addDoll_40 : decode cX7_addDoll 40 = .ok (.dup2, 1) := by decide +kernel
theorem dX7_addDoll_41 : decode cX7_addDoll 41 = .ok (.iaload, 1) := by decide +kernel
theorem dX7_addDoll_42 : decode cX7_addDoll 42 = .ok (.iconst 1, 1) := by decide +kernel
theorem dX7_addDoll_43 : decode cX7_addDoll 43 = .ok (.aload_n 0, 1) := by decide +kernel
theorem dX7_addDoll_44 : decode cX7_addDoll 44 = .ok (.getfield 15, 3) := by decide +kernel
theorem dX7_addDoll_47 : decode cX7_addDoll 47 = .ok (.ishl, 1) := by decide +kernel
theorem dX7_addDoll_48 : decode cX7_addDoll 48 = .ok (.ior, 1) := by decide +kernel
theorem dX7_addDoll_49 : decode cX7_addDoll 49 = .ok (.iastore, 1) := by decide +kernel
theorem dX7_addDoll_50 : decode cX7_addDoll 50 = .ok (.aload_n 0, 1) := by decide +kernel
theorem dX7_addDoll_51 : decode cX7_addDoll 51 = .ok (.dup, 1) := by decide +kernel
theorem dX7_addDoll_52 : decode cX7_addDoll 52 = .ok (.getfield 15, 3) := by decide +kernel
theorem dX7_addDoll_55 : decode cX7_addDoll 55 = .ok (.iconst 1, 1) := by decide +kernel
theorem dX7_addDoll_56 : decode cX7_addDoll 56 = .ok (.iadd, 1) := by decide +kernel
theorem dX7_addDoll_57 : decode cX7_addDoll 57 = .ok (.putfield 15, 3) := by decide +kernel
theorem dX7_addDoll_60 : decode cX7_addDoll 60 = .ok (.return_, 1) := by decide +kernel
theorem dX7_sumOf_0 : decode cX7_sumOf 0 = .ok (.iconst 0, 1) := by decide +kernel
theorem dX7_sumOf_1 : decode cX7_sumOf 1 = .ok (.istore_n 3, 1) := by decide +kernel
theorem dX7_sumOf_2 : decode cX7_sumOf 2 = .ok (.iconst 0, 1) := by decide +kernel
theorem dX7_sumOf_3 : decode cX7_sumOf 3 = .ok (.istore 4, 2) := by decide +kernel
theorem dX7_sumOf_5 : decode cX7_sumOf 5 = .ok (.iload 4, 2) := by decide +kernel
theorem dX7_sumOf_7 : decode cX7_sumOf 7 = .ok (.aload_n 0, 1) := by decide +kernel
theorem dX7_sumOf_8 : decode cX7_sumOf 8 = .ok (.getfield 15, 3) := by decide +kernel
theorem dX7_sumOf_11 : decode cX7_sumOf 11 = .ok (.if_icmp .ge 26, 3) := by decide +kernel
theorem dX7_sumOf_14 : decode cX7_sumOf 14 = .ok (.iload_n 2, 1) := by decide +kernel
theorem dX7_sumOf_15 : decode cX7_sumOf 15 = .ok (.iload 4, 2) := by decide +kernel
theorem dX7_sumOf_17 : decode cX7_sumOf 17 = .ok (.ishr, 1) := by decide +kernel
theorem dX7_sumOf_18 : decode cX7_sumOf 18 = .ok (.iconst 1, 1) := by decide +kernel
theorem dX7_sumOf_19 : decode cX7_sumOf 19 = .ok (.iand, 1) := by decide +kernel
theorem dX7_sumOf_20 : decode cX7_sumOf 20 = .ok (.iconst 1, 1) := by decide +kernel
theorem dX7_sumOf_21 : decode cX7_sumOf 21 = .ok (.if_icmp .ne 10, 3) := by decide +kernel
theorem dX7_sumOf_24 : decode cX7_sumOf 24 = .ok (.iload_n 3, 1) := by decide +kernel
theorem dX7_sumOf_25 : decode cX7_sumOf 25 = .ok (.aload_n 1, 1) := by decide +kernel
theorem dX7_sumOf_26 : decode cX7_sumOf 26 = .ok (.iload 4, 2) := by decide +kernel
theorem dX7_sumOf_28 : decode cX7_sumOf 28 = .ok (.iaload, 1) := by decide +kernel
theorem dX7_sumOf_29 : decode cX7_sumOf 29 = .ok (.iadd, 1) := by decide +kernel
theorem dX7_sumOf_30 : decode cX7_sumOf 30 = .ok (.istore_n 3, 1) := by decide +kernel
theorem dX7_sumOf_31 : decode cX7_sumOf 31 = .ok (.iinc 4 1, 3) := by decide +kernel
theorem dX7_sumOf_34 : decode cX7_sumOf 34 = .ok (.goto (-29), 3) := by decide +kernel
theorem dX7_sumOf_37 : decode cX7_sumOf 37 = .ok (.iload_n 3, 1) := by decide +kernel
theorem dX7_sumOf_38 : decode cX7_sumOf 38 = .ok (.ireturn, 1) := by decide +kernel
theorem dX8_init_0 : decode cX8_init 0 = .ok (.aload_n 0, 1) := by decide +kernel
theorem dX8_init_1 : decode cX8_init 1 = .ok (.invokespecial 3, 3) := by decide +kernel
theorem dX8_init_4 : decode cX8_init 4 = .ok (.aload_n 0, 1) := by decide +kernel
theorem dX8_init_5 : decode cX8_init 5 = .ok (.iconst 0, 1) := by decide +kernel
theorem dX8_init_6 : decode cX8_init 6 = .ok (.putfield 9, 3) := by decide +kernel
theorem dX8_init_9 : decode cX8_init 9 = .ok (.aload_n 0, 1) := by decide +kernel
theorem dX8_init_10 : decode cX8_init 10 = .ok (.iconst 0, 1) := by decide +kernel
theorem dX8_init_11 : decode cX8_init 11 = .ok (.putfield 15, 3) := by decide +kernel
theorem dX8_init_14 : decode cX8_init 14 = .ok (.aload_n 0, 1) := by decide +kernel
theorem dX8_init_15 : decode cX8_init 15 = .ok (.iconst 0, 1) := by decide +kernel
theorem dX8_init_16 : decode cX8_init 16 = .ok (.putfield 18, 3) := by decide +kernel
theorem dX8_init_19 : decode cX8_init 19 = .ok (.aload_n 0, 1) := by decide +kernel
theorem dX8_init_20 : decode cX8_init 20 = .ok (.lconst 0, 1) := by decide +kernel
theorem dX8_init_21 : decode cX8_init 21 = .ok (.putfield 21, 3) := by decide +kernel
theorem dX8_init_24 : decode cX8_init 24 = .ok (.aload_n 0, 1) := by decide +kernel
theorem dX8_init_25 : decode cX8_init 25 = .ok (.bipush 10, 2) := by decide +kernel
theorem dX8_init_27 : decode cX8_init 27 = .ok (.newarray .int, 2) := by decide +kernel
theorem dX8_init_29 : decode cX8_init 29 = .ok (.putfield 25, 3) := by decide +kernel
theorem dX8_init_32 : decode cX8_init 32 = .ok (.aload_n 0, 1) := by decide +kernel
theorem dX8_init_33 : decode cX8_init 33 = .ok (.bipush 10, 2) := by decide +kernel
theorem dX8_init_35 : decode cX8_init 35 = .ok (.newarray .int, 2) := by decide +kernel
theorem dX8_init_37 : decode cX8_init 37 = .ok (.putfield 29, 3) := by decide +kernel
theorem dX8_init_40 : decode cX8_init 40 = .ok (.aload_n 0, 1) := by decide +kernel
theorem dX8_init_41 : decode cX8_init 41 = .ok (.bipush 10, 2) := by decide +kernel
theorem dX8_init_43 : decode cX8_init 43 = .ok (.newarray .int, 2) := by decide +kernel
theorem dX8_init_45 : decode cX8_init 45 = .ok (.putfield 32, 3) := by decide +kernel
theorem dX8_init_48 : decode cX8_init 48 = .ok (.aload_n 0, 1) := by decide +kernel
theorem dX8_init_49 : decode cX8_init 49 = .ok (.bipush 6, 2) := by decide +kernel
theorem dX8_init_51 : decode cX8_init 51 = .ok (.newarray .int, 2) := by decide +kernel
theorem dX8_init_53 : decode cX8_init 53 = .ok (.putfield 35, 3) := by decide +kernel
theorem dX8_init_56 : decode cX8_init 56 = .ok (.aload_n 0, 1) := by decide +kernel
theorem dX8_init_57 : decode cX8_init 57 = .ok (.iconst 2, 1) := by decide +kernel
theorem dX8_init_58 : decode cX8_init 58 = .ok (.newarray .int, 2) := by decide +kernel
theorem dX8_init_60 : decode cX8_init 60 = .ok (.putfield 38, 3) := by decide +kernel
theorem dX8_init_63 : decode cX8_init 63 = .ok (.aload_n 0, 1) := by decide +kernel
theorem dX8_init_64 : decode cX8_init 64 = .ok (.iconst 2, 1) := by decide +kernel
theorem dX8_init_65 : decode cX8_init 65 = .ok (.newarray .int, 2) := by decide +kernel
theorem dX8_init_67 : decode cX8_init 67 = .ok (.putfield 41, 3) := by decide +kernel
theorem dX8_init_70 : decode cX8_init 70 = .ok (.aload_n 0, 1) := by decide +kernel
theorem dX8_init_71 : decode cX8_init 71 = .ok (.bipush 7, 2) := by decide +kernel
theorem dX8_init_73 : decode cX8_init 73 = .ok (.newarray .int, 2) := by decide +kernel
theorem dX8_init_75 : decode cX8_init 75 = .ok (.putfield 44, 3) := by decide +kernel
theorem dX8_init_78 : decode cX8_init 78 = .ok (.aload_n 0, 1) := by decide +kernel
theorem dX8_init_79 : decode cX8_init 79 = .ok (.iconst 0, 1) := by decide +kernel
theorem dX8_init_80 : decode cX8_init 80 = .ok (.putfield 47, 3) := by decide +kernel
theorem dX8_init_83 : decode cX8_init 83 = .ok (.aload_n 0, 1) := by decide +kernel
theorem dX8_init_84 : decode cX8_init 84 = .ok (.aload_n 1, 1) := by decide +kernel
theorem dX8_init_85 : decode cX8_init 85 = .ok (.putfield 50, 3) := by decide +kernel
theorem dX8_init_88 : decode cX8_init 88 = .ok (.return_, 1) := by decide +kernel
theorem dX8_begin_0 : decode cX8_begin 0 = .ok (.aload_n 0, 1) := by decide +kernel
theorem dX8_begin_1 : decode cX8_begin 1 = .ok (.iconst 0, 1) := by decide +kernel
theorem dX8_begin_2 : decode cX8_begin 2 = .ok (.putfield 9, 3) := by decide +kernel
theorem dX8_begin_5 : decode cX8_begin 5 = .ok (.aload_n 0, 1) := by decide +kernel
theorem dX8_begin_6 : decode cX8_begin 6 = .ok (.iconst 1, 1) := by decide +kernel
theorem dX8_begin_7 : decode cX8_begin 7 = .ok (.aload_n 0, 1) := by decide +kernel
theorem dX8_begin_8 : decode cX8_begin 8 = .ok (.getfield 50, 3) := by decide +kernel
theorem dX8_begin_11 : decode cX8_begin 11 = .ok (.getfield 54, 3) := by decide +kernel
theorem dX8_begin_14 : decode cX8_begin 14 = .ok (.ishl, 1) := by decide +kernel
theorem dX8_begin_15 : decode cX8_begin 15 = .ok (.iconst 1, 1) := by decide +kernel
theorem dX8_begin_16 : decode cX8_begin 16 = .ok (.isub, 1) := by decide +kernel
theorem dX8_begin_17 : decode cX8_begin 17 = .ok (.putfield 15, 3) := by decide +kernel
theorem dX8_begin_20 : decode cX8_begin 20 = .ok (.aload_n 0, 1) := by decide +kernel
theorem dX8_begin_21 : decode cX8_begin 21 = .ok (.iconst 0, 1) := by decide +kernel
theorem dX8_begin_22 : decode cX8_begin 22 = .ok (.putfield 18, 3) := by decide +kernel
theorem dX8_begin_25 : decode cX8_begin 25 = .ok (.aload_n 0, 1) := by decide +kernel
theorem dX8_begin_26 : decode cX8_begin 26 = .ok (.aload_n 0, 1) := by decide +kernel
theorem dX8_begin_27 : decode cX8_begin 27 = .ok (.getfield 50, 3) := by decide +kernel
theorem dX8_begin_30 : decode cX8_begin 30 = .ok (.getfield 59, 3) := by decide +kernel
theorem dX8_begin_33 : decode cX8_begin 33 = .ok (.iconst 3, 1) := by decide +kernel
theorem dX8_begin_34 : decode cX8_begin 34 = .ok (.iaload, 1) := by decide +kernel
theorem dX8_begin_35 : decode cX8_begin 35 = .ok (.i2l, 1) := by decide +kernel
theorem dX8_begin_36 : decode cX8_begin 36 = .ok (.putfield 21, 3) := by decide +kernel
theorem dX8_begin_39 : decode cX8_begin 39 = .ok (.aload_n 0, 1) := by decide +kernel
theorem dX8_begin_40 : decode cX8_begin 40 = .ok (.getfield 50, 3) := by decide +kernel
theorem dX8_begin_43 : decode cX8_begin 43 = .ok (.getfield 62, 3) := by decide +kernel
theorem dX8_begin_46 : decode cX8_begin 46 = .ok (.aload_n 0, 1) := by decide +kernel
theorem dX8_begin_47 : decode cX8_begin 47 = .ok (.getfield 25, 3) := by decide +kernel
theorem dX8_begin_50 : decode cX8_begin 50 = .ok (.invokestatic 65, 3) := by decide +kernel
theorem dX8_begin_53 : decode cX8_begin 53 = .ok (.aload_n 0, 1) := by decide +kernel
theorem dX8_begin_54 : decode cX8_begin 54 = .ok (.getfield 50, 3) := by decide +kernel
theorem dX8_begin_57 : decode cX8_begin 57 = .ok (.getfield 69, 3) := by decide +kernel
theorem dX8_begin_60 : decode cX8_begin 60 = .ok (.aload_n 0, 1) := by decide +kernel
theorem dX8_begin_61 : decode cX8_begin 61 = .ok (.getfield 35, 3) := by decide +kernel
theorem dX8_begin_64 : decode cX8_begin 64 = .ok (.invokestatic 65, 3) := by decide +kernel
theorem dX8_begin_67 : decode cX8_begin 67 = .ok (.iconst 0, 1) := by decide +kernel
theorem dX8_begin_68 : decode cX8_begin 68 = .ok (.istore_n 1, 1) := by decide +kernel
theorem dX8_begin_69 : decode cX8_begin 69 = .ok (.iload_n 1, 1) := by decide +kernel
theorem dX8_begin_70 : decode cX8_begin 70 = .ok (.bipush 10, 2) := by decide +kernel
theorem dX8_begin_72 : decode cX8_begin 72 = .ok (.if_icmp .ge 23, 3) := by decide +kernel
theorem dX8_begin_75 : decode cX8_begin 75 = .ok (.aload_n 0, 1) := by decide +kernel
theorem dX8_begin_76 : decode cX8_begin 76 = .ok (.getfield 29, 3) := by decide +kernel
theorem dX8_begin_79 : decode cX8_begin 79 = .ok (.iload_n 1, 1) := by decide +kernel
theorem dX8_begin_80 : decode cX8_begin 80 = .ok (.iconst 0, 1) := by decide +kernel
theorem dX8_begin_81 : decode cX8_begin 81 = .ok (.iastore, 1) := by decide +kernel
theorem dX8_begin_82 : decode cX8_begin 82 = .ok (.aload_n 0, 1) := by decide +kernel
theorem dX8_begin_83 : decode cX8_begin 83 = .ok (.getfield 32, 3) := by decide +kernel
theorem dX8_begin_86 : decode cX8_begin 86 = .ok (.iload_n 1, 1) := by decide +kernel
theorem dX8_begin_87 : decode cX8_begin 87 = .ok (.iconst 0, 1) := by decide +kernel
theorem dX8_begin_88 : decode cX8_begin 88 = .ok (.iastore, 1) := by decide +kernel
theorem dX8_begin_89 : decode cX8_begin 89 = .ok (.iinc 1 1, 3) := by decide +kernel
theorem dX8_begin_92 : decode cX8_begin 92 = .ok (.goto (-23), 3) := by decide +kernel
theorem dX8_begin_95 : decode cX8_begin 95 = .ok (.iconst 0, 1) := by decide +kernel
theorem dX8_begin_96 : decode cX8_begin 96 = .ok (.istore_n 1, 1) := by decide +kernel
theorem dX8_begin_97 : decode cX8_begin 97 = .ok (.iload_n 1, 1) := by decide +kernel
theorem dX8_begin_98 : decode cX8_begin 98 = .ok (.iconst 2, 1) := by decide +kernel
theorem dX8_begin_99 : decode cX8_begin 99 = .ok (.if_icmp .ge 23, 3) := by decide +kernel
theorem dX8_begin_102 : decode cX8_begin 102 = .ok (.aload_n 0, 1) := by decide +kernel
theorem dX8_begin_103 : decode cX8_begin 103 = .ok (.getfield 38, 3) := by decide +kernel
theorem dX8_begin_106 : decode cX8_begin 106 = .ok (.iload_n 1, 1) := by decide +kernel
theorem dX8_begin_107 : decode cX8_begin 107 = .ok (.iconst 0, 1) := by decide +kernel
theorem dX8_begin_108 : decode cX8_begin 108 = .ok (.iastore, 1) := by decide +kernel
theorem dX8_begin_109 : decode cX8_begin 109 = .ok (.aload_n 0, 1) := by decide +kernel
theorem dX8_begin_110 : decode cX8_begin 110 = .ok (.getfield 41, 3) := by decide +kernel
theorem dX8_begin_113 : decode cX8_begin 113 = .ok (.iload_n 1, 1) := by decide +kernel
theorem dX8_begin_114 : decode cX8_begin 114 = .ok (.iconst 0, 1) := by decide +kernel
theorem dX8_begin_115 : decode cX8_begin 115 = .ok (.iastore, 1) := by decide +kernel
theorem dX8_begin_116 : decode cX8_begin 116 = .ok (.iinc 1 1, 3) := by decide +kernel
theorem dX8_begin_119 : decode cX8_begin 119 = .ok (.goto (-22), 3) := by decide +kernel
theorem dX8_begin_122 : decode cX8_begin 122 = .ok (.return_, 1) := by decide +kernel
theorem dX8_take_0 : decode cX8_take 0 = .ok (.aload_n 0, 1) := by decide +kernel
theorem dX8_take_1 : decode cX8_take 1 = .ok (.aload_n 1, 1) := by decide +kernel
theorem dX8_take_2 : decode cX8_take 2 = .ok (.getfield 9, 3) := by decide +kernel
theorem dX8_take_5 : decode cX8_take 5 = .ok (.putfield 9, 3) := by decide +kernel
theorem dX8_take_8 : decode cX8_take 8 = .ok (.aload_n 0, 1) := by decide +kernel
theorem dX8_take_9 : decode cX8_take 9 = .ok (.aload_n 1, 1) := by decide +kernel
theorem dX8_take_10 : decode cX8_take 10 = .ok (.getfield 15, 3) := by decide +kernel
theorem dX8_take_13 : decode cX8_take 13 = .ok (.putfield 15, 3) := by decide +kernel
theorem dX8_take_16 : decode cX8_take 16 = .ok (.aload_n 0, 1) := by decide +kernel
theorem dX8_take_17 : decode cX8_take 17 = .ok (.aload_n 1, 1) := by decide +kernel
theorem dX8_take_18 : decode cX8_take 18 = .ok (.getfield 18, 3) := by decide +kernel
theorem dX8_take_21 : decode cX8_take 21 = .ok (.putfield 18, 3) := by decide +kernel
theorem dX8_take_24 : decode cX8_take 24 = .ok (.aload_n 0, 1) := by decide +kernel
theorem dX8_take_25 : decode cX8_take 25 = .ok (.aload_n 1, 1) := by decide +kernel
theorem dX8_take_26 : decode cX8_take 26 = .ok (.getfield 21, 3) := by decide +kernel
theorem dX8_take_29 : decode cX8_take 29 = .ok (.putfield 21, 3) := by decide +kernel
theorem dX8_take_32 : decode cX8_take 32 = .ok (.aload_n 1, 1) := by decide +kernel
theorem dX8_take_33 : decode cX8_take 33 = .ok (.getfield 25, 3) := by decide +kernel
theorem dX8_take_36 : decode cX8_take 36 = .ok (.aload_n 0, 1) := by decide +kernel
theorem dX8_take_37 : decode cX8_take 37 = .ok (.getfield 25, 3) := by decide +kernel
theorem dX8_take_40 : decode cX8_take 40 = .ok (.invokestatic 65, 3) := by decide +kernel
theorem dX8_take_43 : decode cX8_take 43 = .ok (.aload_n 1, 1) := by decide +kernel
theorem dX8_take_44 : decode cX8_take 44 = .ok (.getfield 29, 3) := by decide +kernel
theorem dX8_take_47 : decode cX8_take 47 = .ok (.aload_n 0, 1) := by decide +kernel
theorem dX8_take_48 : decode cX8_take 48 = .ok (.getfield 29, 3) := by decide +kernel
theorem dX8_take_51 : decode cX8_take 51 = .ok (.invokestatic 65, 3) := by decide +kernel
theorem dX8_take_54 : decode cX8_take 54 = .ok (.aload_n 1, 1) := by decide +kernel
theorem dX8_take_55 : decode cX8_take 55 = .ok (.getfield 32, 3) := by decide +kernel
theorem dX8_take_58 : decode cX8_take 58 = .ok (.aload_n 0, 1) := by decide +kernel
theorem dX8_take_59 : decode cX8_take 59 = .ok (.getfield 32, 3) := by decide +kernel
theorem dX8_take_62 : decode cX8_take 62 = .ok (.invokestatic 65, 3) := by decide +kernel
theorem dX8_take_65 : decode cX8_take 65 = .ok (.aload_n 1, 1) := by decide +kernel
theorem dX8_take_66 : decode cX8_take 66 = .ok (.getfield 35, 3) := by decide +kernel
theorem dX8_take_69 : decode cX8_take 69 = .ok (.aload_n 0, 1) := by decide +kernel
theorem dX8_take_70 : decode cX8_take 70 = .ok (.getfield 35, 3) := by decide +kernel
theorem dX8_take_73 : decode cX8_take 73 = .ok (.invokestatic 65, 3) := by decide +kernel
theorem dX8_take_76 : decode cX8_take 76 = .ok (.aload_n 1, 1) := by decide +kernel
theorem dX8_take_77 : decode cX8_take 77 = .ok (.getfield 38, 3) := by decide +kernel
theorem dX8_take_80 : decode cX8_take 80 = .ok (.aload_n 0, 1) := by decide +kernel
theorem dX8_take_81 : decode cX8_take 81 = .ok (.getfield 38, 3) := by decide +kernel
theorem dX8_take_84 : decode cX8_take 84 = .ok (.invokestatic 65, 3) := by decide +kernel
theorem dX8_take_87 : decode cX8_take 87 = .ok (.aload_n 1, 1) := by decide +kernel
theorem dX8_take_88 : decode cX8_take 88 = .ok (.getfield 41, 3) := by decide +kernel
theorem dX8_take_91 : decode cX8_take 91 = .ok (.aload_n 0, 1) := by decide +kernel
theorem dX8_take_92 : decode cX8_take 92 = .ok (.getfield 41, 3) := by decide +kernel
theorem dX8_take_95 : decode cX8_take 95 = .ok (.invokestatic 65, 3) := by decide +kernel
theorem dX8_take_98 : decode cX8_take 98 = .ok (.return_, 1) := by decide +kernel
theorem dX8_run_0 : decode cX8_run 0 = .ok (.iconst 0, 1) := by decide +kernel
theorem dX8_run_1 : decode cX8_run 1 = .ok (.istore_n 3, 1) := by decide +kernel
theorem dX8_run_2 : decode cX8_run 2 = .ok (.iload_n 3, 1) := by decide +kernel
theorem dX8_run_3 : decode cX8_run 3 = .ok (.iload_n 1, 1) := by decide +kernel
theorem dX8_run_4 : decode cX8_run 4 = .ok (.if_icmp .ge 70, 3) := by decide +kernel
theorem dX8_run_7 : decode cX8_run 7 = .ok (.aload_n 0, 1) := by decide +kernel
theorem dX8_run_8 : decode cX8_run 8 = .ok (.iconst 0, 1) := by decide +kernel
theorem dX8_run_9 : decode cX8_run 9 = .ok (.putfield 47, 3) := by decide +kernel
theorem dX8_run_12 : decode cX8_run 12 = .ok (.iload_n 2, 1) := by decide +kernel
theorem dX8_run_13 : decode cX8_run 13 = .ok (.iconst 2, 1) := by decide +kernel
theorem dX8_run_14 : decode cX8_run 14 = .ok (.iand, 1) := by decide +kernel
theorem dX8_run_15 : decode cX8_run 15 = .ok (.ifCond .ne 18, 3) := by decide +kernel
theorem dX8_run_18 : decode cX8_run 18 = .ok (.aload_n 0, 1) := by decide +kernel
theorem dX8_run_19 : decode cX8_run 19 = .ok (.iload_n 2, 1) := by decide +kernel
theorem dX8_run_20 : decode cX8_run 20 = .ok (.iconst 1, 1) := by decide +kernel
theorem dX8_run_21 : decode cX8_run 21 = .ok (.iand, 1) := by decide +kernel
theorem dX8_run_22 : decode cX8_run 22 = .ok (.ifCond .eq 7, 3) := by decide +kernel
theorem dX8_run_25 : decode cX8_run 25 = .ok (.iconst 1, 1) := by decide +kernel
theorem dX8_run_26 : decode cX8_run 26 = .ok (.goto 4, 3) := by decide +kernel
theorem dX8_run_29 : decode cX8_run 29 = .ok (.iconst 0, 1) := by decide +kernel
theorem dX8_run_30 : decode cX8_run 30 = .ok (.invokevirtual 72, 3) := by decide +kernel
theorem dX8_run_33 : decode cX8_run 33 = .ok (.iload_n 2, 1) := by decide +kernel
theorem dX8_run_34 : decode cX8_run 34 = .ok (.iconst 4, 1) := by decide +kernel
theorem dX8_run_35 : decode cX8_run 35 = .ok (.iand, 1) := by decide +kernel
theorem dX8_run_36 : decode cX8_run 36 = .ok (.ifCond .ne 7, 3) := by decide +kernel
theorem dX8_run_39 : decode cX8_run 39 = .ok (.aload_n 0, 1) := by decide +kernel
theorem dX8_run_40 : decode cX8_run 40 = .ok (.invokevirtual 76, 3) := by decide +kernel
theorem dX8_run_43 : decode cX8_run 43 = .ok (.iload_n 2, 1) := by decide +kernel
theorem dX8_run_44 : decode cX8_run 44 = .ok (.bipush 8, 2) := by decide +kernel
theorem dX8_run_46 : decode cX8_run 46 = .ok (.iand, 1) := by decide +kernel
theorem dX8_run_47 : decode cX8_run 47 = .ok (.ifCond .ne 7, 3) := by decide +kernel
theorem dX8_run_50 : decode cX8_run 50 = .ok (.aload_n 0, 1) := by decide +kernel
theorem dX8_run_51 : decode cX8_run 51 = .ok (.invokevirtual 79, 3) := by decide +kernel
theorem dX8_run_54 : decode cX8_run 54 = .ok (.aload_n 0, 1) := by decide +kernel
theorem dX8_run_55 : decode cX8_run 55 = .ok (.invokevirtual 82, 3) := by decide +kernel
theorem dX8_run_58 : decode cX8_run 58 = .ok (.aload_n 0, 1) := by decide +kernel
theorem dX8_run_59 : decode cX8_run 59 = .ok (.dup, 1) := by decide +kernel
theorem dX8_run_60 : decode cX8_run 60 = .ok (.getfield 9, 3) := by decide +kernel
theorem dX8_run_63 : decode cX8_run 63 = .ok (.iconst 1, 1) := by decide +kernel
theorem dX8_run_64 : decode cX8_run 64 = .ok (.iadd, 1) := by decide +kernel
theorem dX8_run_65 : decode cX8_run 65 = .ok (.putfield 9, 3) := by decide +kernel
theorem dX8_run_68 : decode cX8_run 68 = .ok (.iinc 3 1, 3) := by decide +kernel
theorem dX8_run_71 : decode cX8_run 71 = .ok (.goto (-69), 3) := by decide +kernel
theorem dX8_run_74 : decode cX8_run 74 = .ok (.return_, 1) := by decide +kernel
theorem dX8_letMothsCome_0 : decode cX8_letMothsCome 0 = .ok (.iconst 0, 1) := by decide +kernel
theorem dX8_letMothsCome_1 : decode cX8_letMothsCome 1 = .ok (.istore_n 2, 1) := by decide +kernel
theorem dX8_letMothsCome_2 : decode cX8_letMothsCome 2 = .ok (.iload_n 2, 1) := by decide +kernel
theorem dX8_letMothsCome_3 : decode cX8_letMothsCome 3 = .ok (.aload_n 0, 1) := by decide +kernel
theorem dX8_letMothsCome_4 : decode cX8_letMothsCome 4 = .ok (.getfield 50, 3) := by decide +kernel
theorem dX8_letMothsCome_7 : decode cX8_letMothsCome 7 = .ok (.getfield 54, 3) := by decide +kernel
theorem dX8_letMothsCome_10 : decode cX8_letMothsCome 10 = .ok (.if_icmp .ge 64, 3) := by decide +kernel
theorem dX8_letMothsCome_13 : decode cX8_letMothsCome 13 = .ok (.aload_n 0, 1) := by decide +kernel
theorem dX8_letMothsCome_14 : decode cX8_letMothsCome 14 = .ok (.iload_n 2, 1) := by decide +kernel
theorem dX8_letMothsCome_15 : decode cX8_letMothsCome 15 = .ok (.invokevirtual 85, 3) := by decide +kernel
theorem dX8_letMothsCome_18 : decode cX8_letMothsCome 18 = .ok (.ifCond .eq 50, 3) := by decide +kernel
theorem dX8_letMothsCome_21 : decode cX8_letMothsCome 21 = .ok (.aload_n 0, 1) := by decide +kernel
theorem dX8_letMothsCome_22 : decode cX8_letMothsCome 22 = .ok (.iload_n 2, 1) := by decide +kernel
theorem dX8_letMothsCome_23 : decode cX8_letMothsCome 23 = .ok (.aload_n 0, 1) := by decide +kernel
theorem dX8_letMothsCome_24 : decode cX8_letMothsCome 24 = .ok (.iload_n 2, 1) := by decide +kernel
theorem dX8_letMothsCome_25 : decode cX8_letMothsCome 25 = .ok (.invokevirtual 89, 3) := by decide +kernel
theorem dX8_letMothsCome_28 : decode cX8_letMothsCome 28 = .ok (.invokevirtual 93, 3) := by decide +kernel
theorem dX8_letMothsCome_31 : decode cX8_letMothsCome 31 = .ok (.istore_n 3, 1) := by decide +kernel
theorem dX8_letMothsCome_32 : decode cX8_letMothsCome 32 = .ok (.iload_n 1, 1) := by decide +kernel
theorem dX8_letMothsCome_33 : decode cX8_letMothsCome 33 = .ok (.ifCond .eq 14, 3) := by decide +kernel
theorem dX8_letMothsCome_36 : decode cX8_letMothsCome 36 = .ok (.aload_n 0, 1) := by decide +kernel
theorem dX8_letMothsCome_37 : decode cX8_letMothsCome 37 = .ok (.iload_n 3, 1) := by decide +kernel
theorem dX8_letMothsCome_38 : decode cX8_letMothsCome 38 = .ok (.invokevirtual 97, 3) := by decide +kernel
theorem dX8_letMothsCome_41 : decode cX8_letMothsCome 41 = .ok (.ifCond .eq 27, 3) := by decide +kernel
theorem dX8_letMothsCome_44 : decode cX8_letMothsCome 44 = .ok (.goto 9, 3) := by decide +kernel
theorem dX8_letMothsCome_47 : decode cX8_letMothsCome 47 = .ok (.iload_n 3, 1) := by decide +kernel
theorem dX8_letMothsCome_48 : decode cX8_letMothsCome 48 = .ok (.bipush 50, 2) := by decide +kernel
theorem dX8_letMothsCome_50 : decode cX8_letMothsCome 50 = .ok (.if_icmp .lt 18, 3) := by decide +kernel
theorem dX8_letMothsCome_53 : decode cX8_letMothsCome 53 = .ok (.aload_n 0, 1) := by decide +kernel
theorem dX8_letMothsCome_54 : decode cX8_letMothsCome 54 = .ok (.dup, 1) := by decide +kernel
theorem dX8_letMothsCome_55 : decode cX8_letMothsCome 55 = .ok (.getfield 18, 3) := by decide +kernel
theorem dX8_letMothsCome_58 : decode cX8_letMothsCome 58 = .ok (.iconst 1, 1) := by decide +kernel
theorem dX8_letMothsCome_59 : decode cX8_letMothsCome 59 = .ok (.iadd, 1) := by decide +kernel
theorem dX8_letMothsCome_60 : decode cX8_letMothsCome 60 = .ok (.putfield 18, 3) := by decide +kernel
theorem dX8_letMothsCome_63 : decode cX8_letMothsCome 63 = .ok (.aload_n 0, 1) := by decide +kernel
theorem dX8_letMothsCome_64 : decode cX8_letMothsCome 64 = .ok (.iload_n 2, 1) := by decide +kernel
theorem dX8_letMothsCome_65 : decode cX8_letMothsCome 65 = .ok (.invokevirtual 100, 3) := by decide +kernel
theorem dX8_letMothsCome_68 : decode cX8_letMothsCome 68 = .ok (.iinc 2 1, 3) := by decide +kernel
theorem dX8_letMothsCome_71 : decode cX8_letMothsCome 71 = .ok (.goto (-69), 3) := by decide +kernel
theorem dX8_letMothsCome_74 : decode cX8_letMothsCome 74 = .ok (.return_, 1) := by decide +kernel
theorem dX8_isDrawn_0 : decode cX8_isDrawn 0 = .ok (.iload_n 1, 1) := by decide +kernel
theorem dX8_isDrawn_1 : decode cX8_isDrawn 1 = .ok (.ifCond .le 9, 3) := by decide +kernel
theorem dX8_isDrawn_4 : decode cX8_isDrawn 4 = .ok (.iload_n 1, 1) := by decide +kernel
theorem dX8_isDrawn_5 : decode cX8_isDrawn 5 = .ok (.bipush 100, 2) := by decide +kernel
theorem dX8_isDrawn_7 : decode cX8_isDrawn 7 = .ok (.if_icmp .lt 13, 3) := by decide +kernel
theorem dX8_isDrawn_10 : decode cX8_isDrawn 10 = .ok (.iload_n 1, 1) := by decide +kernel
theorem dX8_isDrawn_11 : decode cX8_isDrawn 11 = .ok (.ifCond .le 7, 3) := by decide +kernel
theorem dX8_isDrawn_14 : decode cX8_isDrawn 14 = .ok (.iconst 1, 1) := by decide +kernel
theorem dX8_isDrawn_15 : decode cX8_isDrawn 15 = .ok (.goto 4, 3) := by decide +kernel
theorem dX8_isDrawn_18 : decode cX8_isDrawn 18 = .ok (.iconst 0, 1) := by decide +kernel
theorem dX8_isDrawn_19 : decode cX8_isDrawn 19 = .ok (.ireturn, 1) := by decide +kernel
theorem dX8_isDrawn_20 : decode cX8_isDrawn 20 = .ok (.aload_n 0, 1) := by decide +kernel
